theorem dX7_in_0 : decode cX7_in 0 = .ok (.lload_n 0, 1) := by decide +kernel
theorem dX7_in_1 : decode cX7_in 1 = .ok (.lload_n 2, 1) := by decide +kernel
theorem dX7_in_2 : decode cX7_in 2 = .ok (.lcmp, 1) := by decide +kernel
theorem dX7_in_3 : decode cX7_in 3 = .ok (.ifCond .lt 14, 3) := by decide +kernel
theorem dX7_in_6 : decode cX7_in 6 = .ok (.lload_n 0, 1) := by decide +kernel
theorem dX7_in_7 : decode cX7_in 7 = .ok (.lload 4, 2) := by decide +kernel
theorem dX7_in_9 : decode cX7_in 9 = .ok (.lcmp, 1) := by decide +kernel
theorem dX7_in_10 : decode cX7_in 10 = .ok (.ifCond .gt 7, 3) := by decide +kernel
theorem dX7_in_13 : decode cX7_in 13 = .ok (.iconst 1, 1) := by decide +kernel
theorem dX7_in_14 : decode cX7_in 14 = .ok (.goto 4, 3) := by decide +kernel
theorem dX7_in_17 : decode cX7_in 17 = .ok (.iconst 0, 1) := by decide +kernel
theorem dX7_in_18 : decode cX7_in 18 = .ok (.ireturn, 1) := by decide +kernel
theorem dX7_isTwo_0 : decode cX7_isTwo 0 = .ok (.iload_n 0, 1) := by decide +kernel
theorem dX7_isTwo_1 : decode cX7_isTwo 1 = .ok (.i2l, 1) := by decide +kernel
theorem dX7_isTwo_2 : decode cX7_isTwo 2 = .ok (.lconst 0, 1) := by decide +kernel
theorem dX7_isTwo_3 : decode cX7_isTwo 3 = .ok (.lconst 1, 1) := by decide +kernel
theorem dX7_isTwo_4 : decode cX7_isTwo 4 = .ok (.invokestatic 51, 3) := by decide +kernel
theorem dX7_isTwo_7 : decode cX7_isTwo 7 = .ok (.ireturn, 1) := by decide +kernel
theorem dX7_tell_0 : decode cX7_tell 0 = .ok (.iload_n 1, 1) := by decide +kernel
theorem dX7_tell_1 : decode cX7_tell 1 = .ok (.bipush (-2), 2) := by decide +kernel
theorem dX7_tell_3 : decode cX7_tell 3 = .ok (.if_icmp .eq 9, 3) := by decide +kernel
theorem dX7_tell_6 : decode cX7_tell 6 = .ok (.iload_n 1, 1) := by decide +kernel
theorem dX7_tell_7 : decode cX7_tell 7 = .ok (.bipush (-10), 2) := by decide +kernel
theorem dX7_tell_9 : decode cX7_tell 9 = .ok (.if_icmp .ne 16, 3) := by decide +kernel
theorem dX7_tell_12 : decode cX7_tell 12 = .ok (.aload_n 0, 1) := by decide +kernel
theorem dX7_tell_13 : decode cX7_tell 13 = .ok (.getfield 27, 3) := by decide +kernel
theorem dX7_tell_16 : decode cX7_tell 16 = .ok (.iconst 0, 1) := by decide +kernel
theorem dX7_tell_17 : decode cX7_tell 17 = .ok (.dup2, 1) := by decide +kernel
theorem dX7_tell_18 : decode cX7_tell 18 = .ok (.iaload, 1) := by decide +kernel
theorem dX7_tell_19 : decode cX7_tell 19 = .ok (.iconst 1, 1) := by decide +kernel
theorem dX7_tell_20 : decode cX7_tell 20 = .ok (.iadd, 1) := by decide +kernel
theorem dX7_tell_21 : decode cX7_tell 21 = .ok (.iastore, 1) := by decide +kernel
theorem dX7_tell_22 : decode cX7_tell 22 = .ok (.goto 41, 3) := by decide +kernel
theorem dX7_tell_25 : decode cX7_tell 25 = .ok (.iload_n 1, 1) := by decide +kernel
theorem dX7_tell_26 : decode cX7_tell 26 = .ok (.bipush (-3), 2) := by decide +kernel
theorem dX7_tell_28 : decode cX7_tell 28 = .ok (.if_icmp .eq 15, 3) := by decide +kernel
theorem dX7_tell_31 : decode cX7_tell 31 = .ok (.iload_n 1, 1) := by decide +kernel
theorem dX7_tell_32 : decode cX7_tell 32 = .ok (.bipush (-20), 2) := by decide +kernel
theorem dX7_tell_34 : decode cX7_tell 34 = .ok (.if_icmp .eq 9, 3) := by decide +kernel
theorem dX7_tell_37 : decode cX7_tell 37 = .ok (.iload_n 1, 1) := by decide +kernel
theorem dX7_tell_38 : decode cX7_tell 38 = .ok (.bipush (-4), 2) := by decide +kernel
theorem dX7_tell_40 : decode cX7_tell 40 = .ok (.if_icmp .ne 23, 3) := by decide +kernel
theorem dX7_tell_43 : decode cX7_tell 43 = .ok (.aload_n 0, 1) := by decide +kernel
theorem dX7_tell_44 : decode cX7_tell 44 = .ok (.getfield 27, 3) := by decide +kernel
theorem dX7_tell_47 : decode cX7_tell 47 = .ok (.iload_n 1, 1) := by decide +kernel
theorem dX7_tell_48 : decode cX7_tell 48 = .ok (.bipush (-4), 2) := by decide +kernel
theorem dX7_tell_50 : decode cX7_tell 50 = .ok (.if_icmp .ne 7, 3) := by decide +kernel
theorem dX7_tell_53 : decode cX7_tell 53 = .ok (.iconst 2, 1) := by decide +kernel
theorem dX7_tell_54 : decode cX7_tell 54 = .ok (.goto 4, 3) := by decide +kernel
theorem dX7_tell_57 : decode cX7_tell 57 = .ok (.iconst 1, 1) := by decide +kernel
theorem dX7_tell_58 : decode cX7_tell 58 = .ok (.dup2, 1) := by decide +kernel
theorem dX7_tell_59 : decode cX7_tell 59 = .ok (.iaload, 1) := by decide +kernel
theorem dX7_tell_60 : decode cX7_tell 60 = .ok (.iconst 1, 1) := by decide +kernel
theorem dX7_tell_61 : decode cX7_tell 61 = .ok (.iadd, 1) := by decide +kernel
theorem dX7_tell_62 : decode cX7_tell 62 = .ok (.iastore, 1) := by decide +kernel
theorem dX7_tell_63 : decode cX7_tell 63 = .ok (.iload_n 1, 1) := by decide +kernel
theorem dX7_tell_64 : decode cX7_tell 64 = .ok (.ireturn, 1) := by decide +kernel
theorem dX7_bad_0 : decode cX7_bad 0 = .ok (.aload_n 0, 1) := by decide +kernel
theorem dX7_bad_1 : decode cX7_bad 1 = .ok (.getfield 27, 3) := by decide +kernel
theorem dX7_bad_4 : decode cX7_bad 4 = .ok (.iconst 0, 1) := by decide +kernel
theorem dX7_bad_5 : decode cX7_bad 5 = .ok (.dup2, 1) := by decide +kernel
theorem dX7_bad_6 : decode cX7_bad 6 = .ok (.iaload, 1) := by decide +kernel
theorem dX7_bad_7 : decode cX7_bad 7 = .ok (.iconst 1, 1) := by decide +kernel
theorem dX7_bad_8 : decode cX7_bad 8 = .ok (.iadd, 1) := by decide +kernel
theorem dX7_bad_9 : decode cX7_bad 9 = .ok (.iastore, 1) := by decide +kernel
theorem dX7_bad_10 : decode cX7_bad 10 = .ok (.iload_n 1, 1) := by decide +kernel
theorem dX7_bad_11 : decode cX7_bad 11 = .ok (.ireturn, 1) := by decide +kernel
theorem dX7_no_0 : decode cX7_no 0 = .ok (.aload_n 0, 1) := by decide +kernel
theorem dX7_no_1 : decode cX7_no 1 = .ok (.getfield 27, 3) := by decide +kernel
theorem dX7_no_4 : decode cX7_no 4 = .ok (.iconst 1, 1) := by decide +kernel
theorem dX7_no_5 : decode cX7_no 5 = .ok (.dup2, 1) := by decide +kernel
theorem dX7_no_6 : decode cX7_no 6 = .ok (.iaload, 1) := by decide +kernel
theorem dX7_no_7 : decode cX7_no 7 = .ok (.iconst 1, 1) := by decide +kernel
theorem dX7_no_8 : decode cX7_no 8 = .ok (.iadd, 1) := by decide +kernel
theorem dX7_no_9 : decode cX7_no 9 = .ok (.iastore, 1) := by decide +kernel
theorem dX7_no_10 : decode cX7_no 10 = .ok (.iload_n 1, 1) := by decide +kernel
theorem dX7_no_11 : decode cX7_no 11 = .ok (.ireturn, 1) := by decide +kernel
theorem dX7_bits_0 : decode cX7_bits 0 = .ok (.iconst 0, 1) := by decide +kernel
theorem dX7_bits_1 : decode cX7_bits 1 = .ok (.istore_n 1, 1) := by decide +kernel
theorem dX7_bits_2 : decode cX7_bits 2 = .ok (.iload_n 0, 1) := by decide +kernel
theorem dX7_bits_3 : decode cX7_bits 3 = .ok (.istore_n 2, 1) := by decide +kernel
theorem dX7_bits_4 : decode cX7_bits 4 = .ok (.iload_n 2, 1) := by decide +kernel
theorem dX7_bits_5 : decode cX7_bits 5 = .ok (.ifCond .eq 15, 3) := by decide +kernel
theorem dX7_bits_8 : decode cX7_bits 8 = .ok (.iinc 1 1, 3) := by decide +kernel
theorem dX7_bits_11 : decode cX7_bits 11 = .ok (.iload_n 2, 1) := by decide +kernel
theorem dX7_bits_12 : decode cX7_bits 12 = .ok (.iload_n 2, 1) := by decide +kernel
theorem dX7_bits_13 : decode cX7_bits 13 = .ok (.iconst 1, 1) := by decide +kernel
theorem dX7_bits_14 : decode cX7_bits 14 = .ok (.isub, 1) := by decide +kernel
theorem dX7_bits_15 : decode cX7_bits 15 = .ok (.iand, 1) := by decide +kernel
theorem dX7_bits_16 : decode cX7_bits 16 = .ok (.istore_n 2, 1) := by decide +kernel
theorem dX7_bits_17 : decode cX7_bits 17 = .ok (.goto (-13), 3) := by decide +kernel
theorem dX7_bits_20 : decode cX7_bits 20 = .ok (.iload_n 1, 1) := by decide +kernel
theorem dX7_bits_21 : decode cX7_bits 21 = .ok (.ireturn, 1) := by decide +kernel
theorem dX7_holds_0 : decode cX7_holds 0 = .ok (.iload_n 0, 1) := by decide +kernel
theorem dX7_holds_1 : decode cX7_holds 1 = .ok (.iload_n 1, 1) := by decide +kernel
theorem dX7_holds_2 : decode cX7_holds 2 = .ok (.ishr, 1) := by decide +kernel
theorem dX7_holds_3 : decode cX7_holds 3 = .ok (.iconst 1, 1) := by decide +kernel
theorem dX7_holds_4 : decode cX7_holds 4 = .ok (.iand, 1) := by decide +kernel
theorem dX7_holds_5 : decode cX7_holds 5 = .ok (.iconst 1, 1) := by decide +kernel
theorem dX7_holds_6 : decode cX7_holds 6 = .ok (.if_icmp .ne 7, 3) := by decide +kernel
theorem dX7_holds_9 : decode cX7_holds 9 = .ok (.iconst 1, 1) := by decide +kernel
theorem dX7_holds_10 : decode cX7_holds 10 = .ok (.goto 4, 3) := by decide +kernel
theorem dX7_holds_13 : decode cX7_holds 13 = .ok (.iconst 0, 1) := by decide +kernel
theorem dX7_holds_14 : decode cX7_holds 14 = .ok (.ireturn, 1) := by decide +kernel
theorem dX7_copies_0 : decode cX7_copies 0 = .ok (.iconst 0, 1) := by decide +kernel
theorem dX7_copies_1 : decode cX7_copies 1 = .ok (.istore 5, 2) := by decide +kernel
theorem dX7_copies_3 : decode cX7_copies 3 = .ok (.iload 5, 2) := by decide +kernel
theorem dX7_copies_5 : decode cX7_copies 5 = .ok (.iload 4, 2) := by decide +kernel
theorem dX7_copies_7 : decode cX7_copies 7 = .ok (.if_icmp .ge 21, 3) := by decide +kernel
theorem dX7_copies_10 : decode cX7_copies 10 = .ok (.aload_n 2, 1) := by decide +kernel
theorem dX7_copies_11 : decode cX7_copies 11 = .ok (.iload_n 3, 1) := by decide +kernel
theorem dX7_copies_12 : decode cX7_copies 12 = .ok (.iload 5, 2) := by decide +kernel
theorem dX7_copies_14 : decode cX7_copies 14 = .ok (.iadd, 1) := by decide +kernel
theorem dX7_copies_15 : decode cX7_copies 15 = .ok (.aload_n 0, 1) := by decide +kernel
theorem dX7_copies_16 : decode cX7_copies 16 = .ok (.iload_n 1, 1) := by decide +kernel
theorem dX7_copies_17 : decode cX7_copies 17 = .ok (.iload 5, 2) := by decide +kernel
theorem dX7_copies_19 : decode cX7_copies 19 = .ok (.iadd, 1) := by decide +kernel
theorem dX7_copies_20 : decode cX7_copies 20 = .ok (.iaload, 1) := by decide +kernel
theorem dX7_copies_21 : decode cX7_copies 21 = .ok (.iastore, 1) := by decide +kernel
theorem dX7_copies_22 : decode cX7_copies 22 = .ok (.iinc 5 1, 3) := by decide +kernel
theorem dX7_copies_25 : decode cX7_copies 25 = .ok (.goto (-22), 3) := by decide +kernel
theorem dX7_copies_28 : decode cX7_copies 28 = .ok (.return_, 1) := by decide +kernel
theorem dX7_isHouse_0 : decode cX7_isHouse 0 = .ok (.iload_n 1, 1) := by decide +kernel
theorem dX7_isHouse_1 : decode cX7_isHouse 1 = .ok (.i2l, 1) := by decide +kernel
theorem dX7_isHouse_2 : decode cX7_isHouse 2 = .ok (.lconst 0, 1) := by decide +kernel
theorem dX7_isHouse_3 : decode cX7_isHouse 3 = .ok (.aload_n 0, 1) := by decide +kernel
theorem dX7_isHouse_4 : decode cX7_isHouse 4 = .ok (.getfield 7, 3) := by decide +kernel
theorem dX7_isHouse_7 : decode cX7_isHouse 7 = .ok (.iconst 0, 1) := by decide +kernel
theorem dX7_isHouse_8 : decode cX7_isHouse 8 = .ok (.iaload, 1) := by decide +kernel
theorem dX7_isHouse_9 : decode cX7_isHouse 9 = .ok (.iconst 1, 1) := by decide +kernel
theorem dX7_isHouse_10 : decode cX7_isHouse 10 = .ok (.isub, 1) := by decide +kernel
theorem dX7_isHouse_11 : decode cX7_isHouse 11 = .ok (.i2l, 1) := by decide +kernel
theorem dX7_isHouse_12 : decode cX7_isHouse 12 = .ok (.invokestatic 51, 3) := by decide +kernel
theorem dX7_isHouse_15 : decode cX7_isHouse 15 = .ok (.ireturn, 1) := by decide +kernel
theorem dX7_isOne_0 : decode cX7_isOne 0 = .ok (.iload_n 1, 1) := by decide +kernel
theorem dX7_isOne_1 : decode cX7_isOne 1 = .ok (.i2l, 1) := by decide +kernel
theorem dX7_isOne_2 : decode cX7_isOne 2 = .ok (.lconst 0, 1) := by decide +kernel
theorem dX7_isOne_3 : decode cX7_isOne 3 = .ok (.aload_n 0, 1) := by decide +kernel
theorem dX7_isOne_4 : decode cX7_isOne 4 = .ok (.getfield 7, 3) := by decide +kernel
theorem dX7_isOne_7 : decode cX7_isOne 7 = .ok (.iconst 1, 1) := by decide +kernel
theorem dX7_isOne_8 : decode cX7_isOne 8 = .ok (.iaload, 1) := by decide +kernel
theorem dX7_isOne_9 : decode cX7_isOne 9 = .ok (.iconst 1, 1) := by decide +kernel
theorem dX7_isOne_10 : decode cX7_isOne 10 = .ok (.isub, 1) := by decide +kernel
theorem dX7_isOne_11 : decode cX7_isOne 11 = .ok (.i2l, 1) := by decide +kernel
theorem dX7_isOne_12 : decode cX7_isOne 12 = .ok (.invokestatic 51, 3) := by decide +kernel
theorem dX7_isOne_15 : decode cX7_isOne 15 = .ok (.ireturn, 1) := by decide +kernel
theorem dX7_isFamily_0 : decode cX7_isFamily 0 = .ok (.iload_n 0, 1) := by decide +kernel
theorem dX7_isFamily_1 : decode cX7_isFamily 1 = .ok (.i2l, 1) := by decide +kernel
theorem dX7_isFamily_2 : decode cX7_isFamily 2 = .ok (.lconst 0, 1) := by decide +kernel
theorem dX7_isFamily_3 : decode cX7_isFamily 3 = .ok (.ldc2_w 55, 3) := by decide +kernel
theorem dX7_isFamily_6 : decode cX7_isFamily 6 = .ok (.invokestatic 51, 3) := by decide +kernel
theorem dX7_isFamily_9 : decode cX7_isFamily 9 = .ok (.ireturn, 1) := by decide +kernel
theorem dX7_doHouse_0 : decode cX7_doHouse 0 = .ok (.iload_n 1, 1) := by decide +kernel
theorem dX7_doHouse_1 : decode cX7_doHouse 1 = .ok (.i2l, 1) := by decide +kernel
theorem dX7_doHouse_2 : decode cX7_doHouse 2 = .ok (.lconst 1, 1) := by decide +kernel
theorem dX7_doHouse_3 : decode cX7_doHouse 3 = .ok (.ldc2_w 57, 3) := by decide +kernel
theorem dX7_doHouse_6 : decode cX7_doHouse 6 = .ok (.invokestatic 51, 3) := by decide +kernel
theorem dX7_doHouse_9 : decode cX7_doHouse 9 = .ok (.ifCond .eq 27, 3) := by decide +kernel
theorem dX7_doHouse_12 : decode cX7_doHouse 12 = .ok (.iload_n 2, 1) := by decide +kernel
theorem dX7_doHouse_13 : decode cX7_doHouse 13 = .ok (.i2l, 1) := by decide +kernel
theorem dX7_doHouse_14 : decode cX7_doHouse 14 = .ok (.lconst 0, 1) := by decide +kernel
theorem dX7_doHouse_15 : decode cX7_doHouse 15 = .ok (.ldc2_w 59, 3) := by decide +kernel
theorem dX7_doHouse_18 : decode cX7_doHouse 18 = .ok (.invokestatic 51, 3) := by decide +kernel
theorem dX7_doHouse_21 : decode cX7_doHouse 21 = .ok (.ifCond .eq 15, 3) := by decide +kernel
theorem dX7_doHouse_24 : decode cX7_doHouse 24 = .ok (.iload_n 3, 1) := by decide +kernel
theorem dX7_doHouse_25 : decode cX7_doHouse 25 = .ok (.i2l, 1) := by decide +kernel
theorem dX7_doHouse_26 : decode cX7_doHouse 26 = .ok (.lconst 0, 1) := by decide +kernel
theorem dX7_doHouse_27 : decode cX7_doHouse 27 = .ok (.ldc2_w 59, 3) := by decide +kernel
theorem dX7_doHouse_30 : decode cX7_doHouse 30 = .ok (.invokestatic 51, 3) := by decide +kernel
theorem dX7_doHouse_33 : decode cX7_doHouse 33 = .ok (.ifCond .ne 6, 3) := by decide +kernel
theorem dX7_doHouse_36 : decode cX7_doHouse 36 = .ok (.bipush (-2), 2) := by decide +kernel
theorem dX7_doHouse_38 : decode cX7_doHouse 38 = .ok (.ireturn, 1) := by decide +kernel
theorem dX7_doHouse_39 : decode cX7_doHouse 39 = .ok (.aload_n 0, 1) := by decide +kernel
theorem dX7_doHouse_40 : decode cX7_doHouse 40 = .ok (.getfield 7, 3) := by decide +kernel
theorem dX7_doHouse_43 : decode cX7_doHouse 43 = .ok (.iconst 0, 1) := by decide +kernel
theorem dX7_doHouse_44 : decode cX7_doHouse 44 = .ok (.iaload, 1) := by decide +kernel
theorem dX7_doHouse_45 : decode cX7_doHouse 45 = .ok (.istore 4, 2) := by decide +kernel
theorem dX7_doHouse_47 : decode cX7_doHouse 47 = .ok (.iload 4, 2) := by decide +kernel
theorem dX7_doHouse_49 : decode cX7_doHouse 49 = .ok (.iconst 5, 1) := by decide +kernel
theorem dX7_doHouse_50 : decode cX7_doHouse 50 = .ok (.if_icmp .ne 6, 3) := by decide +kernel
theorem dX7_doHouse_53 : decode cX7_doHouse 53 = .ok (.bipush (-4), 2) := by decide +kernel
theorem dX7_doHouse_55 : decode cX7_doHouse 55 = .ok (.ireturn, 1) := by decide +kernel
theorem dX7_doHouse_56 : decode cX7_doHouse 56 = .ok (.aload_n 0, 1) := by decide +kernel
theorem dX7_doHouse_57 : decode cX7_doHouse 57 = .ok (.getfield 7, 3) := by decide +kernel
theorem dX7_doHouse_60 : decode cX7_doHouse 60 = .ok (.iconst 4, 1) := by decide +kernel
theorem dX7_doHouse_61 : decode cX7_doHouse 61 = .ok (.iload 4, 2) := by decide +kernel
theorem dX7_doHouse_63 : decode cX7_doHouse 63 = .ok (.iadd, 1) := by decide +kernel
theorem dX7_doHouse_64 : decode cX7_doHouse 64 = .ok (.iload_n 1, 1) := by decide +kernel
theorem dX7_doHouse_65 : decode cX7_doHouse 65 = .ok (.iastore, 1) := by decide +kernel
theorem dX7_doHouse_66 : decode cX7_doHouse 66 = .ok (.aload_n 0, 1) := by decide +kernel
theorem dX7_doHouse_67 : decode cX7_doHouse 67 = .ok (.getfield 7, 3) := by decide +kernel
theorem dX7_doHouse_70 : decode cX7_doHouse 70 = .ok (.bipush 9, 2) := by decide +kernel
theorem dX7_doHouse_72 : decode cX7_doHouse 72 = .ok (.iload 4, 2) := by decide +kernel
theorem dX7_doHouse_74 : decode cX7_doHouse 74 = .ok (.iadd, 1) := by decide +kernel
theorem dX7_doHouse_75 : decode cX7_doHouse 75 = .ok (.iload_n 2, 1) := by decide +kernel
theorem dX7_doHouse_76 : decode cX7_doHouse 76 = .ok (.iastore, 1) := by decide +kernel
theorem dX7_doHouse_77 : decode cX7_doHouse 77 = .ok (.aload_n 0, 1) := by decide +kernel
theorem dX7_doHouse_78 : decode cX7_doHouse 78 = .ok (.getfield 7, 3) := by decide +kernel
theorem dX7_doHouse_81 : decode cX7_doHouse 81 = .ok (.bipush 14, 2) := by decide +kernel
theorem dX7_doHouse_83 : decode cX7_doHouse 83 = .ok (.iload 4, 2) := by decide +kernel
theorem dX7_doHouse_85 : decode cX7_doHouse 85 = .ok (.iadd, 1) := by decide +kernel
theorem dX7_doHouse_86 : decode cX7_doHouse 86 = .ok (.iload_n 3, 1) := by decide +kernel
theorem dX7_doHouse_87 : decode cX7_doHouse 87 = .ok (.iastore, 1) := by decide +kernel
theorem dX7_doHouse_88 : decode cX7_doHouse 88 = .ok (.aload_n 0, 1) := by decide +kernel
theorem dX7_doHouse_89 : decode cX7_doHouse 89 = .ok (.getfield 7, 3) := by decide +kernel
theorem dX7_doHouse_92 : decode cX7_doHouse 92 = .ok (.bipush 19, 2) := by decide +kernel
theorem dX7_doHouse_94 : decode cX7_doHouse 94 = .ok (.iload 4, 2) := by decide +kernel
theorem dX7_doHouse_96 : decode cX7_doHouse 96 = .ok (.iadd, 1) := by decide +kernel
theorem dX7_doHouse_97 : decode cX7_doHouse 97 = .ok (.iconst (-1), 1) := by decide +kernel
theorem dX7_doHouse_98 : decode cX7_doHouse 98 = .ok (.iastore, 1) := by decide +kernel
theorem dX7_doHouse_99 : decode cX7_doHouse 99 = .ok (.aload_n 0, 1) := by decide +kernel
theorem dX7_doHouse_100 : decode cX7_doHouse 100 = .ok (.getfield 7, 3) := by decide +kernel
theorem dX7_doHouse_103 : decode cX7_doHouse 103 = .ok (.bipush 24, 2) := by decide +kernel
theorem dX7_doHouse_105 : decode cX7_doHouse 105 = .ok (.iload 4, 2) := by decide +kernel
theorem dX7_doHouse_107 : decode cX7_doHouse 107 = .ok (.iadd, 1) := by decide +kernel
theorem dX7_doHouse_108 : decode cX7_doHouse 108 = .ok (.iconst 0, 1) := by decide +kernel
theorem dX7_doHouse_109 : decode cX7_doHouse 109 = .ok (.iastore, 1) := by decide +kernel
theorem dX7_doHouse_110 : decode cX7_doHouse 110 = .ok (.aload_n 0, 1) := by decide +kernel
theorem dX7_doHouse_111 : decode cX7_doHouse 111 = .ok (.getfield 7, 3) := by decide +kernel
theorem dX7_doHouse_114 : decode cX7_doHouse 114 = .ok (.bipush 29, 2) := by decide +kernel
theorem dX7_doHouse_116 : decode cX7_doHouse 116 = .ok (.iload 4, 2) := by decide +kernel
theorem dX7_doHouse_118 : decode cX7_doHouse 118 = .ok (.iadd, 1) := by decide +kernel
theorem dX7_doHouse_119 : decode cX7_doHouse 119 = .ok (.iconst 1, 1) := by decide +kernel
theorem dX7_doHouse_120 : decode cX7_doHouse 120 = .ok (.iastore, 1) := by decide +kernel
theorem dX7_doHouse_121 : decode cX7_doHouse 121 = .ok (.aload_n 0, 1) := by decide +kernel
theorem dX7_doHouse_122 : decode cX7_doHouse 122 = .ok (.getfield 7, 3) := by decide +kernel
theorem dX7_doHouse_125 : decode cX7_doHouse 125 = .ok (.bipush 34, 2) := by decide +kernel
theorem dX7_doHouse_127 : decode cX7_doHouse 127 = .ok (.iload 4, 2) := by decide +kernel
theorem dX7_doHouse_129 : decode cX7_doHouse 129 = .ok (.iadd, 1) := by decide +kernel
theorem dX7_doHouse_130 : decode cX7_doHouse 130 = .ok (.iconst 0, 1) := by decide +kernel
theorem dX7_doHouse_131 : decode cX7_doHouse 131 = .ok (.iastore, 1) := by decide +kernel
theorem dX7_doHouse_132 : decode cX7_doHouse 132 = .ok (.aload_n 0, 1) := by decide +kernel
theorem dX7_doHouse_133 : decode cX7_doHouse 133 = .ok (.getfield 7, 3) := by decide +kernel
theorem dX7_doHouse_136 : decode cX7_doHouse 136 = .ok (.iconst 0, 1) := by decide +kernel
theorem dX7_doHouse_137 : decode cX7_doHouse 137 = .ok (.dup2, 1) := by decide +kernel
theorem dX7_doHouse_138 : decode cX7_doHouse 138 = .ok (.iaload, 1) := by decide +kernel
theorem dX7_doHouse_139 : decode cX7_doHouse 139 = .ok (.iconst 1, 1) := by decide +kernel
theorem dX7_doHouse_140 : decode cX7_doHouse 140 = .ok (.iadd, 1) := by decide +kernel
theorem dX7_doHouse_141 : decode cX7_doHouse 141 = .ok (.iastore, 1) := by decide +kernel
theorem dX7_doHouse_142 : decode cX7_doHouse 142 = .ok (.aload_n 0, 1) := by decide +kernel
theorem dX7_doHouse_143 : decode cX7_doHouse 143 = .ok (.getfield 7, 3) := by decide +kernel
theorem dX7_doHouse_146 : decode cX7_doHouse 146 = .ok (.iconst 3, 1) := by decide +kernel
theorem dX7_doHouse_147 : decode cX7_doHouse 147 = .ok (.iconst 0, 1) := by decide +kernel
theorem dX7_doHouse_148 : decode cX7_doHouse 148 = .ok (.iastore, 1) := by decide +kernel
theorem dX7_doHouse_149 : decode cX7_doHouse 149 = .ok (.iload 4, 2) := by decide +kernel
theorem dX7_doHouse_151 : decode cX7_doHouse 151 = .ok (.ireturn, 1) := by decide +kernel
theorem dX7_doFrom_0 : decode cX7_doFrom 0 = .ok (.aload_n 0, 1) := by decide +kernel
theorem dX7_doFrom_1 : decode cX7_doFrom 1 = .ok (.iload_n 1, 1) := by decide +kernel
theorem dX7_doFrom_2 : decode cX7_doFrom 2 = .ok (.invokevirtual 61, 3) := by decide +kernel
theorem dX7_doFrom_5 : decode cX7_doFrom 5 = .ok (.ifCond .eq 18, 3) := by decide +kernel
theorem dX7_doFrom_8 : decode cX7_doFrom 8 = .ok (.iload_n 2, 1) := by decide +kernel
theorem dX7_doFrom_9 : decode cX7_doFrom 9 = .ok (.i2l, 1) := by decide +kernel
theorem dX7_doFrom_10 : decode cX7_doFrom 10 = .ok (.ldc2_w 65, 3) := by decide +kernel
theorem dX7_doFrom_13 : decode cX7_doFrom 13 = .ok (.iload_n 1, 1) := by decide +kernel
theorem dX7_doFrom_14 : decode cX7_doFrom 14 = .ok (.iconst 1, 1) := by decide +kernel
theorem dX7_doFrom_15 : decode cX7_doFrom 15 = .ok (.isub, 1) := by decide +kernel
theorem dX7_doFrom_16 : decode cX7_doFrom 16 = .ok (.i2l, 1) := by decide +kernel
theorem dX7_doFrom_17 : decode cX7_doFrom 17 = .ok (.invokestatic 51, 3) := by decide +kernel
theorem dX7_doFrom_20 : decode cX7_doFrom 20 = .ok (.ifCond .ne 6, 3) := by decide +kernel
theorem dX7_doFrom_23 : decode cX7_doFrom 23 = .ok (.bipush (-10), 2) := by decide +kernel
theorem dX7_doFrom_25 : decode cX7_doFrom 25 = .ok (.ireturn, 1) := by decide +kernel
theorem dX7_doFrom_26 : decode cX7_doFrom 26 = .ok (.aload_n 0, 1) := by decide +kernel
theorem dX7_doFrom_27 : decode cX7_doFrom 27 = .ok (.getfield 7, 3) := by decide +kernel
theorem dX7_doFrom_30 : decode cX7_doFrom 30 = .ok (.bipush 19, 2) := by decide +kernel
theorem dX7_doFrom_32 : decode cX7_doFrom 32 = .ok (.iload_n 1, 1) := by decide +kernel
theorem dX7_doFrom_33 : decode cX7_doFrom 33 = .ok (.iadd, 1) := by decide +kernel
theorem dX7_doFrom_34 : decode cX7_doFrom 34 = .ok (.iaload, 1) := by decide +kernel
theorem dX7_doFrom_35 : decode cX7_doFrom 35 = .ok (.istore_n 3, 1) := by decide +kernel
theorem dX7_doFrom_36 : decode cX7_doFrom 36 = .ok (.aload_n 0, 1) := by decide +kernel
theorem dX7_doFrom_37 : decode cX7_doFrom 37 = .ok (.getfield 7, 3) := by decide +kernel
theorem dX7_doFrom_40 : decode cX7_doFrom 40 = .ok (.bipush 19, 2) := by decide +kernel
theorem dX7_doFrom_42 : decode cX7_doFrom 42 = .ok (.iload_n 1, 1) := by decide +kernel
theorem dX7_doFrom_43 : decode cX7_doFrom 43 = .ok (.iadd, 1) := by decide +kernel
theorem dX7_doFrom_44 : decode cX7_doFrom 44 = .ok (.iload_n 2, 1) := by decide +kernel
theorem dX7_doFrom_45 : decode cX7_doFrom 45 = .ok (.iastore, 1) := by decide +kernel
theorem dX7_doFrom_46 : decode cX7_doFrom 46 = .ok (.aload_n 0, 1) := by decide +kernel
theorem dX7_doFrom_47 : decode cX7_doFrom 47 = .ok (.getfield 7, 3) := by decide +kernel
theorem dX7_doFrom_50 : decode cX7_doFrom 50 = .ok (.iconst 3, 1) := by decide +kernel
theorem dX7_doFrom_51 : decode cX7_doFrom 51 = .ok (.iconst 0, 1) := by decide +kernel
theorem dX7_doFrom_52 : decode cX7_doFrom 52 = .ok (.iastore, 1) := by decide +kernel
theorem dX7_doFrom_53 : decode cX7_doFrom 53 = .ok (.iload_n 3, 1) := by decide +kernel
theorem dX7_doFrom_54 : decode cX7_doFrom 54 = .ok (.ireturn, 1) := by decide +kernel
theorem dX7_doWill_0 : decode cX7_doWill 0 = .ok (.aload_n 0, 1) := by decide +kernel
theorem dX7_doWill_1 : decode cX7_doWill 1 = .ok (.iload_n 1, 1) := by decide +kernel
theorem dX7_doWill_2 : decode cX7_doWill 2 = .ok (.invokevirtual 61, 3) := by decide +kernel
theorem dX7_doWill_5 : decode cX7_doWill 5 = .ok (.ifCond .eq 15, 3) := by decide +kernel
theorem dX7_doWill_8 : decode cX7_doWill 8 = .ok (.iload_n 2, 1) := by decide +kernel
theorem dX7_doWill_9 : decode cX7_doWill 9 = .ok (.i2l, 1) := by decide +kernel
theorem dX7_doWill_10 : decode cX7_doWill 10 = .ok (.lconst 0, 1) := by decide +kernel
theorem dX7_doWill_11 : decode cX7_doWill 11 = .ok (.ldc2_w 67, 3) := by decide +kernel
theorem dX7_doWill_14 : decode cX7_doWill 14 = .ok (.invokestatic 51, 3) := by decide +kernel
theorem dX7_doWill_17 : decode cX7_doWill 17 = .ok (.ifCond .ne 6, 3) := by decide +kernel
theorem dX7_doWill_20 : decode cX7_doWill 20 = .ok (.bipush (-2), 2) := by decide +kernel
theorem dX7_doWill_22 : decode cX7_doWill 22 = .ok (.ireturn, 1) := by decide +kernel
theorem dX7_doWill_23 : decode cX7_doWill 23 = .ok (.aload_n 0, 1) := by decide +kernel
theorem dX7_doWill_24 : decode cX7_doWill 24 = .ok (.getfield 7, 3) := by decide +kernel
theorem dX7_doWill_27 : decode cX7_doWill 27 = .ok (.bipush 24, 2) := by decide +kernel
theorem dX7_doWill_29 : decode cX7_doWill 29 = .ok (.iload_n 1, 1) := by decide +kernel
theorem dX7_doWill_30 : decode cX7_doWill 30 = .ok (.iadd, 1) := by decide +kernel
theorem dX7_doWill_31 : decode cX7_doWill 31 = .ok (.iaload, 1) := by decide +kernel
theorem dX7_doWill_32 : decode cX7_doWill 32 = .ok (.istore_n 3, 1) := by decide +kernel
theorem dX7_doWill_33 : decode cX7_doWill 33 = .ok (.aload_n 0, 1) := by decide +kernel
theorem dX7_doWill_34 : decode cX7_doWill 34 = .ok (.getfield 7, 3) := by decide +kernel
theorem dX7_doWill_37 : decode cX7_doWill 37 = .ok (.bipush 24, 2) := by decide +kernel
theorem dX7_doWill_39 : decode cX7_doWill 39 = .ok (.iload_n 1, 1) := by decide +kernel
theorem dX7_doWill_40 : decode cX7_doWill 40 = .ok (.iadd, 1) := by decide +kernel
theorem dX7_doWill_41 : decode cX7_doWill 41 = .ok (.iload_n 2, 1) := by decide +kernel
theorem dX7_doWill_42 : decode cX7_doWill 42 = .ok (.iastore, 1) := by decide +kernel
theorem dX7_doWill_43 : decode cX7_doWill 43 = .ok (.aload_n 0, 1) := by decide +kernel
theorem dX7_doWill_44 : decode cX7_doWill 44 = .ok (.getfield 7, 3) := by decide +kernel
theorem dX7_doWill_47 : decode cX7_doWill 47 = .ok (.iconst 3, 1) := by decide +kernel
theorem dX7_doWill_48 : decode cX7_doWill 48 = .ok (.iconst 0, 1) := by decide +kernel
theorem dX7_doWill_49 : decode cX7_doWill 49 = .ok (.iastore, 1) := by decide +kernel
theorem dX7_doWill_50 : decode cX7_doWill 50 = .ok (.iload_n 3, 1) := by decide +kernel
theorem dX7_doWill_51 : decode cX7_doWill 51 = .ok (.ireturn, 1) := by decide +kernel
theorem dX7_doWall_0 : decode cX7_doWall 0 = .ok (.aload_n 0, 1) := by decide +kernel
theorem dX7_doWall_1 : decode cX7_doWall 1 = .ok (.iload_n 1, 1) := by decide +kernel
theorem dX7_doWall_2 : decode cX7_doWall 2 = .ok (.invokevirtual 61, 3) := by decide +kernel
theorem dX7_doWall_5 : decode cX7_doWall 5 = .ok (.ifCond .eq 16, 3) := by decide +kernel
theorem dX7_doWall_8 : decode cX7_doWall 8 = .ok (.aload_n 0, 1) := by decide +kernel
theorem dX7_doWall_9 : decode cX7_doWall 9 = .ok (.iload_n 2, 1) := by decide +kernel
theorem dX7_doWall_10 : decode cX7_doWall 10 = .ok (.invokevirtual 61, 3) := by decide +kernel
theorem dX7_doWall_13 : decode cX7_doWall 13 = .ok (.ifCond .eq 8, 3) := by decide +kernel
theorem dX7_doWall_16 : decode cX7_doWall 16 = .ok (.iload_n 1, 1) := by decide +kernel
theorem dX7_doWall_17 : decode cX7_doWall 17 = .ok (.iload_n 2, 1) := by decide +kernel
theorem dX7_doWall_18 : decode cX7_doWall 18 = .ok (.if_icmp .ne 6, 3) := by decide +kernel
theorem dX7_doWall_21 : decode cX7_doWall 21 = .ok (.bipush (-2), 2) := by decide +kernel
theorem dX7_doWall_23 : decode cX7_doWall 23 = .ok (.ireturn, 1) := by decide +kernel
theorem dX7_doWall_24 : decode cX7_doWall 24 = .ok (.aload_n 0, 1) := by decide +kernel
theorem dX7_doWall_25 : decode cX7_doWall 25 = .ok (.getfield 7, 3) := by decide +kernel
theorem dX7_doWall_28 : decode cX7_doWall 28 = .ok (.bipush 39, 2) := by decide +kernel
theorem dX7_doWall_30 : decode cX7_doWall 30 = .ok (.iconst 5, 1) := by decide +kernel
theorem dX7_doWall_31 : decode cX7_doWall 31 = .ok (.iload_n 1, 1) := by decide +kernel
theorem dX7_doWall_32 : decode cX7_doWall 32 = .ok (.imul, 1) := by decide +kernel
theorem dX7_doWall_33 : decode cX7_doWall 33 = .ok (.iadd, 1) := by decide +kernel
theorem dX7_doWall_34 : decode cX7_doWall 34 = .ok (.iload_n 2, 1) := by decide +kernel
theorem dX7_doWall_35 : decode cX7_doWall 35 = .ok (.iadd, 1) := by decide +kernel
theorem dX7_doWall_36 : decode cX7_doWall 36 = .ok (.iaload, 1) := by decide +kernel
theorem dX7_doWall_37 : decode cX7_doWall 37 = .ok (.iconst 1, 1) := by decide +kernel
theorem dX7_doWall_38 : decode cX7_doWall 38 = .ok (.if_icmp .ne 7, 3) := by decide +kernel
theorem dX7_doWall_41 : decode cX7_doWall 41 = .ok (.iconst 1, 1) := by decide +kernel
theorem dX7_doWall_42 : decode cX7_doWall 42 = .ok (.goto 4, 3) := by decide +kernel
theorem dX7_doWall_45 : decode cX7_doWall 45 = .ok (.iconst 0, 1) := by decide +kernel
theorem dX7_doWall_46 : decode cX7_doWall 46 = .ok (.iload_n 3, 1) := by decide +kernel
theorem dX7_doWall_47 : decode cX7_doWall 47 = .ok (.if_icmp .ne 6, 3) := by decide +kernel
theorem dX7_doWall_50 : decode cX7_doWall 50 = .ok (.bipush (-3), 2) := by decide +kernel
theorem dX7_doWall_52 : decode cX7_doWall 52 = .ok (.ireturn, 1) := by decide +kernel
theorem dX7_doWall_53 : decode cX7_doWall 53 = .ok (.aload_n 0, 1) := by decide +kernel
theorem dX7_doWall_54 : decode cX7_doWall 54 = .ok (.getfield 7, 3) := by decide +kernel
theorem dX7_doWall_57 : decode cX7_doWall 57 = .ok (.bipush 39, 2) := by decide +kernel
theorem dX7_doWall_59 : decode cX7_doWall 59 = .ok (.iconst 5, 1) := by decide +kernel
theorem dX7_doWall_60 : decode cX7_doWall 60 = .ok (.iload_n 1, 1) := by decide +kernel
theorem dX7_doWall_61 : decode cX7_doWall 61 = .ok (.imul, 1) := by decide +kernel
theorem dX7_doWall_62 : decode cX7_doWall 62 = .ok (.iadd, 1) := by decide +kernel
theorem dX7_doWall_63 : decode cX7_doWall 63 = .ok (.iload_n 2, 1) := by decide +kernel
theorem dX7_doWall_64 : decode cX7_doWall 64 = .ok (.iadd, 1) := by decide +kernel
theorem dX7_doWall_65 : decode cX7_doWall 65 = .ok (.iload_n 3, 1) := by decide +kernel
theorem dX7_doWall_66 : decode cX7_doWall 66 = .ok (.ifCond .eq 7, 3) := by decide +kernel
theorem dX7_doWall_69 : decode cX7_doWall 69 = .ok (.iconst 1, 1) := by decide +kernel
theorem dX7_doWall_70 : decode cX7_doWall 70 = .ok (.goto 4, 3) := by decide +kernel
theorem dX7_doWall_73 : decode cX7_doWall 73 = .ok (.iconst 0, 1) := by decide +kernel
theorem dX7_doWall_74 : decode cX7_doWall 74 = .ok (.iastore, 1) := by decide +kernel
theorem dX7_doWall_75 : decode cX7_doWall 75 = .ok (.aload_n 0, 1) := by decide +kernel
theorem dX7_doWall_76 : decode cX7_doWall 76 = .ok (.getfield 7, 3) := by decide +kernel
theorem dX7_doWall_79 : decode cX7_doWall 79 = .ok (.bipush 39, 2) := by decide +kernel
theorem dX7_doWall_81 : decode cX7_doWall 81 = .ok (.iconst 5, 1) := by decide +kernel
theorem dX7_doWall_82 : decode cX7_doWall 82 = .ok (.iload_n 2, 1) := by decide +kernel
theorem dX7_doWall_83 : decode cX7_doWall 83 = .ok (.imul, 1) := by decide +kernel
theorem dX7_doWall_84 : decode cX7_doWall 84 = .ok (.iadd, 1) := by decide +kernel
theorem dX7_doWall_85 : decode cX7_doWall 85 = .ok (.iload_n 1, 1) := by decide +kernel
theorem dX7_doWall_86 : decode cX7_doWall 86 = .ok (.iadd, 1) := by decide +kernel
theorem dX7_doWall_87 : decode cX7_doWall 87 = .ok (.iload_n 3, 1) := by decide +kernel
theorem dX7_doWall_88 : decode cX7_doWall 88 = .ok (.ifCond .eq 7, 3) := by decide +kernel
theorem dX7_doWall_91 : decode cX7_doWall 91 = .ok (.iconst 1, 1) := by decide +kernel
theorem dX7_doWall_92 : decode cX7_doWall 92 = .ok (.goto 4, 3) := by decide +kernel
theorem dX7_doWall_95 : decode cX7_doWall 95 = .ok (.iconst 0, 1) := by decide +kernel
theorem dX7_doWall_96 : decode cX7_doWall 96 = .ok (.iastore, 1) := by decide +kernel
theorem dX7_doWall_97 : decode cX7_doWall 97 = .ok (.aload_n 0, 1) := by decide +kernel
theorem dX7_doWall_98 : decode cX7_doWall 98 = .ok (.getfield 7, 3) := by decide +kernel
theorem dX7_doWall_101 : decode cX7_doWall 101 = .ok (.iconst 3, 1) := by decide +kernel
theorem dX7_doWall_102 : decode cX7_doWall 102 = .ok (.iconst 0, 1) := by decide +kernel
theorem dX7_doWall_103 : decode cX7_doWall 103 = .ok (.iastore, 1) := by decide +kernel
theorem dX7_doWall_104 : decode cX7_doWall 104 = .ok (.iconst 1, 1) := by decide +kernel
theorem dX7_doWall_105 : decode cX7_doWall 105 = .ok (.ireturn, 1) := by decide +kernel
theorem dX7_doOne_0 : decode cX7_doOne 0 = .ok (.iload_n 1, 1) := by decide +kernel
theorem dX7_doOne_1 : decode cX7_doOne 1 = .ok (.invokestatic 69, 3) := by decide +kernel
theorem dX7_doOne_4 : decode cX7_doOne 4 = .ok (.ifCond .eq 16, 3) := by decide +kernel
theorem dX7_doOne_7 : decode cX7_doOne 7 = .ok (.iload_n 2, 1) := by decide +kernel
theorem dX7_doOne_8 : decode cX7_doOne 8 = .ok (.iconst (-1), 1) := by decide +kernel
theorem dX7_doOne_9 : decode cX7_doOne 9 = .ok (.if_icmp .eq 14, 3) := by decide +kernel
theorem dX7_doOne_12 : decode cX7_doOne 12 = .ok (.aload_n 0, 1) := by decide +kernel
theorem dX7_doOne_13 : decode cX7_doOne 13 = .ok (.iload_n 2, 1) := by decide +kernel
theorem dX7_doOne_14 : decode cX7_doOne 14 = .ok (.invokevirtual 61, 3) := by decide +kernel
theorem dX7_doOne_17 : decode cX7_doOne 17 = .ok (.ifCond .ne 6, 3) := by decide +kernel
theorem dX7_doOne_20 : decode cX7_doOne 20 = .ok (.bipush (-2), 2) := by decide +kernel
theorem dX7_doOne_22 : decode cX7_doOne 22 = .ok (.ireturn, 1) := by decide +kernel
theorem dX7_doOne_23 : decode cX7_doOne 23 = .ok (.iload_n 2, 1) := by decide +kernel
theorem dX7_doOne_24 : decode cX7_doOne 24 = .ok (.iconst (-1), 1) := by decide +kernel
theorem dX7_doOne_25 : decode cX7_doOne 25 = .ok (.if_icmp .eq 18, 3) := by decide +kernel
theorem dX7_doOne_28 : decode cX7_doOne 28 = .ok (.aload_n 0, 1) := by decide +kernel
theorem dX7_doOne_29 : decode cX7_doOne 29 = .ok (.getfield 7, 3) := by decide +kernel
theorem dX7_doOne_32 : decode cX7_doOne 32 = .ok (.bipush 29, 2) := by decide +kernel
theorem dX7_doOne_34 : decode cX7_doOne 34 = .ok (.iload_n 2, 1) := by decide +kernel
theorem dX7_doOne_35 : decode cX7_doOne 35 = .ok (.iadd, 1) := by decide +kernel
theorem dX7_doOne_36 : decode cX7_doOne 36 = .ok (.iaload, 1) := by decide +kernel
theorem dX7_doOne_37 : decode cX7_doOne 37 = .ok (.ifCond .ne 6, 3) := by decide +kernel
theorem dX7_doOne_40 : decode cX7_doOne 40 = .ok (.bipush (-3), 2) := by decide +kernel
theorem dX7_doOne_42 : decode cX7_doOne 42 = .ok (.ireturn, 1) := by decide +kernel
theorem dX7_doOne_43 : decode cX7_doOne 43 = .ok (.aload_n 0, 1) := by decide +kernel
theorem dX7_doOne_44 : decode cX7_doOne 44 = .ok (.getfield 7, 3) := by decide +kernel
theorem dX7_doOne_47 : decode cX7_doOne 47 = .ok (.iconst 1, 1) := by decide +kernel
theorem dX7_doOne_48 : decode cX7_doOne 48 = .ok (.iaload, 1) := by decide +kernel
theorem dX7_doOne_49 : decode cX7_doOne 49 = .ok (.istore_n 3, 1) := by decide +kernel
theorem dX7_doOne_50 : decode cX7_doOne 50 = .ok (.iload_n 3, 1) := by decide +kernel
theorem dX7_doOne_51 : decode cX7_doOne 51 = .ok (.bipush 6, 2) := by decide +kernel
theorem dX7_doOne_53 : decode cX7_doOne 53 = .ok (.if_icmp .ne 6, 3) := by decide +kernel
theorem dX7_doOne_56 : decode cX7_doOne 56 = .ok (.bipush (-4), 2) := by decide +kernel
theorem dX7_doOne_58 : decode cX7_doOne 58 = .ok (.ireturn, 1) := by decide +kernel
theorem dX7_doOne_59 : decode cX7_doOne 59 = .ok (.aload_n 0, 1) := by decide +kernel
theorem dX7_doOne_60 : decode cX7_doOne 60 = .ok (.getfield 7, 3) := by decide +kernel
theorem dX7_doOne_63 : decode cX7_doOne 63 = .ok (.bipush 64, 2) := by decide +kernel
theorem dX7_doOne_65 : decode cX7_doOne 65 = .ok (.iload_n 3, 1) := by decide +kernel
theorem dX7_doOne_66 : decode cX7_doOne 66 = .ok (.iadd, 1) := by decide +kernel
theorem dX7_doOne_67 : decode cX7_doOne 67 = .ok (.iload_n 1, 1) := by decide +kernel
theorem dX7_doOne_68 : decode cX7_doOne 68 = .ok (.iastore, 1) := by decide +kernel
theorem dX7_doOne_69 : decode cX7_doOne 69 = .ok (.aload_n 0, 1) := by decide +kernel
theorem dX7_doOne_70 : decode cX7_doOne 70 = .ok (.getfield 7, 3) := by decide +kernel
theorem dX7_doOne_73 : decode cX7_doOne 73 = .ok (.bipush 70, 2) := by decide +kernel
theorem dX7_doOne_75 : decode cX7_doOne 75 = .ok (.iload_n 3, 1) := by decide +kernel
theorem dX7_doOne_76 : decode cX7_doOne 76 = .ok (.iadd, 1) := by decide +kernel
theorem dX7_doOne_77 : decode cX7_doOne 77 = .ok (.iload_n 2, 1) := by decide +kernel
theorem dX7_doOne_78 : decode cX7_doOne 78 = .ok (.iastore, 1) := by decide +kernel
theorem dX7_doOne_79 : decode cX7_doOne 79 = .ok (.aload_n 0, 1) := by decide +kernel
theorem dX7_doOne_80 : decode cX7_doOne 80 = .ok (.getfield 7, 3) := by decide +kernel
theorem dX7_doOne_83 : decode cX7_doOne 83 = .ok (.iconst 1, 1) := by decide +kernel
theorem dX7_doOne_84 : decode cX7_doOne 84 = .ok (.dup2, 1) := by decide +kernel
theorem dX7_doOne_85 : decode cX7_doOne 85 = .ok (.iaload, 1) := by decide +kernel
theorem dX7_doOne_86 : decode cX7_doOne 86 = .ok (.iconst 1, 1) := by decide +kernel
theorem dX7_doOne_87 : decode cX7_doOne 87 = .ok (.iadd, 1) := by decide +kernel
theorem dX7_doOne_88 : decode cX7_doOne 88 = .ok (.iastore, 1) := by decide +kernel
theorem dX7_doOne_89 : decode cX7_doOne 89 = .ok (.aload_n 0, 1) := by decide +kernel
theorem dX7_doOne_90 : decode cX7_doOne 90 = .ok (.getfield 7, 3) := by decide +kernel
theorem dX7_doOne_93 : decode cX7_doOne 93 = .ok (.iconst 3, 1) := by decide +kernel
theorem dX7_doOne_94 : decode cX7_doOne 94 = .ok (.iconst 0, 1) := by decide +kernel
theorem dX7_doOne_95 : decode cX7_doOne 95 = .ok (.iastore, 1) := by decide +kernel
theorem dX7_doOne_96 : decode cX7_doOne 96 = .ok (.iload_n 3, 1) := by decide +kernel
theorem dX7_doOne_97 : decode cX7_doOne 97 = .ok (.ireturn, 1) := by decide +kernel
theorem dX7_doFeud_0 : decode cX7_doFeud 0 = .ok (.iload_n 1, 1) := by decide +kernel
theorem dX7_doFeud_1 : decode cX7_doFeud 1 = .ok (.invokestatic 69, 3) := by decide +kernel
theorem dX7_doFeud_4 : decode cX7_doFeud 4 = .ok (.ifCond .eq 15, 3) := by decide +kernel
theorem dX7_doFeud_7 : decode cX7_doFeud 7 = .ok (.iload_n 2, 1) := by decide +kernel
theorem dX7_doFeud_8 : decode cX7_doFeud 8 = .ok (.invokestatic 69, 3) := by decide +kernel
theorem dX7_doFeud_11 : decode cX7_doFeud 11 = .ok (.ifCond .eq 8, 3) := by decide +kernel
theorem dX7_doFeud_14 : decode cX7_doFeud 14 = .ok (.iload_n 1, 1) := by decide +kernel
theorem dX7_doFeud_15 : decode cX7_doFeud 15 = .ok (.iload_n 2, 1) := by decide +kernel
theorem dX7_doFeud_16 : decode cX7_doFeud 16 = .ok (.if_icmp .ne 6, 3) := by decide +kernel
theorem dX7_doFeud_19 : decode cX7_doFeud 19 = .ok (.bipush (-2), 2) := by decide +kernel
theorem dX7_doFeud_21 : decode cX7_doFeud 21 = .ok (.ireturn, 1) := by decide +kernel
theorem dX7_doFeud_22 : decode cX7_doFeud 22 = .ok (.aload_n 0, 1) := by decide +kernel
theorem dX7_doFeud_23 : decode cX7_doFeud 23 = .ok (.getfield 7, 3) := by decide +kernel
theorem dX7_doFeud_26 : decode cX7_doFeud 26 = .ok (.bipush 76, 2) := by decide +kernel
theorem dX7_doFeud_28 : decode cX7_doFeud 28 = .ok (.iconst 4, 1) := by decide +kernel
theorem dX7_doFeud_29 : decode cX7_doFeud 29 = .ok (.iload_n 1, 1) := by decide +kernel
theorem dX7_doFeud_30 : decode cX7_doFeud 30 = .ok (.imul, 1) := by decide +kernel
theorem dX7_doFeud_31 : decode cX7_doFeud 31 = .ok (.iadd, 1) := by decide +kernel
theorem dX7_doFeud_32 : decode cX7_doFeud 32 = .ok (.iload_n 2, 1) := by decide +kernel
theorem dX7_doFeud_33 : decode cX7_doFeud 33 = .ok (.iadd, 1) := by decide +kernel
theorem dX7_doFeud_34 : decode cX7_doFeud 34 = .ok (.iaload, 1) := by decide +kernel
theorem dX7_doFeud_35 : decode cX7_doFeud 35 = .ok (.iconst 1, 1) := by decide +kernel
theorem dX7_doFeud_36 : decode cX7_doFeud 36 = .ok (.if_icmp .ne 7, 3) := by decide +kernel
theorem dX7_doFeud_39 : decode cX7_doFeud 39 = .ok (.iconst 1, 1) := by decide +kernel
theorem dX7_doFeud_40 : decode cX7_doFeud 40 = .ok (.goto 4, 3) := by decide +kernel
theorem dX7_doFeud_43 : decode cX7_doFeud 43 = .ok (.iconst 0, 1) := by decide +kernel
theorem dX7_doFeud_44 : decode cX7_doFeud 44 = .ok (.iload_n 3, 1) := by decide +kernel
theorem dX7_doFeud_45 : decode cX7_doFeud 45 = .ok (.if_icmp .ne 6, 3) := by decide +kernel
theorem dX7_doFeud_48 : decode cX7_doFeud 48 = .ok (.bipush (-3), 2) := by decide +kernel
theorem dX7_doFeud_50 : decode cX7_doFeud 50 = .ok (.ireturn, 1) := by decide +kernel
theorem dX7_doFeud_51 : decode cX7_doFeud 51 = .ok (.aload_n 0, 1) := by decide +kernel
theorem dX7_doFeud_52 : decode cX7_doFeud 52 = .ok (.getfield 7, 3) := by decide +kernel
theorem dX7_doFeud_55 : decode cX7_doFeud 55 = .ok (.bipush 76, 2) := by decide +kernel
theorem dX7_doFeud_57 : decode cX7_doFeud 57 = .ok (.iconst 4, 1) := by decide +kernel
theorem dX7_doFeud_58 : decode cX7_doFeud 58 = .ok (.iload_n 1, 1) := by decide +kernel
theorem dX7_doFeud_59 : decode cX7_doFeud 59 = .ok (.imul, 1) := by decide +kernel
theorem dX7_doFeud_60 : decode cX7_doFeud 60 = .ok (.iadd, 1) := by decide +kernel
theorem dX7_doFeud_61 : decode cX7_doFeud 61 = .ok (.iload_n 2, 1) := by decide +kernel
theorem dX7_doFeud_62 : decode cX7_doFeud 62 = .ok (.iadd, 1) := by decide +kernel
theorem dX7_doFeud_63 : decode cX7_doFeud 63 = .ok (.iload_n 3, 1) := by decide +kernel
theorem dX7_doFeud_64 : decode cX7_doFeud 64 = .ok (.ifCond .eq 7, 3) := by decide +kernel
theorem dX7_doFeud_67 : decode cX7_doFeud 67 = .ok (.iconst 1, 1) := by decide +kernel
theorem dX7_doFeud_68 : decode cX7_doFeud 68 = .ok (.goto 4, 3) := by decide +kernel
theorem dX7_doFeud_71 : decode cX7_doFeud 71 = .ok (.iconst 0, 1) := by decide +kernel
theorem dX7_doFeud_72 : decode cX7_doFeud 72 = .ok (.iastore, 1) := by decide +kernel
theorem dX7_doFeud_73 : decode cX7_doFeud 73 = .ok (.aload_n 0, 1) := by decide +kernel
theorem dX7_doFeud_74 : decode cX7_doFeud 74 = .ok (.getfield 7, 3) := by decide +kernel
theorem dX7_doFeud_77 : decode cX7_doFeud 77 = .ok (.bipush 76, 2) := by decide +kernel
theorem dX7_doFeud_79 : decode cX7_doFeud 79 = .ok (.iconst 4, 1) := by decide +kernel
theorem dX7_doFeud_80 : decode cX7_doFeud 80 = .ok (.iload_n 2, 1) := by decide +kernel
theorem dX7_doFeud_81 : decode cX7_doFeud 81 = .ok (.imul, 1) := by decide +kernel
theorem dX7_doFeud_82 : decode cX7_doFeud 82 = .ok (.iadd, 1) := by decide +kernel
theorem dX7_doFeud_83 : decode cX7_doFeud 83 = .ok (.iload_n 1, 1) := by decide +kernel
theorem dX7_doFeud_84 : decode cX7_doFeud 84 = .ok (.iadd, 1) := by decide +kernel
theorem dX7_doFeud_85 : decode cX7_doFeud 85 = .ok (.iload_n 3, 1) := by decide +kernel
theorem dX7_doFeud_86 : decode cX7_doFeud 86 = .ok (.ifCond .eq 7, 3) := by decide +kernel
theorem dX7_doFeud_89 : decode cX7_doFeud 89 = .ok (.iconst 1, 1) := by decide +kernel
theorem dX7_doFeud_90 : decode cX7_doFeud 90 = .ok (.goto 4, 3) := by decide +kernel
theorem dX7_doFeud_93 : decode cX7_doFeud 93 = .ok (.iconst 0, 1) := by decide +kernel
theorem dX7_doFeud_94 : decode cX7_doFeud 94 = .ok (.iastore, 1) := by decide +kernel
theorem dX7_doFeud_95 : decode cX7_doFeud 95 = .ok (.aload_n 0, 1) := by decide +kernel
theorem dX7_doFeud_96 : decode cX7_doFeud 96 = .ok (.getfield 7, 3) := by decide +kernel
theorem dX7_doFeud_99 : decode cX7_doFeud 99 = .ok (.iconst 3, 1) := by decide +kernel
theorem dX7_doFeud_100 : decode cX7_doFeud 100 = .ok (.iconst 0, 1) := by decide +kernel
theorem dX7_doFeud_101 : decode cX7_doFeud 101 = .ok (.iastore, 1) := by decide +kernel
theorem dX7_doFeud_102 : decode cX7_doFeud 102 = .ok (.iconst 1, 1) := by decide +kernel
theorem dX7_doFeud_103 : decode cX7_doFeud 103 = .ok (.ireturn, 1) := by decide +kernel
theorem dX7_street_0 : decode cX7_street 0 = .ok (.aload_n 0, 1) := by decide +kernel
theorem dX7_street_1 : decode cX7_street 1 = .ok (.getfield 7, 3) := by decide +kernel
theorem dX7_street_4 : decode cX7_street 4 = .ok (.iconst 0, 1) := by decide +kernel
theorem dX7_street_5 : decode cX7_street 5 = .ok (.iaload, 1) := by decide +kernel
theorem dX7_street_6 : decode cX7_street 6 = .ok (.istore_n 1, 1) := by decide +kernel
theorem dX7_street_7 : decode cX7_street 7 = .ok (.aload_n 0, 1) := by decide +kernel
theorem dX7_street_8 : decode cX7_street 8 = .ok (.invokevirtual 48, 3) := by decide +kernel
theorem dX7_street_11 : decode cX7_street 11 = .ok (.iload_n 1, 1) := by decide +kernel
theorem dX7_street_12 : decode cX7_street 12 = .ok (.ireturn, 1) := by decide +kernel
theorem dX7_house_0 : decode cX7_house 0 = .ok (.aload_n 0, 1) := by decide +kernel
theorem dX7_house_1 : decode cX7_house 1 = .ok (.aload_n 0, 1) := by decide +kernel
theorem dX7_house_2 : decode cX7_house 2 = .ok (.iload_n 1, 1) := by decide +kernel
theorem dX7_house_3 : decode cX7_house 3 = .ok (.iload_n 2, 1) := by decide +kernel
theorem dX7_house_4 : decode cX7_house 4 = .ok (.iload_n 3, 1) := by decide +kernel
theorem dX7_house_5 : decode cX7_house 5 = .ok (.invokevirtual 72, 3) := by decide +kernel
theorem dX7_house_8 : decode cX7_house 8 = .ok (.invokevirtual 76, 3) := by decide +kernel
theorem dX7_house_11 : decode cX7_house 11 = .ok (.ireturn, 1) := by decide +kernel
theorem dX7_builtFrom_0 : decode cX7_builtFrom 0 = .ok (.aload_n 0, 1) := by decide +kernel
theorem dX7_builtFrom_1 : decode cX7_builtFrom 1 = .ok (.aload_n 0, 1) := by decide +kernel
theorem dX7_builtFrom_2 : decode cX7_builtFrom 2 = .ok (.iload_n 1, 1) := by decide +kernel
theorem dX7_builtFrom_3 : decode cX7_builtFrom 3 = .ok (.iload_n 2, 1) := by decide +kernel
theorem dX7_builtFrom_4 : decode cX7_builtFrom 4 = .ok (.invokevirtual 80, 3) := by decide +kernel
theorem dX7_builtFrom_7 : decode cX7_builtFrom 7 = .ok (.invokevirtual 76, 3) := by decide +kernel
theorem dX7_builtFrom_10 : decode cX7_builtFrom 10 = .ok (.ireturn, 1) := by decide +kernel
theorem dX7_will_0 : decode cX7_will 0 = .ok (.aload_n 0, 1) := by decide +kernel
theorem dX7_will_1 : decode cX7_will 1 = .ok (.aload_n 0, 1) := by decide +kernel
theorem dX7_will_2 : decode cX7_will 2 = .ok (.iload_n 1, 1) := by decide +kernel
theorem dX7_will_3 : decode cX7_will 3 = .ok (.iload_n 2, 1) := by decide +kernel
theorem dX7_will_4 : decode cX7_will 4 = .ok (.invokevirtual 84, 3) := by decide +kernel
theorem dX7_will_7 : decode cX7_will 7 = .ok (.invokevirtual 76, 3) := by decide +kernel
theorem dX7_will_10 : decode cX7_will 10 = .ok (.ireturn, 1) := by decide +kernel
theorem dX7_wall_0 : decode cX7_wall 0 = .ok (.aload_n 0, 1) := by decide +kernel
theorem dX7_wall_1 : decode cX7_wall 1 = .ok (.aload_n 0, 1) := by decide +kernel
theorem dX7_wall_2 : decode cX7_wall 2 = .ok (.iload_n 1, 1) := by decide +kernel
theorem dX7_wall_3 : decode cX7_wall 3 = .ok (.iload_n 2, 1) := by decide +kernel
theorem dX7_wall_4 : decode cX7_wall 4 = .ok (.iload_n 3, 1) := by decide +kernel
theorem dX7_wall_5 : decode cX7_wall 5 = .ok (.invokevirtual 87, 3) := by decide +kernel
theorem dX7_wall_8 : decode cX7_wall 8 = .ok (.invokevirtual 76, 3) := by decide +kernel
theorem dX7_wall_11 : decode cX7_wall 11 = .ok (.ireturn, 1) := by decide +kernel
theorem dX7_one_0 : decode cX7_one 0 = .ok (.aload_n 0, 1) := by decide +kernel
theorem dX7_one_1 : decode cX7_one 1 = .ok (.aload_n 0, 1) := by decide +kernel
theorem dX7_one_2 : decode cX7_one 2 = .ok (.iload_n 1, 1) := by decide +kernel
theorem dX7_one_3 : decode cX7_one 3 = .ok (.iload_n 2, 1) := by decide +kernel
theorem dX7_one_4 : decode cX7_one 4 = .ok (.invokevirtual 91, 3) := by decide +kernel
theorem dX7_one_7 : decode cX7_one 7 = .ok (.invokevirtual 76, 3) := by decide +kernel
theorem dX7_one_10 : decode cX7_one 10 = .ok (.ireturn, 1) := by decide +kernel
theorem dX7_feud_0 : decode cX7_feud 0 = .ok (.aload_n 0, 1) := by decide +kernel
theorem dX7_feud_1 : decode cX7_feud 1 = .ok (.aload_n 0, 1) := by decide +kernel
theorem dX7_feud_2 : decode cX7_feud 2 = .ok (.iload_n 1, 1) := by decide +kernel
theorem dX7_feud_3 : decode cX7_feud 3 = .ok (.iload_n 2, 1) := by decide +kernel
theorem dX7_feud_4 : decode cX7_feud 4 = .ok (.iload_n 3, 1) := by decide +kernel
theorem dX7_feud_5 : decode cX7_feud 5 = .ok (.invokevirtual 94, 3) := by decide +kernel
theorem dX7_feud_8 : decode cX7_feud 8 = .ok (.invokevirtual 76, 3) := by decide +kernel
theorem dX7_feud_11 : decode cX7_feud 11 = .ok (.ireturn, 1) := by decide +kernel
theorem dX7_mark_0 : decode cX7_mark 0 = .ok (.aload_n 0, 1) := by decide +kernel
theorem dX7_mark_1 : decode cX7_mark 1 = .ok (.iload_n 1, 1) := by decide +kernel
theorem dX7_mark_2 : decode cX7_mark 2 = .ok (.invokevirtual 61, 3) := by decide +kernel
theorem dX7_mark_5 : decode cX7_mark 5 = .ok (.ifCond .eq 15, 3) := by decide +kernel
theorem dX7_mark_8 : decode cX7_mark 8 = .ok (.iload_n 2, 1) := by decide +kernel
theorem dX7_mark_9 : decode cX7_mark 9 = .ok (.i2l, 1) := by decide +kernel
theorem dX7_mark_10 : decode cX7_mark 10 = .ok (.lconst 0, 1) := by decide +kernel
theorem dX7_mark_11 : decode cX7_mark 11 = .ok (.ldc2_w 97, 3) := by decide +kernel
theorem dX7_mark_14 : decode cX7_mark 14 = .ok (.invokestatic 51, 3) := by decide +kernel
theorem dX7_mark_17 : decode cX7_mark 17 = .ok (.ifCond .ne 10, 3) := by decide +kernel
theorem dX7_mark_20 : decode cX7_mark 20 = .ok (.aload_n 0, 1) := by decide +kernel
theorem dX7_mark_21 : decode cX7_mark 21 = .ok (.bipush (-2), 2) := by decide +kernel
theorem dX7_mark_23 : decode cX7_mark 23 = .ok (.invokevirtual 99, 3) := by decide +kernel
theorem dX7_mark_26 : decode cX7_mark 26 = .ok (.ireturn, 1) := by decide +kernel
theorem dX7_mark_27 : decode cX7_mark 27 = .ok (.aload_n 0, 1) := by decide +kernel
theorem dX7_mark_28 : decode cX7_mark 28 = .ok (.getfield 7, 3) := by decide +kernel
theorem dX7_mark_31 : decode cX7_mark 31 = .ok (.bipush 34, 2) := by decide +kernel
theorem dX7_mark_33 : decode cX7_mark 33 = .ok (.iload_n 1, 1) := by decide +kernel
theorem dX7_mark_34 : decode cX7_mark 34 = .ok (.iadd, 1) := by decide +kernel
theorem dX7_mark_35 : decode cX7_mark 35 = .ok (.iaload, 1) := by decide +kernel
theorem dX7_mark_36 : decode cX7_mark 36 = .ok (.istore_n 3, 1) := by decide +kernel
theorem dX7_mark_37 : decode cX7_mark 37 = .ok (.aload_n 0, 1) := by decide +kernel
theorem dX7_mark_38 : decode cX7_mark 38 = .ok (.getfield 7, 3) := by decide +kernel
theorem dX7_mark_41 : decode cX7_mark 41 = .ok (.bipush 34, 2) := by decide +kernel
theorem dX7_mark_43 : decode cX7_mark 43 = .ok (.iload_n 1, 1) := by decide +kernel
theorem dX7_mark_44 : decode cX7_mark 44 = .ok (.iadd, 1) := by decide +kernel
theorem dX7_mark_45 : decode cX7_mark 45 = .ok (.iload_n 2, 1) := by decide +kernel
theorem dX7_mark_46 : decode cX7_mark 46 = .ok (.iastore, 1) := by decide +kernel
theorem dX7_mark_47 : decode cX7_mark 47 = .ok (.aload_n 0, 1) := by decide +kernel
theorem dX7_mark_48 : decode cX7_mark 48 = .ok (.getfield 7, 3) := by decide +kernel
theorem dX7_mark_51 : decode cX7_mark 51 = .ok (.iconst 3, 1) := by decide +kernel
theorem dX7_mark_52 : decode cX7_mark 52 = .ok (.iconst 0, 1) := by decide +kernel
theorem dX7_mark_53 : decode cX7_mark 53 = .ok (.iastore, 1) := by decide +kernel
theorem dX7_mark_54 : decode cX7_mark 54 = .ok (.iload_n 3, 1) := by decide +kernel
theorem dX7_mark_55 : decode cX7_mark 55 = .ok (.ireturn, 1) := by decide +kernel
theorem dX7_type_0 : decode cX7_type 0 = .ok (.iload_n 1, 1) := by decide +kernel
theorem dX7_type_1 : decode cX7_type 1 = .ok (.i2l, 1) := by decide +kernel
theorem dX7_type_2 : decode cX7_type 2 = .ok (.lconst 0, 1) := by decide +kernel
theorem dX7_type_3 : decode cX7_type 3 = .ok (.ldc2_w 102, 3) := by decide +kernel
theorem dX7_type_6 : decode cX7_type 6 = .ok (.invokestatic 51, 3) := by decide +kernel
theorem dX7_type_9 : decode cX7_type 9 = .ok (.ifCond .ne 10, 3) := by decide +kernel
theorem dX7_type_12 : decode cX7_type 12 = .ok (.aload_n 0, 1) := by decide +kernel
theorem dX7_type_13 : decode cX7_type 13 = .ok (.bipush (-2), 2) := by decide +kernel
theorem dX7_type_15 : decode cX7_type 15 = .ok (.invokevirtual 99, 3) := by decide +kernel
theorem dX7_type_18 : decode cX7_type 18 = .ok (.ireturn, 1) := by decide +kernel
theorem dX7_type_19 : decode cX7_type 19 = .ok (.aload_n 0, 1) := by decide +kernel
theorem dX7_type_20 : decode cX7_type 20 = .ok (.getfield 104, 3) := by decide +kernel
theorem dX7_type_23 : decode cX7_type 23 = .ok (.sipush 150, 3) := by decide +kernel
theorem dX7_type_26 : decode cX7_type 26 = .ok (.if_icmp .ne 10, 3) := by decide +kernel
theorem dX7_type_29 : decode cX7_type 29 = .ok (.aload_n 0, 1) := by decide +kernel
theorem dX7_type_30 : decode cX7_type 30 = .ok (.bipush (-4), 2) := by decide +kernel
theorem dX7_type_32 : decode cX7_type 32 = .ok (.invokevirtual 76, 3) := by decide +kernel
theorem dX7_type_35 : decode cX7_type 35 = .ok (.ireturn, 1) := by decide +kernel
theorem dX7_type_36 : decode cX7_type 36 = .ok (.aload_n 0, 1) := by decide +kernel
theorem dX7_type_37 : decode cX7_type 37 = .ok (.getfield 20, 3) := by decide +kernel
theorem dX7_type_40 : decode cX7_type 40 = .ok (.aload_n 0, 1) := by decide +kernel
theorem dX7_type_41 : decode cX7_type 41 = .ok (.getfield 104, 3) := by decide +kernel
theorem dX7_type_44 : decode cX7_type 44 = .ok (.iload_n 1, 1) := by decide +kernel
theorem dX7_type_45 : decode cX7_type 45 = .ok (.iastore, 1) := by decide +kernel
theorem dX7_type_46 : decode cX7_type 46 = .ok (.aload_n 0, 1) := by decide +kernel
theorem dX7_type_47 : decode cX7_type 47 = .ok (.dup, 1) := by decide +kernel
theorem dX7_type_48 : decode cX7_type 48 = .ok (.getfield 104, 3) := by decide +kernel
theorem dX7_type_51 : decode cX7_type 51 = .ok (.iconst 1, 1) := by decide +kernel
theorem dX7_type_52 : decode cX7_type 52 = .ok (.iadd, 1) := by decide +kernel
theorem dX7_type_53 : decode cX7_type 53 = .ok (.putfield 104, 3) := by decide +kernel
theorem dX7_type_56 : decode cX7_type 56 = .ok (.aload_n 0, 1) := by decide +kernel
theorem dX7_type_57 : decode cX7_type 57 = .ok (.getfield 104, 3) := by decide +kernel
theorem dX7_type_60 : decode cX7_type 60 = .ok (.ireturn, 1) := by decide +kernel
theorem dX7_clear_0 : decode cX7_clear 0 = .ok (.aload_n 0, 1) := by decide +kernel
theorem dX7_clear_1 : decode cX7_clear 1 = .ok (.getfield 104, 3) := by decide +kernel
theorem dX7_clear_4 : decode cX7_clear 4 = .ok (.istore_n 1, 1) := by decide +kernel
theorem dX7_clear_5 : decode cX7_clear 5 = .ok (.aload_n 0, 1) := by decide +kernel
theorem dX7_clear_6 : decode cX7_clear 6 = .ok (.iconst 0, 1) := by decide +kernel
theorem dX7_clear_7 : decode cX7_clear 7 = .ok (.putfield 104, 3) := by decide +kernel
theorem dX7_clear_10 : decode cX7_clear 10 = .ok (.iload_n 1, 1) := by decide +kernel
theorem dX7_clear_11 : decode cX7_clear 11 = .ok (.ireturn, 1) := by decide +kernel
theorem dX7_next_0 : decode cX7_next 0 = .ok (.aload_n 0, 1) := by decide +kernel
theorem dX7_next_1 : decode cX7_next 1 = .ok (.getfield 108, 3) := by decide +kernel
theorem dX7_next_4 : decode cX7_next 4 = .ok (.aload_n 0, 1) := by decide +kernel
theorem dX7_next_5 : decode cX7_next 5 = .ok (.getfield 104, 3) := by decide +kernel
theorem dX7_next_8 : decode cX7_next 8 = .ok (.if_icmp .ge 30, 3) := by decide +kernel
theorem dX7_next_11 : decode cX7_next 11 = .ok (.aload_n 0, 1) := by decide +kernel
theorem dX7_next_12 : decode cX7_next 12 = .ok (.getfield 20, 3) := by decide +kernel
theorem dX7_next_15 : decode cX7_next 15 = .ok (.aload_n 0, 1) := by decide +kernel
theorem dX7_next_16 : decode cX7_next 16 = .ok (.getfield 108, 3) := by decide +kernel
theorem dX7_next_19 : decode cX7_next 19 = .ok (.iaload, 1) := by decide +kernel
theorem dX7_next_20 : decode cX7_next 20 = .ok (.bipush 32, 2) := by decide +kernel
theorem dX7_next_22 : decode cX7_next 22 = .ok (.if_icmp .ne 16, 3) := by decide +kernel
theorem dX7_next_25 : decode cX7_next 25 = .ok (.aload_n 0, 1) := by decide +kernel
theorem dX7_next_26 : decode cX7_next 26 = .ok (.dup, 1) := by decide +kernel
theorem dX7_next_27 : decode cX7_next 27 = .ok (.getfield 108, 3) := by decide +kernel
theorem dX7_next_30 : decode cX7_next 30 = .ok (.iconst 1, 1) := by decide +kernel
theorem dX7_next_31 : decode cX7_next 31 = .ok (.iadd, 1) := by decide +kernel
theorem dX7_next_32 : decode cX7_next 32 = .ok (.putfield 108, 3) := by decide +kernel
theorem dX7_next_35 : decode cX7_next 35 = .ok (.goto (-35), 3) := by decide +kernel
theorem dX7_next_38 : decode cX7_next 38 = .ok (.aload_n 0, 1) := by decide +kernel
theorem dX7_next_39 : decode cX7_next 39 = .ok (.aload_n 0, 1) := by decide +kernel
theorem dX7_next_40 : decode cX7_next 40 = .ok (.getfield 108, 3) := by decide +kernel
theorem dX7_next_43 : decode cX7_next 43 = .ok (.putfield 111, 3) := by decide +kernel
theorem dX7_next_46 : decode cX7_next 46 = .ok (.aload_n 0, 1) := by decide +kernel
theorem dX7_next_47 : decode cX7_next 47 = .ok (.getfield 108, 3) := by decide +kernel
theorem dX7_next_50 : decode cX7_next 50 = .ok (.aload_n 0, 1) := by decide +kernel
theorem dX7_next_51 : decode cX7_next 51 = .ok (.getfield 104, 3) := by decide +kernel
theorem dX7_next_54 : decode cX7_next 54 = .ok (.if_icmp .ge 15, 3) := by decide +kernel
theorem dX7_next_57 : decode cX7_next 57 = .ok (.aload_n 0, 1) := by decide +kernel
theorem dX7_next_58 : decode cX7_next 58 = .ok (.getfield 20, 3) := by decide +kernel
theorem dX7_next_61 : decode cX7_next 61 = .ok (.aload_n 0, 1) := by decide +kernel
theorem dX7_next_62 : decode cX7_next 62 = .ok (.getfield 108, 3) := by decide +kernel
theorem dX7_next_65 : decode cX7_next 65 = .ok (.iaload, 1) := by decide +kernel
theorem dX7_next_66 : decode cX7_next 66 = .ok (.goto 4, 3) := by decide +kernel
theorem dX7_next_69 : decode cX7_next 69 = .ok (.iconst (-1), 1) := by decide +kernel
theorem dX7_next_70 : decode cX7_next 70 = .ok (.istore_n 1, 1) := by decide +kernel
theorem dX7_next_71 : decode cX7_next 71 = .ok (.aload_n 0, 1) := by decide +kernel
theorem dX7_next_72 : decode cX7_next 72 = .ok (.iload_n 1, 1) := by decide +kernel
theorem dX7_next_73 : decode cX7_next 73 = .ok (.ifCond .ge 7, 3) := by decide +kernel
theorem dX7_next_76 : decode cX7_next 76 = .ok (.iconst 0, 1) := by decide +kernel
theorem dX7_next_77 : decode cX7_next 77 = .ok (.goto 50, 3) := by decide +kernel
theorem dX7_next_80 : decode cX7_next 80 = .ok (.iload_n 1, 1) := by decide +kernel
theorem dX7_next_81 : decode cX7_next 81 = .ok (.i2l, 1) := by decide +kernel
theorem dX7_next_82 : decode cX7_next 82 = .ok (.ldc2_w 114, 3) := by decide +kernel
theorem dX7_next_85 : decode cX7_next 85 = .ok (.ldc2_w 116, 3) := by decide +kernel
theorem dX7_next_88 : decode cX7_next 88 = .ok (.invokestatic 51, 3) := by decide +kernel
theorem dX7_next_91 : decode cX7_next 91 = .ok (.ifCond .eq 7, 3) := by decide +kernel
theorem dX7_next_94 : decode cX7_next 94 = .ok (.iconst 1, 1) := by decide +kernel
theorem dX7_next_95 : decode cX7_next 95 = .ok (.goto 32, 3) := by decide +kernel
theorem dX7_next_98 : decode cX7_next 98 = .ok (.iload_n 1, 1) := by decide +kernel
theorem dX7_next_99 : decode cX7_next 99 = .ok (.i2l, 1) := by decide +kernel
theorem dX7_next_100 : decode cX7_next 100 = .ok (.ldc2_w 118, 3) := by decide +kernel
theorem dX7_next_103 : decode cX7_next 103 = .ok (.ldc2_w 120, 3) := by decide +kernel
theorem dX7_next_106 : decode cX7_next 106 = .ok (.invokestatic 51, 3) := by decide +kernel
theorem dX7_next_109 : decode cX7_next 109 = .ok (.ifCond .eq 7, 3) := by decide +kernel
theorem dX7_next_112 : decode cX7_next 112 = .ok (.iconst 2, 1) := by decide +kernel
theorem dX7_next_113 : decode cX7_next 113 = .ok (.goto 14, 3) := by decide +kernel
theorem dX7_next_116 : decode cX7_next 116 = .ok (.iload_n 1, 1) := by decide +kernel
theorem dX7_next_117 : decode cX7_next 117 = .ok (.bipush 59, 2) := by decide +kernel
theorem dX7_next_119 : decode cX7_next 119 = .ok (.if_icmp .ne 7, 3) := by decide +kernel
theorem dX7_next_122 : decode cX7_next 122 = .ok (.iconst 3, 1) := by decide +kernel
theorem dX7_next_123 : decode cX7_next 123 = .ok (.goto 4, 3) := by decide +kernel
theorem dX7_next_126 : decode cX7_next 126 = .ok (.iconst 4, 1) := by decide +kernel
theorem dX7_next_127 : decode cX7_next 127 = .ok (.putfield 122, 3) := by decide +kernel
theorem dX7_next_130 : decode cX7_next 130 = .ok (.aload_n 0, 1) := by decide +kernel
theorem dX7_next_131 : decode cX7_next 131 = .ok (.iconst 0, 1) := by decide +kernel
theorem dX7_next_132 : decode cX7_next 132 = .ok (.putfield 125, 3) := by decide +kernel
theorem dX7_next_135 : decode cX7_next 135 = .ok (.aload_n 0, 1) := by decide +kernel
theorem dX7_next_136 : decode cX7_next 136 = .ok (.lconst 0, 1) := by decide +kernel
theorem dX7_next_137 : decode cX7_next 137 = .ok (.putfield 128, 3) := by decide +kernel
theorem dX7_next_140 : decode cX7_next 140 = .ok (.aload_n 0, 1) := by decide +kernel
theorem dX7_next_141 : decode cX7_next 141 = .ok (.dup, 1) := by decide +kernel
theorem dX7_next_142 : decode cX7_next 142 = .ok (.getfield 108, 3) := by decide +kernel
theorem dX7_next_145 : decode cX7_next 145 = .ok (.aload_n 0, 1) := by decide +kernel
theorem dX7_next_146 : decode cX7_next 146 = .ok (.getfield 122, 3) := by decide +kernel
theorem dX7_next_149 : decode cX7_next 149 = .ok (.iconst 2, 1) := by decide +kernel
theorem dX7_next_150 : decode cX7_next 150 = .ok (.if_icmp .le 7, 3) := by decide +kernel
theorem dX7_next_153 : decode cX7_next 153 = .ok (.iconst 1, 1) := by decide +kernel
theorem dX7_next_154 : decode cX7_next 154 = .ok (.goto 4, 3) := by decide +kernel
theorem dX7_next_157 : decode cX7_next 157 = .ok (.iconst 0, 1) := by decide +kernel
theorem dX7_next_158 : decode cX7_next 158 = .ok (.iadd, 1) := by decide +kernel
theorem dX7_next_159 : decode cX7_next 159 = .ok (.putfield 108, 3) := by decide +kernel
theorem dX7_next_162 : decode cX7_next 162 = .ok (.aload_n 0, 1) := by decide +kernel
theorem dX7_next_163 : decode cX7_next 163 = .ok (.getfield 122, 3) := by decide +kernel
theorem dX7_next_166 : decode cX7_next 166 = .ok (.iconst 1, 1) := by decide +kernel
theorem dX7_next_167 : decode cX7_next 167 = .ok (.if_icmp .ne 92, 3) := by decide +kernel
theorem dX7_next_170 : decode cX7_next 170 = .ok (.aload_n 0, 1) := by decide +kernel
theorem dX7_next_171 : decode cX7_next 171 = .ok (.getfield 108, 3) := by decide +kernel
theorem dX7_next_174 : decode cX7_next 174 = .ok (.aload_n 0, 1) := by decide +kernel
theorem dX7_next_175 : decode cX7_next 175 = .ok (.getfield 104, 3) := by decide +kernel
theorem dX7_next_178 : decode cX7_next 178 = .ok (.if_icmp .ge 81, 3) := by decide +kernel
theorem dX7_next_181 : decode cX7_next 181 = .ok (.aload_n 0, 1) := by decide +kernel
theorem dX7_next_182 : decode cX7_next 182 = .ok (.getfield 20, 3) := by decide +kernel
theorem dX7_next_185 : decode cX7_next 185 = .ok (.aload_n 0, 1) := by decide +kernel
theorem dX7_next_186 : decode cX7_next 186 = .ok (.getfield 108, 3) := by decide +kernel
theorem dX7_next_189 : decode cX7_next 189 = .ok (.iaload, 1) := by decide +kernel
theorem dX7_next_190 : decode cX7_next 190 = .ok (.i2l, 1) := by decide +kernel
theorem dX7_next_191 : decode cX7_next 191 = .ok (.ldc2_w 114, 3) := by decide +kernel
theorem dX7_next_194 : decode cX7_next 194 = .ok (.ldc2_w 116, 3) := by decide +kernel
theorem dX7_next_197 : decode cX7_next 197 = .ok (.invokestatic 51, 3) := by decide +kernel
theorem dX7_next_200 : decode cX7_next 200 = .ok (.ifCond .eq 59, 3) := by decide +kernel
theorem dX7_next_203 : decode cX7_next 203 = .ok (.aload_n 0, 1) := by decide +kernel
theorem dX7_next_204 : decode cX7_next 204 = .ok (.aload_n 0, 1) := by decide +kernel
theorem dX7_next_205 : decode cX7_next 205 = .ok (.getfield 108, 3) := by decide +kernel
theorem dX7_next_208 : decode cX7_next 208 = .ok (.aload_n 0, 1) := by decide +kernel
theorem dX7_next_209 : decode cX7_next 209 = .ok (.getfield 111, 3) := by decide +kernel
theorem dX7_next_212 : decode cX7_next 212 = .ok (.isub, 1) := by decide +kernel
theorem dX7_next_213 : decode cX7_next 213 = .ok (.bipush 7, 2) := by decide +kernel
theorem dX7_next_215 : decode cX7_next 215 = .ok (.if_icmp .ge 25, 3) := by decide +kernel
theorem dX7_next_218 : decode cX7_next 218 = .ok (.aload_n 0, 1) := by decide +kernel
theorem dX7_next_219 : decode cX7_next 219 = .ok (.getfield 128, 3) := by decide +kernel
theorem dX7_next_222 : decode cX7_next 222 = .ok (.ldc2_w 131, 3) := by decide +kernel
theorem dX7_next_225 : decode cX7_next 225 = .ok (.lmul, 1) := by decide +kernel
theorem dX7_next_226 : decode cX7_next 226 = .ok (.aload_n 0, 1) := by decide +kernel
theorem dX7_next_227 : decode cX7_next 227 = .ok (.getfield 20, 3) := by decide +kernel
theorem dX7_next_230 : decode cX7_next 230 = .ok (.aload_n 0, 1) := by decide +kernel
theorem dX7_next_231 : decode cX7_next 231 = .ok (.getfield 108, 3) := by decide +kernel
theorem dX7_next_234 : decode cX7_next 234 = .ok (.iaload, 1) := by decide +kernel
theorem dX7_next_235 : decode cX7_next 235 = .ok (.i2l, 1) := by decide +kernel
theorem dX7_next_236 : decode cX7_next 236 = .ok (.ladd, 1) := by decide +kernel
theorem dX7_next_237 : decode cX7_next 237 = .ok (.goto 6, 3) := by decide +kernel
theorem dX7_next_240 : decode cX7_next 240 = .ok (.ldc2_w 65, 3) := by decide +kernel
theorem dX7_next_243 : decode cX7_next 243 = .ok (.putfield 128, 3) := by decide +kernel
theorem dX7_next_246 : decode cX7_next 246 = .ok (.aload_n 0, 1) := by decide +kernel
theorem dX7_next_247 : decode cX7_next 247 = .ok (.dup, 1) := by decide +kernel
theorem dX7_next_248 : decode cX7_next 248 = .ok (.getfield 108, 3) := by decide +kernel
theorem dX7_next_251 : decode cX7_next 251 = .ok (.iconst 1, 1) := by decide +kernel
theorem dX7_next_252 : decode cX7_next 252 = .ok (.iadd, 1) := by decide +kernel
theorem dX7_next_253 : decode cX7_next 253 = .ok (.putfield 108, 3) := by decide +kernel
theorem dX7_next_256 : decode cX7_next 256 = .ok (.goto (-94), 3) := by decide +kernel
theorem dX7_next_259 : decode cX7_next 259 = .ok (.aload_n 0, 1) := by decide +kernel
theorem dX7_next_260 : decode cX7_next 260 = .ok (.getfield 122, 3) := by decide +kernel
theorem dX7_next_263 : decode cX7_next 263 = .ok (.iconst 2, 1) := by decide +kernel
theorem dX7_next_264 : decode cX7_next 264 = .ok (.if_icmp .ne 93, 3) := by decide +kernel
theorem dX7_next_267 : decode cX7_next 267 = .ok (.aload_n 0, 1) := by decide +kernel
theorem dX7_next_268 : decode cX7_next 268 = .ok (.getfield 108, 3) := by decide +kernel
theorem dX7_next_271 : decode cX7_next 271 = .ok (.aload_n 0, 1) := by decide +kernel
theorem dX7_next_272 : decode cX7_next 272 = .ok (.getfield 104, 3) := by decide +kernel
theorem dX7_next_275 : decode cX7_next 275 = .ok (.if_icmp .ge 82, 3) := by decide +kernel
theorem dX7_next_278 : decode cX7_next 278 = .ok (.aload_n 0, 1) := by decide +kernel
theorem dX7_next_279 : decode cX7_next 279 = .ok (.getfield 20, 3) := by decide +kernel
theorem dX7_next_282 : decode cX7_next 282 = .ok (.aload_n 0, 1) := by decide +kernel
theorem dX7_next_283 : decode cX7_next 283 = .ok (.getfield 108, 3) := by decide +kernel
theorem dX7_next_286 : decode cX7_next 286 = .ok (.iaload, 1) := by decide +kernel
theorem dX7_next_287 : decode cX7_next 287 = .ok (.i2l, 1) := by decide +kernel
theorem dX7_next_288 : decode cX7_next 288 = .ok (.ldc2_w 118, 3) := by decide +kernel
theorem dX7_next_291 : decode cX7_next 291 = .ok (.ldc2_w 120, 3) := by decide +kernel
theorem dX7_next_294 : decode cX7_next 294 = .ok (.invokestatic 51, 3) := by decide +kernel
theorem dX7_next_297 : decode cX7_next 297 = .ok (.ifCond .eq 60, 3) := by decide +kernel
theorem dX7_next_300 : decode cX7_next 300 = .ok (.aload_n 0, 1) := by decide +kernel
theorem dX7_next_301 : decode cX7_next 301 = .ok (.aload_n 0, 1) := by decide +kernel
theorem dX7_next_302 : decode cX7_next 302 = .ok (.getfield 108, 3) := by decide +kernel
theorem dX7_next_305 : decode cX7_next 305 = .ok (.aload_n 0, 1) := by decide +kernel
theorem dX7_next_306 : decode cX7_next 306 = .ok (.getfield 111, 3) := by decide +kernel
theorem dX7_next_309 : decode cX7_next 309 = .ok (.isub, 1) := by decide +kernel
theorem dX7_next_310 : decode cX7_next 310 = .ok (.iconst 2, 1) := by decide +kernel
theorem dX7_next_311 : decode cX7_next 311 = .ok (.if_icmp .ge 26, 3) := by decide +kernel
theorem dX7_next_314 : decode cX7_next 314 = .ok (.bipush 10, 2) := by decide +kernel
theorem dX7_next_316 : decode cX7_next 316 = .ok (.aload_n 0, 1) := by decide +kernel
theorem dX7_next_317 : decode cX7_next 317 = .ok (.getfield 125, 3) := by decide +kernel
theorem dX7_next_320 : decode cX7_next 320 = .ok (.imul, 1) := by decide +kernel
theorem dX7_next_321 : decode cX7_next 321 = .ok (.aload_n 0, 1) := by decide +kernel
theorem dX7_next_322 : decode cX7_next 322 = .ok (.getfield 20, 3) := by decide +kernel
theorem dX7_next_325 : decode cX7_next 325 = .ok (.aload_n 0, 1) := by decide +kernel
theorem dX7_next_326 : decode cX7_next 326 = .ok (.getfield 108, 3) := by decide +kernel
theorem dX7_next_329 : decode cX7_next 329 = .ok (.iaload, 1) := by decide +kernel
theorem dX7_next_330 : decode cX7_next 330 = .ok (.iadd, 1) := by decide +kernel
theorem dX7_next_331 : decode cX7_next 331 = .ok (.bipush 48, 2) := by decide +kernel
theorem dX7_next_333 : decode cX7_next 333 = .ok (.isub, 1) := by decide +kernel
theorem dX7_next_334 : decode cX7_next 334 = .ok (.goto 7, 3) := by decide +kernel
theorem dX7_next_337 : decode cX7_next 337 = .ok (.aload_n 0, 1) := by decide +kernel
theorem dX7_next_338 : decode cX7_next 338 = .ok (.getfield 125, 3) := by decide +kernel
theorem dX7_next_341 : decode cX7_next 341 = .ok (.putfield 125, 3) := by decide +kernel
theorem dX7_next_344 : decode cX7_next 344 = .ok (.aload_n 0, 1) := by decide +kernel
theorem dX7_next_345 : decode cX7_next 345 = .ok (.dup, 1) := by decide +kernel
theorem dX7_next_346 : decode cX7_next 346 = .ok (.getfield 108, 3) := by decide +kernel
theorem dX7_next_349 : decode cX7_next 349 = .ok (.iconst 1, 1) := by decide +kernel
theorem dX7_next_350 : decode cX7_next 350 = .ok (.iadd, 1) := by decide +kernel
theorem dX7_next_351 : decode cX7_next 351 = .ok (.putfield 108, 3) := by decide +kernel
theorem dX7_next_354 : decode cX7_next 354 = .ok (.goto (-95), 3) := by decide +kernel
theorem dX7_next_357 : decode cX7_next 357 = .ok (.aload_n 0, 1) := by decide +kernel
theorem dX7_next_358 : decode cX7_next 358 = .ok (.aload_n 0, 1) := by decide +kernel
theorem dX7_next_359 : decode cX7_next 359 = .ok (.getfield 122, 3) := by decide +kernel
theorem dX7_next_362 : decode cX7_next 362 = .ok (.iconst 2, 1) := by decide +kernel
theorem dX7_next_363 : decode cX7_next 363 = .ok (.if_icmp .ne 20, 3) := by decide +kernel
theorem dX7_next_366 : decode cX7_next 366 = .ok (.aload_n 0, 1) := by decide +kernel
theorem dX7_next_367 : decode cX7_next 367 = .ok (.getfield 108, 3) := by decide +kernel
theorem dX7_next_370 : decode cX7_next 370 = .ok (.aload_n 0, 1) := by decide +kernel
theorem dX7_next_371 : decode cX7_next 371 = .ok (.getfield 111, 3) := by decide +kernel
theorem dX7_next_374 : decode cX7_next 374 = .ok (.isub, 1) := by decide +kernel
theorem dX7_next_375 : decode cX7_next 375 = .ok (.iconst 2, 1) := by decide +kernel
theorem dX7_next_376 : decode cX7_next 376 = .ok (.if_icmp .le 7, 3) := by decide +kernel
theorem dX7_next_379 : decode cX7_next 379 = .ok (.iconst 4, 1) := by decide +kernel
theorem dX7_next_380 : decode cX7_next 380 = .ok (.goto 7, 3) := by decide +kernel
theorem dX7_next_383 : decode cX7_next 383 = .ok (.aload_n 0, 1) := by decide +kernel
theorem dX7_next_384 : decode cX7_next 384 = .ok (.getfield 122, 3) := by decide +kernel
theorem dX7_next_387 : decode cX7_next 387 = .ok (.putfield 122, 3) := by decide +kernel
theorem dX7_next_390 : decode cX7_next 390 = .ok (.return_, 1) := by decide +kernel
theorem dX7_itemOf_0 : decode cX7_itemOf 0 = .ok (.lload_n 0, 1) := by decide +kernel
theorem dX7_itemOf_1 : decode cX7_itemOf 1 = .ok (.ldc2_w 133, 3) := by decide +kernel
theorem dX7_itemOf_4 : decode cX7_itemOf 4 = .ok (.lcmp, 1) := by decide +kernel
theorem dX7_itemOf_5 : decode cX7_itemOf 5 = .ok (.ifCond .ne 5, 3) := by decide +kernel
theorem dX7_itemOf_8 : decode cX7_itemOf 8 = .ok (.iconst 0, 1) := by decide +kernel
theorem dX7_itemOf_9 : decode cX7_itemOf 9 = .ok (.ireturn, 1) := by decide +kernel
theorem dX7_itemOf_10 : decode cX7_itemOf 10 = .ok (.lload_n 0, 1) := by decide +kernel
theorem dX7_itemOf_11 : decode cX7_itemOf 11 = .ok (.ldc2_w 135, 3) := by decide +kernel
theorem dX7_itemOf_14 : decode cX7_itemOf 14 = .ok (.lcmp, 1) := by decide +kernel
theorem dX7_itemOf_15 : decode cX7_itemOf 15 = .ok (.ifCond .ne 6, 3) := by decide +kernel
theorem dX7_itemOf_18 : decode cX7_itemOf 18 = .ok (.bipush 13, 2) := by decide +kernel
theorem dX7_itemOf_20 : decode cX7_itemOf 20 = .ok (.ireturn, 1) := by decide +kernel
theorem dX7_itemOf_21 : decode cX7_itemOf 21 = .ok (.lload_n 0, 1) := by decide +kernel
theorem dX7_itemOf_22 : decode cX7_itemOf 22 = .ok (.ldc2_w 137, 3) := by decide +kernel
theorem dX7_itemOf_25 : decode cX7_itemOf 25 = .ok (.lcmp, 1) := by decide +kernel
theorem dX7_itemOf_26 : decode cX7_itemOf 26 = .ok (.ifCond .ne 6, 3) := by decide +kernel
theorem dX7_itemOf_29 : decode cX7_itemOf 29 = .ok (.bipush 22, 2) := by decide +kernel
theorem dX7_itemOf_31 : decode cX7_itemOf 31 = .ok (.ireturn, 1) := by decide +kernel
theorem dX7_itemOf_32 : decode cX7_itemOf 32 = .ok (.lload_n 0, 1) := by decide +kernel
theorem dX7_itemOf_33 : decode cX7_itemOf 33 = .ok (.ldc2_w 139, 3) := by decide +kernel
theorem dX7_itemOf_36 : decode cX7_itemOf 36 = .ok (.lcmp, 1) := by decide +kernel
theorem dX7_itemOf_37 : decode cX7_itemOf 37 = .ok (.ifCond .ne 6, 3) := by decide +kernel
theorem dX7_itemOf_40 : decode cX7_itemOf 40 = .ok (.bipush 32, 2) := by decide +kernel
theorem dX7_itemOf_42 : decode cX7_itemOf 42 = .ok (.ireturn, 1) := by decide +kernel
theorem dX7_itemOf_43 : decode cX7_itemOf 43 = .ok (.lload_n 0, 1) := by decide +kernel
theorem dX7_itemOf_44 : decode cX7_itemOf 44 = .ok (.ldc2_w 141, 3) := by decide +kernel
theorem dX7_itemOf_47 : decode cX7_itemOf 47 = .ok (.lcmp, 1) := by decide +kernel
theorem dX7_itemOf_48 : decode cX7_itemOf 48 = .ok (.ifCond .ne 6, 3) := by decide +kernel
theorem dX7_itemOf_51 : decode cX7_itemOf 51 = .ok (.bipush 42, 2) := by decide +kernel
theorem dX7_itemOf_53 : decode cX7_itemOf 53 = .ok (.ireturn, 1) := by decide +kernel
theorem dX7_itemOf_54 : decode cX7_itemOf 54 = .ok (.lload_n 0, 1) := by decide +kernel
theorem dX7_itemOf_55 : decode cX7_itemOf 55 = .ok (.ldc2_w 143, 3) := by decide +kernel
theorem dX7_itemOf_58 : decode cX7_itemOf 58 = .ok (.lcmp, 1) := by decide +kernel
theorem dX7_itemOf_59 : decode cX7_itemOf 59 = .ok (.ifCond .ne 6, 3) := by decide +kernel
theorem dX7_itemOf_62 : decode cX7_itemOf 62 = .ok (.bipush 52, 2) := by decide +kernel
theorem dX7_itemOf_64 : decode cX7_itemOf 64 = .ok (.ireturn, 1) := by decide +kernel
theorem dX7_itemOf_65 : decode cX7_itemOf 65 = .ok (.lload_n 0, 1) := by decide +kernel
theorem dX7_itemOf_66 : decode cX7_itemOf 66 = .ok (.ldc2_w 145, 3) := by decide +kernel
theorem dX7_itemOf_69 : decode cX7_itemOf 69 = .ok (.lcmp, 1) := by decide +kernel
theorem dX7_itemOf_70 : decode cX7_itemOf 70 = .ok (.ifCond .ne 8, 3) := by decide +kernel
theorem dX7_itemOf_73 : decode cX7_itemOf 73 = .ok (.bipush 62, 2) := by decide +kernel
theorem dX7_itemOf_75 : decode cX7_itemOf 75 = .ok (.goto 4, 3) := by decide +kernel
theorem dX7_itemOf_78 : decode cX7_itemOf 78 = .ok (.iconst (-1), 1) := by decide +kernel
theorem dX7_itemOf_79 : decode cX7_itemOf 79 = .ok (.ireturn, 1) := by decide +kernel
theorem dX7_reads_0 : decode cX7_reads 0 = .ok (.aload_n 0, 1) := by decide +kernel
theorem dX7_reads_1 : decode cX7_reads 1 = .ok (.iconst 0, 1) := by decide +kernel
theorem dX7_reads_2 : decode cX7_reads 2 = .ok (.putfield 108, 3) := by decide +kernel
theorem dX7_reads_5 : decode cX7_reads 5 = .ok (.aload_n 0, 1) := by decide +kernel
theorem dX7_reads_6 : decode cX7_reads 6 = .ok (.iconst 0, 1) := by decide +kernel
theorem dX7_reads_7 : decode cX7_reads 7 = .ok (.putfield 147, 3) := by decide +kernel
theorem dX7_reads_10 : decode cX7_reads 10 = .ok (.aload_n 0, 1) := by decide +kernel
theorem dX7_reads_11 : decode cX7_reads 11 = .ok (.invokevirtual 150, 3) := by decide +kernel
theorem dX7_reads_14 : decode cX7_reads 14 = .ok (.aload_n 0, 1) := by decide +kernel
theorem dX7_reads_15 : decode cX7_reads 15 = .ok (.getfield 122, 3) := by decide +kernel
theorem dX7_reads_18 : decode cX7_reads 18 = .ok (.ifCond .ne 10, 3) := by decide +kernel
theorem dX7_reads_21 : decode cX7_reads 21 = .ok (.aload_n 0, 1) := by decide +kernel
theorem dX7_reads_22 : decode cX7_reads 22 = .ok (.getfield 147, 3) := by decide +kernel
theorem dX7_reads_25 : decode cX7_reads 25 = .ok (.ifCond .ne 157, 3) := by decide +kernel
theorem dX7_reads_28 : decode cX7_reads 28 = .ok (.aload_n 0, 1) := by decide +kernel
theorem dX7_reads_29 : decode cX7_reads 29 = .ok (.getfield 122, 3) := by decide +kernel
theorem dX7_reads_32 : decode cX7_reads 32 = .ok (.iconst 1, 1) := by decide +kernel
theorem dX7_reads_33 : decode cX7_reads 33 = .ok (.if_icmp .ne 13, 3) := by decide +kernel
theorem dX7_reads_36 : decode cX7_reads 36 = .ok (.aload_n 0, 1) := by decide +kernel
theorem dX7_reads_37 : decode cX7_reads 37 = .ok (.getfield 128, 3) := by decide +kernel
theorem dX7_reads_40 : decode cX7_reads 40 = .ok (.invokestatic 153, 3) := by decide +kernel
theorem dX7_reads_43 : decode cX7_reads 43 = .ok (.goto 4, 3) := by decide +kernel
theorem dX7_reads_46 : decode cX7_reads 46 = .ok (.iconst (-1), 1) := by decide +kernel
theorem dX7_reads_47 : decode cX7_reads 47 = .ok (.istore_n 1, 1) := by decide +kernel
theorem dX7_reads_48 : decode cX7_reads 48 = .ok (.iload_n 1, 1) := by decide +kernel
theorem dX7_reads_49 : decode cX7_reads 49 = .ok (.ifCond .lt 27, 3) := by decide +kernel
theorem dX7_reads_52 : decode cX7_reads 52 = .ok (.iload_n 1, 1) := by decide +kernel
theorem dX7_reads_53 : decode cX7_reads 53 = .ok (.ifCond .ne 7, 3) := by decide +kernel
theorem dX7_reads_56 : decode cX7_reads 56 = .ok (.iconst 1, 1) := by decide +kernel
theorem dX7_reads_57 : decode cX7_reads 57 = .ok (.goto 4, 3) := by decide +kernel
theorem dX7_reads_60 : decode cX7_reads 60 = .ok (.iconst 0, 1) := by decide +kernel
theorem dX7_reads_61 : decode cX7_reads 61 = .ok (.aload_n 0, 1) := by decide +kernel
theorem dX7_reads_62 : decode cX7_reads 62 = .ok (.getfield 147, 3) := by decide +kernel
theorem dX7_reads_65 : decode cX7_reads 65 = .ok (.ifCond .ne 7, 3) := by decide +kernel
theorem dX7_reads_68 : decode cX7_reads 68 = .ok (.iconst 1, 1) := by decide +kernel
theorem dX7_reads_69 : decode cX7_reads 69 = .ok (.goto 4, 3) := by decide +kernel
theorem dX7_reads_72 : decode cX7_reads 72 = .ok (.iconst 0, 1) := by decide +kernel
theorem dX7_reads_73 : decode cX7_reads 73 = .ok (.if_icmp .eq 8, 3) := by decide +kernel
theorem dX7_reads_76 : decode cX7_reads 76 = .ok (.aload_n 0, 1) := by decide +kernel
theorem dX7_reads_77 : decode cX7_reads 77 = .ok (.getfield 111, 3) := by decide +kernel
theorem dX7_reads_80 : decode cX7_reads 80 = .ok (.ireturn, 1) := by decide +kernel
theorem dX7_reads_81 : decode cX7_reads 81 = .ok (.aload_n 0, 1) := by decide +kernel
theorem dX7_reads_82 : decode cX7_reads 82 = .ok (.getfield 30, 3) := by decide +kernel
theorem dX7_reads_85 : decode cX7_reads 85 = .ok (.iconst 4, 1) := by decide +kernel
theorem dX7_reads_86 : decode cX7_reads 86 = .ok (.aload_n 0, 1) := by decide +kernel
theorem dX7_reads_87 : decode cX7_reads 87 = .ok (.getfield 147, 3) := by decide +kernel
theorem dX7_reads_90 : decode cX7_reads 90 = .ok (.imul, 1) := by decide +kernel
theorem dX7_reads_91 : decode cX7_reads 91 = .ok (.iload_n 1, 1) := by decide +kernel
theorem dX7_reads_92 : decode cX7_reads 92 = .ok (.bipush 10, 2) := by decide +kernel
theorem dX7_reads_94 : decode cX7_reads 94 = .ok (.idiv, 1) := by decide +kernel
theorem dX7_reads_95 : decode cX7_reads 95 = .ok (.iastore, 1) := by decide +kernel
theorem dX7_reads_96 : decode cX7_reads 96 = .ok (.iconst 0, 1) := by decide +kernel
theorem dX7_reads_97 : decode cX7_reads 97 = .ok (.istore_n 2, 1) := by decide +kernel
theorem dX7_reads_98 : decode cX7_reads 98 = .ok (.iload_n 2, 1) := by decide +kernel
theorem dX7_reads_99 : decode cX7_reads 99 = .ok (.iload_n 1, 1) := by decide +kernel
theorem dX7_reads_100 : decode cX7_reads 100 = .ok (.bipush 10, 2) := by decide +kernel
theorem dX7_reads_102 : decode cX7_reads 102 = .ok (.irem, 1) := by decide +kernel
theorem dX7_reads_103 : decode cX7_reads 103 = .ok (.if_icmp .ge 45, 3) := by decide +kernel
theorem dX7_reads_106 : decode cX7_reads 106 = .ok (.aload_n 0, 1) := by decide +kernel
theorem dX7_reads_107 : decode cX7_reads 107 = .ok (.invokevirtual 150, 3) := by decide +kernel
theorem dX7_reads_110 : decode cX7_reads 110 = .ok (.aload_n 0, 1) := by decide +kernel
theorem dX7_reads_111 : decode cX7_reads 111 = .ok (.getfield 122, 3) := by decide +kernel
theorem dX7_reads_114 : decode cX7_reads 114 = .ok (.iconst 2, 1) := by decide +kernel
theorem dX7_reads_115 : decode cX7_reads 115 = .ok (.if_icmp .eq 8, 3) := by decide +kernel
theorem dX7_reads_118 : decode cX7_reads 118 = .ok (.aload_n 0, 1) := by decide +kernel
theorem dX7_reads_119 : decode cX7_reads 119 = .ok (.getfield 111, 3) := by decide +kernel
theorem dX7_reads_122 : decode cX7_reads 122 = .ok (.ireturn, 1) := by decide +kernel
theorem dX7_reads_123 : decode cX7_reads 123 = .ok (.aload_n 0, 1) := by decide +kernel
theorem dX7_reads_124 : decode cX7_reads 124 = .ok (.getfield 30, 3) := by decide +kernel
theorem dX7_reads_127 : decode cX7_reads 127 = .ok (.iconst 4, 1) := by decide +kernel
theorem dX7_reads_128 : decode cX7_reads 128 = .ok (.aload_n 0, 1) := by decide +kernel
theorem dX7_reads_129 : decode cX7_reads 129 = .ok (.getfield 147, 3) := by decide +kernel
theorem dX7_reads_132 : decode cX7_reads 132 = .ok (.imul, 1) := by decide +kernel
theorem dX7_reads_133 : decode cX7_reads 133 = .ok (.iconst 1, 1) := by decide +kernel
theorem dX7_reads_134 : decode cX7_reads 134 = .ok (.iadd, 1) := by decide +kernel
theorem dX7_reads_135 : decode cX7_reads 135 = .ok (.iload_n 2, 1) := by decide +kernel
theorem dX7_reads_136 : decode cX7_reads 136 = .ok (.iadd, 1) := by decide +kernel
theorem dX7_reads_137 : decode cX7_reads 137 = .ok (.aload_n 0, 1) := by decide +kernel
theorem dX7_reads_138 : decode cX7_reads 138 = .ok (.getfield 125, 3) := by decide +kernel
theorem dX7_reads_141 : decode cX7_reads 141 = .ok (.iastore, 1) := by decide +kernel
theorem dX7_reads_142 : decode cX7_reads 142 = .ok (.iinc 2 1, 3) := by decide +kernel
theorem dX7_reads_145 : decode cX7_reads 145 = .ok (.goto (-47), 3) := by decide +kernel
theorem dX7_reads_148 : decode cX7_reads 148 = .ok (.aload_n 0, 1) := by decide +kernel
theorem dX7_reads_149 : decode cX7_reads 149 = .ok (.invokevirtual 150, 3) := by decide +kernel
theorem dX7_reads_152 : decode cX7_reads 152 = .ok (.aload_n 0, 1) := by decide +kernel
theorem dX7_reads_153 : decode cX7_reads 153 = .ok (.getfield 122, 3) := by decide +kernel
theorem dX7_reads_156 : decode cX7_reads 156 = .ok (.iconst 3, 1) := by decide +kernel
theorem dX7_reads_157 : decode cX7_reads 157 = .ok (.if_icmp .eq 8, 3) := by decide +kernel
theorem dX7_reads_160 : decode cX7_reads 160 = .ok (.aload_n 0, 1) := by decide +kernel
theorem dX7_reads_161 : decode cX7_reads 161 = .ok (.getfield 111, 3) := by decide +kernel
theorem dX7_reads_164 : decode cX7_reads 164 = .ok (.ireturn, 1) := by decide +kernel
theorem dX7_reads_165 : decode cX7_reads 165 = .ok (.aload_n 0, 1) := by decide +kernel
theorem dX7_reads_166 : decode cX7_reads 166 = .ok (.dup, 1) := by decide +kernel
theorem dX7_reads_167 : decode cX7_reads 167 = .ok (.getfield 147, 3) := by decide +kernel
theorem dX7_reads_170 : decode cX7_reads 170 = .ok (.iconst 1, 1) := by decide +kernel
theorem dX7_reads_171 : decode cX7_reads 171 = .ok (.iadd, 1) := by decide +kernel
theorem dX7_reads_172 : decode cX7_reads 172 = .ok (.putfield 147, 3) := by decide +kernel
theorem dX7_reads_175 : decode cX7_reads 175 = .ok (.aload_n 0, 1) := by decide +kernel
theorem dX7_reads_176 : decode cX7_reads 176 = .ok (.invokevirtual 150, 3) := by decide +kernel
theorem dX7_reads_179 : decode cX7_reads 179 = .ok (.goto (-165), 3) := by decide +kernel
theorem dX7_reads_182 : decode cX7_reads 182 = .ok (.iconst (-1), 1) := by decide +kernel
theorem dX7_reads_183 : decode cX7_reads 183 = .ok (.ireturn, 1) := by decide +kernel
theorem dX7_doItem_0 : decode cX7_doItem 0 = .ok (.aload_n 0, 1) := by decide +kernel
theorem dX7_doItem_1 : decode cX7_doItem 1 = .ok (.getfield 30, 3) := by decide +kernel
theorem dX7_doItem_4 : decode cX7_doItem 4 = .ok (.iconst 4, 1) := by decide +kernel
theorem dX7_doItem_5 : decode cX7_doItem 5 = .ok (.iload_n 1, 1) := by decide +kernel
theorem dX7_doItem_6 : decode cX7_doItem 6 = .ok (.imul, 1) := by decide +kernel
theorem dX7_doItem_7 : decode cX7_doItem 7 = .ok (.iconst 1, 1) := by decide +kernel
theorem dX7_doItem_8 : decode cX7_doItem 8 = .ok (.iadd, 1) := by decide +kernel
theorem dX7_doItem_9 : decode cX7_doItem 9 = .ok (.iaload, 1) := by decide +kernel
theorem dX7_doItem_10 : decode cX7_doItem 10 = .ok (.istore_n 2, 1) := by decide +kernel
theorem dX7_doItem_11 : decode cX7_doItem 11 = .ok (.aload_n 0, 1) := by decide +kernel
theorem dX7_doItem_12 : decode cX7_doItem 12 = .ok (.getfield 30, 3) := by decide +kernel
theorem dX7_doItem_15 : decode cX7_doItem 15 = .ok (.iconst 4, 1) := by decide +kernel
theorem dX7_doItem_16 : decode cX7_doItem 16 = .ok (.iload_n 1, 1) := by decide +kernel
theorem dX7_doItem_17 : decode cX7_doItem 17 = .ok (.imul, 1) := by decide +kernel
theorem dX7_doItem_18 : decode cX7_doItem 18 = .ok (.iconst 2, 1) := by decide +kernel
theorem dX7_doItem_19 : decode cX7_doItem 19 = .ok (.iadd, 1) := by decide +kernel
theorem dX7_doItem_20 : decode cX7_doItem 20 = .ok (.iaload, 1) := by decide +kernel
theorem dX7_doItem_21 : decode cX7_doItem 21 = .ok (.istore_n 3, 1) := by decide +kernel
theorem dX7_doItem_22 : decode cX7_doItem 22 = .ok (.aload_n 0, 1) := by decide +kernel
theorem dX7_doItem_23 : decode cX7_doItem 23 = .ok (.getfield 30, 3) := by decide +kernel
theorem dX7_doItem_26 : decode cX7_doItem 26 = .ok (.iconst 4, 1) := by decide +kernel
theorem dX7_doItem_27 : decode cX7_doItem 27 = .ok (.iload_n 1, 1) := by decide +kernel
theorem dX7_doItem_28 : decode cX7_doItem 28 = .ok (.imul, 1) := by decide +kernel
theorem dX7_doItem_29 : decode cX7_doItem 29 = .ok (.iaload, 1) := by decide +kernel
theorem dX7_doItem_30 : decode cX7_doItem 30 = .ok (.tableswitch 90 0 5 #[38, 44, 61, 68, 75, 83], 38) := by decide +kernel
theorem dX7_doItem_68 : decode cX7_doItem 68 = .ok (.aload_n 0, 1) := by decide +kernel
theorem dX7_doItem_69 : decode cX7_doItem 69 = .ok (.invokevirtual 48, 3) := by decide +kernel
theorem dX7_doItem_72 : decode cX7_doItem 72 = .ok (.iconst 0, 1) := by decide +kernel
theorem dX7_doItem_73 : decode cX7_doItem 73 = .ok (.ireturn, 1) := by decide +kernel
theorem dX7_doItem_74 : decode cX7_doItem 74 = .ok (.aload_n 0, 1) := by decide +kernel
theorem dX7_doItem_75 : decode cX7_doItem 75 = .ok (.iload_n 2, 1) := by decide +kernel
theorem dX7_doItem_76 : decode cX7_doItem 76 = .ok (.iload_n 3, 1) := by decide +kernel
theorem dX7_doItem_77 : decode cX7_doItem 77 = .ok (.aload_n 0, 1) := by decide +kernel
theorem dX7_doItem_78 : decode cX7_doItem 78 = .ok (.getfield 30, 3) := by decide +kernel
theorem dX7_doItem_81 : decode cX7_doItem 81 = .ok (.iconst 4, 1) := by decide +kernel
theorem dX7_doItem_82 : decode cX7_doItem 82 = .ok (.iload_n 1, 1) := by decide +kernel
theorem dX7_doItem_83 : decode cX7_doItem 83 = .ok (.imul, 1) := by decide +kernel
theorem dX7_doItem_84 : decode cX7_doItem 84 = .ok (.iconst 3, 1) := by decide +kernel
theorem dX7_doItem_85 : decode cX7_doItem 85 = .ok (.iadd, 1) := by decide +kernel
theorem dX7_doItem_86 : decode cX7_doItem 86 = .ok (.iaload, 1) := by decide +kernel
theorem dX7_doItem_87 : decode cX7_doItem 87 = .ok (.invokevirtual 72, 3) := by decide +kernel
theorem dX7_doItem_90 : decode cX7_doItem 90 = .ok (.ireturn, 1) := by decide +kernel
theorem dX7_doItem_91 : decode cX7_doItem 91 = .ok (.aload_n 0, 1) := by decide +kernel
theorem dX7_doItem_92 : decode cX7_doItem 92 = .ok (.iload_n 2, 1) := by decide +kernel
theorem dX7_doItem_93 : decode cX7_doItem 93 = .ok (.iload_n 3, 1) := by decide +kernel
theorem dX7_doItem_94 : decode cX7_doItem 94 = .ok (.invokevirtual 80, 3) := by decide +kernel
theorem dX7_doItem_97 : decode cX7_doItem 97 = .ok (.ireturn, 1) := by decide +kernel
theorem dX7_doItem_98 : decode cX7_doItem 98 = .ok (.aload_n 0, 1) := by decide +kernel
theorem dX7_doItem_99 : decode cX7_doItem 99 = .ok (.iload_n 2, 1) := by decide +kernel
theorem dX7_doItem_100 : decode cX7_doItem 100 = .ok (.iload_n 3, 1) := by decide +kernel
theorem dX7_doItem_101 : decode cX7_doItem 101 = .ok (.invokevirtual 84, 3) := by decide +kernel
theorem dX7_doItem_104 : decode cX7_doItem 104 = .ok (.ireturn, 1) := by decide +kernel
theorem dX7_doItem_105 : decode cX7_doItem 105 = .ok (.aload_n 0, 1) := by decide +kernel
theorem dX7_doItem_106 : decode cX7_doItem 106 = .ok (.iload_n 2, 1) := by decide +kernel
theorem dX7_doItem_107 : decode cX7_doItem 107 = .ok (.iload_n 3, 1) := by decide +kernel
theorem dX7_doItem_108 : decode cX7_doItem 108 = .ok (.iconst 1, 1) := by decide +kernel
theorem dX7_doItem_109 : decode cX7_doItem 109 = .ok (.invokevirtual 87, 3) := by decide +kernel
theorem dX7_doItem_112 : decode cX7_doItem 112 = .ok (.ireturn, 1) := by decide +kernel
theorem dX7_doItem_113 : decode cX7_doItem 113 = .ok (.aload_n 0, 1) := by decide +kernel
theorem dX7_doItem_114 : decode cX7_doItem 114 = .ok (.iload_n 2, 1) := by decide +kernel
theorem dX7_doItem_115 : decode cX7_doItem 115 = .ok (.iload_n 3, 1) := by decide +kernel
theorem dX7_doItem_116 : decode cX7_doItem 116 = .ok (.invokevirtual 91, 3) := by decide +kernel
theorem dX7_doItem_119 : decode cX7_doItem 119 = .ok (.ireturn, 1) := by decide +kernel
theorem dX7_doItem_120 : decode cX7_doItem 120 = .ok (.aload_n 0, 1) := by decide +kernel
theorem dX7_doItem_121 : decode cX7_doItem 121 = .ok (.iload_n 2, 1) := by decide +kernel
theorem dX7_doItem_122 : decode cX7_doItem 122 = .ok (.iload_n 3, 1) := by decide +kernel
theorem dX7_doItem_123 : decode cX7_doItem 123 = .ok (.iconst 1, 1) := by decide +kernel
theorem dX7_doItem_124 : decode cX7_doItem 124 = .ok (.invokevirtual 94, 3) := by decide +kernel
theorem dX7_doItem_127 : decode cX7_doItem 127 = .ok (.ireturn, 1) := by decide +kernel
theorem dX7_read_0 : decode cX7_read 0 = .ok (.aload_n 0, 1) := by decide +kernel
theorem dX7_read_1 : decode cX7_read 1 = .ok (.invokevirtual 157, 3) := by decide +kernel
theorem dX7_read_4 : decode cX7_read 4 = .ok (.istore_n 1, 1) := by decide +kernel
theorem dX7_read_5 : decode cX7_read 5 = .ok (.iload_n 1, 1) := by decide +kernel
theorem dX7_read_6 : decode cX7_read 6 = .ok (.iconst (-1), 1) := by decide +kernel
theorem dX7_read_7 : decode cX7_read 7 = .ok (.if_icmp .eq 8, 3) := by decide +kernel
theorem dX7_read_10 : decode cX7_read 10 = .ok (.bipush (-10), 2) := by decide +kernel
theorem dX7_read_12 : decode cX7_read 12 = .ok (.iload_n 1, 1) := by decide +kernel
theorem dX7_read_13 : decode cX7_read 13 = .ok (.isub, 1) := by decide +kernel
theorem dX7_read_14 : decode cX7_read 14 = .ok (.ireturn, 1) := by decide +kernel
theorem dX7_read_15 : decode cX7_read 15 = .ok (.aload_n 0, 1) := by decide +kernel
theorem dX7_read_16 : decode cX7_read 16 = .ok (.getfield 7, 3) := by decide +kernel
theorem dX7_read_19 : decode cX7_read 19 = .ok (.iconst 0, 1) := by decide +kernel
theorem dX7_read_20 : decode cX7_read 20 = .ok (.aload_n 0, 1) := by decide +kernel
theorem dX7_read_21 : decode cX7_read 21 = .ok (.getfield 33, 3) := by decide +kernel
theorem dX7_read_24 : decode cX7_read 24 = .ok (.iconst 0, 1) := by decide +kernel
theorem dX7_read_25 : decode cX7_read 25 = .ok (.sipush 228, 3) := by decide +kernel
theorem dX7_read_28 : decode cX7_read 28 = .ok (.invokestatic 161, 3) := by decide +kernel
theorem dX7_read_31 : decode cX7_read 31 = .ok (.iconst 0, 1) := by decide +kernel
theorem dX7_read_32 : decode cX7_read 32 = .ok (.istore_n 2, 1) := by decide +kernel
theorem dX7_read_33 : decode cX7_read 33 = .ok (.iload_n 2, 1) := by decide +kernel
theorem dX7_read_34 : decode cX7_read 34 = .ok (.aload_n 0, 1) := by decide +kernel
theorem dX7_read_35 : decode cX7_read 35 = .ok (.getfield 147, 3) := by decide +kernel
theorem dX7_read_38 : decode cX7_read 38 = .ok (.if_icmp .ge 40, 3) := by decide +kernel
theorem dX7_read_41 : decode cX7_read 41 = .ok (.aload_n 0, 1) := by decide +kernel
theorem dX7_read_42 : decode cX7_read 42 = .ok (.iload_n 2, 1) := by decide +kernel
theorem dX7_read_43 : decode cX7_read 43 = .ok (.invokevirtual 165, 3) := by decide +kernel
theorem dX7_read_46 : decode cX7_read 46 = .ok (.iconst (-1), 1) := by decide +kernel
theorem dX7_read_47 : decode cX7_read 47 = .ok (.if_icmp .ge 25, 3) := by decide +kernel
theorem dX7_read_50 : decode cX7_read 50 = .ok (.aload_n 0, 1) := by decide +kernel
theorem dX7_read_51 : decode cX7_read 51 = .ok (.getfield 33, 3) := by decide +kernel
theorem dX7_read_54 : decode cX7_read 54 = .ok (.iconst 0, 1) := by decide +kernel
theorem dX7_read_55 : decode cX7_read 55 = .ok (.aload_n 0, 1) := by decide +kernel
theorem dX7_read_56 : decode cX7_read 56 = .ok (.getfield 7, 3) := by decide +kernel
theorem dX7_read_59 : decode cX7_read 59 = .ok (.iconst 0, 1) := by decide +kernel
theorem dX7_read_60 : decode cX7_read 60 = .ok (.sipush 228, 3) := by decide +kernel
theorem dX7_read_63 : decode cX7_read 63 = .ok (.invokestatic 161, 3) := by decide +kernel
theorem dX7_read_66 : decode cX7_read 66 = .ok (.sipush (-1000), 3) := by decide +kernel
theorem dX7_read_69 : decode cX7_read 69 = .ok (.iload_n 2, 1) := by decide +kernel
theorem dX7_read_70 : decode cX7_read 70 = .ok (.isub, 1) := by decide +kernel
theorem dX7_read_71 : decode cX7_read 71 = .ok (.ireturn, 1) := by decide +kernel
theorem dX7_read_72 : decode cX7_read 72 = .ok (.iinc 2 1, 3) := by decide +kernel
theorem dX7_read_75 : decode cX7_read 75 = .ok (.goto (-42), 3) := by decide +kernel
theorem dX7_read_78 : decode cX7_read 78 = .ok (.aload_n 0, 1) := by decide +kernel
theorem dX7_read_79 : decode cX7_read 79 = .ok (.getfield 147, 3) := by decide +kernel
theorem dX7_read_82 : decode cX7_read 82 = .ok (.ireturn, 1) := by decide +kernel
theorem dX7_isKin_0 : decode cX7_isKin 0 = .ok (.aload_n 0, 1) := by decide +kernel
theorem dX7_isKin_1 : decode cX7_isKin 1 = .ok (.bipush 39, 2) := by decide +kernel
theorem dX7_isKin_3 : decode cX7_isKin 3 = .ok (.iconst 5, 1) := by decide +kernel
theorem dX7_isKin_4 : decode cX7_isKin 4 = .ok (.iload_n 1, 1) := by decide +kernel
theorem dX7_isKin_5 : decode cX7_isKin 5 = .ok (.imul, 1) := by decide +kernel
theorem dX7_isKin_6 : decode cX7_isKin 6 = .ok (.iadd, 1) := by decide +kernel
theorem dX7_isKin_7 : decode cX7_isKin 7 = .ok (.iload_n 2, 1) := by decide +kernel
theorem dX7_isKin_8 : decode cX7_isKin 8 = .ok (.iadd, 1) := by decide +kernel
theorem dX7_isKin_9 : decode cX7_isKin 9 = .ok (.iaload, 1) := by decide +kernel
theorem dX7_isKin_10 : decode cX7_isKin 10 = .ok (.iconst 1, 1) := by decide +kernel
theorem dX7_isKin_11 : decode cX7_isKin 11 = .ok (.if_icmp .ne 27, 3) := by decide +kernel
theorem dX7_isKin_14 : decode cX7_isKin 14 = .ok (.aload_n 0, 1) := by decide +kernel
theorem dX7_isKin_15 : decode cX7_isKin 15 = .ok (.bipush 29, 2) := by decide +kernel
theorem dX7_isKin_17 : decode cX7_isKin 17 = .ok (.iload_n 1, 1) := by decide +kernel
theorem dX7_isKin_18 : decode cX7_isKin 18 = .ok (.iadd, 1) := by decide +kernel
theorem dX7_isKin_19 : decode cX7_isKin 19 = .ok (.iaload, 1) := by decide +kernel
theorem dX7_isKin_20 : decode cX7_isKin 20 = .ok (.iconst 1, 1) := by decide +kernel
theorem dX7_isKin_21 : decode cX7_isKin 21 = .ok (.if_icmp .ne 17, 3) := by decide +kernel
theorem dX7_isKin_24 : decode cX7_isKin 24 = .ok (.aload_n 0, 1) := by decide +kernel
theorem dX7_isKin_25 : decode cX7_isKin 25 = .ok (.bipush 29, 2) := by decide +kernel
theorem dX7_isKin_27 : decode cX7_isKin 27 = .ok (.iload_n 2, 1) := by decide +kernel
theorem dX7_isKin_28 : decode cX7_isKin 28 = .ok (.iadd, 1) := by decide +kernel
theorem dX7_isKin_29 : decode cX7_isKin 29 = .ok (.iaload, 1) := by decide +kernel
theorem dX7_isKin_30 : decode cX7_isKin 30 = .ok (.iconst 1, 1) := by decide +kernel
theorem dX7_isKin_31 : decode cX7_isKin 31 = .ok (.if_icmp .ne 7, 3) := by decide +kernel
theorem dX7_isKin_34 : decode cX7_isKin 34 = .ok (.iconst 1, 1) := by decide +kernel
theorem dX7_isKin_35 : decode cX7_isKin 35 = .ok (.goto 4, 3) := by decide +kernel
theorem dX7_isKin_38 : decode cX7_isKin 38 = .ok (.iconst 0, 1) := by decide +kernel
theorem dX7_isKin_39 : decode cX7_isKin 39 = .ok (.istore_n 3, 1) := by decide +kernel
theorem dX7_isKin_40 : decode cX7_isKin 40 = .ok (.iload_n 3, 1) := by decide +kernel
theorem dX7_isKin_41 : decode cX7_isKin 41 = .ok (.ifCond .ne 23, 3) := by decide +kernel
theorem dX7_isKin_44 : decode cX7_isKin 44 = .ok (.aload_n 0, 1) := by decide +kernel
theorem dX7_isKin_45 : decode cX7_isKin 45 = .ok (.bipush 19, 2) := by decide +kernel
theorem dX7_isKin_47 : decode cX7_isKin 47 = .ok (.iload_n 1, 1) := by decide +kernel
theorem dX7_isKin_48 : decode cX7_isKin 48 = .ok (.iadd, 1) := by decide +kernel
theorem dX7_isKin_49 : decode cX7_isKin 49 = .ok (.iaload, 1) := by decide +kernel
theorem dX7_isKin_50 : decode cX7_isKin 50 = .ok (.iload_n 2, 1) := by decide +kernel
theorem dX7_isKin_51 : decode cX7_isKin 51 = .ok (.if_icmp .eq 13, 3) := by decide +kernel
theorem dX7_isKin_54 : decode cX7_isKin 54 = .ok (.aload_n 0, 1) := by decide +kernel
theorem dX7_isKin_55 : decode cX7_isKin 55 = .ok (.bipush 19, 2) := by decide +kernel
theorem dX7_isKin_57 : decode cX7_isKin 57 = .ok (.iload_n 2, 1) := by decide +kernel
theorem dX7_isKin_58 : decode cX7_isKin 58 = .ok (.iadd, 1) := by decide +kernel
theorem dX7_isKin_59 : decode cX7_isKin 59 = .ok (.iaload, 1) := by decide +kernel
theorem dX7_isKin_60 : decode cX7_isKin 60 = .ok (.iload_n 1, 1) := by decide +kernel
theorem dX7_isKin_61 : decode cX7_isKin 61 = .ok (.if_icmp .ne 7, 3) := by decide +kernel
theorem dX7_isKin_64 : decode cX7_isKin 64 = .ok (.iconst 1, 1) := by decide +kernel
theorem dX7_isKin_65 : decode cX7_isKin 65 = .ok (.goto 4, 3) := by decide +kernel
theorem dX7_isKin_68 : decode cX7_isKin 68 = .ok (.iconst 0, 1) := by decide +kernel
theorem dX7_isKin_69 : decode cX7_isKin 69 = .ok (.ireturn, 1) := by decide +kernel
theorem dX7_degreeOn_0 : decode cX7_degreeOn 0 = .ok (.iconst 0, 1) := by decide +kernel
theorem dX7_degreeOn_1 : decode cX7_degreeOn 1 = .ok (.istore 4, 2) := by decide +kernel
theorem dX7_degreeOn_3 : decode cX7_degreeOn 3 = .ok (.iload 4, 2) := by decide +kernel
theorem dX7_degreeOn_5 : decode cX7_degreeOn 5 = .ok (.iconst 5, 1) := by decide +kernel
theorem dX7_degreeOn_6 : decode cX7_degreeOn 6 = .ok (.if_icmp .ge 28, 3) := by decide +kernel
theorem dX7_degreeOn_9 : decode cX7_degreeOn 9 = .ok (.aload_n 0, 1) := by decide +kernel
theorem dX7_degreeOn_10 : decode cX7_degreeOn 10 = .ok (.getfield 36, 3) := by decide +kernel
theorem dX7_degreeOn_13 : decode cX7_degreeOn 13 = .ok (.iload 4, 2) := by decide +kernel
theorem dX7_degreeOn_15 : decode cX7_degreeOn 15 = .ok (.iload 4, 2) := by decide +kernel
theorem dX7_degreeOn_17 : decode cX7_degreeOn 17 = .ok (.iload_n 2, 1) := by decide +kernel
theorem dX7_degreeOn_18 : decode cX7_degreeOn 18 = .ok (.if_icmp .ne 7, 3) := by decide +kernel
theorem dX7_degreeOn_21 : decode cX7_degreeOn 21 = .ok (.iconst 0, 1) := by decide +kernel
theorem dX7_degreeOn_22 : decode cX7_degreeOn 22 = .ok (.goto 5, 3) := by decide +kernel
theorem dX7_degreeOn_25 : decode cX7_degreeOn 25 = .ok (.ldc 168, 2) := by decide +kernel
theorem dX7_degreeOn_27 : decode cX7_degreeOn 27 = .ok (.iastore, 1) := by decide +kernel
theorem dX7_degreeOn_28 : decode cX7_degreeOn 28 = .ok (.iinc 4 1, 3) := by decide +kernel
theorem dX7_degreeOn_31 : decode cX7_degreeOn 31 = .ok (.goto (-28), 3) := by decide +kernel
theorem dX7_degreeOn_34 : decode cX7_degreeOn 34 = .ok (.iconst 0, 1) := by decide +kernel
theorem dX7_degreeOn_35 : decode cX7_degreeOn 35 = .ok (.istore 4, 2) := by decide +kernel
theorem dX7_degreeOn_37 : decode cX7_degreeOn 37 = .ok (.iload 4, 2) := by decide +kernel
theorem dX7_degreeOn_39 : decode cX7_degreeOn 39 = .ok (.iconst 5, 1) := by decide +kernel
theorem dX7_degreeOn_40 : decode cX7_degreeOn 40 = .ok (.if_icmp .ge 106, 3) := by decide +kernel
theorem dX7_degreeOn_43 : decode cX7_degreeOn 43 = .ok (.iconst 0, 1) := by decide +kernel
theorem dX7_degreeOn_44 : decode cX7_degreeOn 44 = .ok (.istore 5, 2) := by decide +kernel
theorem dX7_degreeOn_46 : decode cX7_degreeOn 46 = .ok (.iload 5, 2) := by decide +kernel
theorem dX7_degreeOn_48 : decode cX7_degreeOn 48 = .ok (.aload_n 1, 1) := by decide +kernel
theorem dX7_degreeOn_49 : decode cX7_degreeOn 49 = .ok (.iconst 0, 1) := by decide +kernel
theorem dX7_degreeOn_50 : decode cX7_degreeOn 50 = .ok (.iaload, 1) := by decide +kernel
theorem dX7_degreeOn_51 : decode cX7_degreeOn 51 = .ok (.if_icmp .ge 89, 3) := by decide +kernel
theorem dX7_degreeOn_54 : decode cX7_degreeOn 54 = .ok (.iconst 0, 1) := by decide +kernel
theorem dX7_degreeOn_55 : decode cX7_degreeOn 55 = .ok (.istore 6, 2) := by decide +kernel
theorem dX7_degreeOn_57 : decode cX7_degreeOn 57 = .ok (.iload 6, 2) := by decide +kernel
theorem dX7_degreeOn_59 : decode cX7_degreeOn 59 = .ok (.aload_n 1, 1) := by decide +kernel
theorem dX7_degreeOn_60 : decode cX7_degreeOn 60 = .ok (.iconst 0, 1) := by decide +kernel
theorem dX7_degreeOn_61 : decode cX7_degreeOn 61 = .ok (.iaload, 1) := by decide +kernel
theorem dX7_degreeOn_62 : decode cX7_degreeOn 62 = .ok (.if_icmp .ge 72, 3) := by decide +kernel
theorem dX7_degreeOn_65 : decode cX7_degreeOn 65 = .ok (.aload_n 0, 1) := by decide +kernel
theorem dX7_degreeOn_66 : decode cX7_degreeOn 66 = .ok (.getfield 36, 3) := by decide +kernel
theorem dX7_degreeOn_69 : decode cX7_degreeOn 69 = .ok (.iload 6, 2) := by decide +kernel
theorem dX7_degreeOn_71 : decode cX7_degreeOn 71 = .ok (.iload 5, 2) := by decide +kernel
theorem dX7_degreeOn_73 : decode cX7_degreeOn 73 = .ok (.iload 6, 2) := by decide +kernel
theorem dX7_degreeOn_75 : decode cX7_degreeOn 75 = .ok (.if_icmp .eq 45, 3) := by decide +kernel
theorem dX7_degreeOn_78 : decode cX7_degreeOn 78 = .ok (.aload_n 1, 1) := by decide +kernel
theorem dX7_degreeOn_79 : decode cX7_degreeOn 79 = .ok (.iload 5, 2) := by decide +kernel
theorem dX7_degreeOn_81 : decode cX7_degreeOn 81 = .ok (.iload 6, 2) := by decide +kernel
theorem dX7_degreeOn_83 : decode cX7_degreeOn 83 = .ok (.invokestatic 169, 3) := by decide +kernel
theorem dX7_degreeOn_86 : decode cX7_degreeOn 86 = .ok (.ifCond .eq 34, 3) := by decide +kernel
theorem dX7_degreeOn_89 : decode cX7_degreeOn 89 = .ok (.aload_n 0, 1) := by decide +kernel
theorem dX7_degreeOn_90 : decode cX7_degreeOn 90 = .ok (.getfield 36, 3) := by decide +kernel
theorem dX7_degreeOn_93 : decode cX7_degreeOn 93 = .ok (.iload 5, 2) := by decide +kernel
theorem dX7_degreeOn_95 : decode cX7_degreeOn 95 = .ok (.iaload, 1) := by decide +kernel
theorem dX7_degreeOn_96 : decode cX7_degreeOn 96 = .ok (.iconst 1, 1) := by decide +kernel
theorem dX7_degreeOn_97 : decode cX7_degreeOn 97 = .ok (.iadd, 1) := by decide +kernel
theorem dX7_degreeOn_98 : decode cX7_degreeOn 98 = .ok (.aload_n 0, 1) := by decide +kernel
theorem dX7_degreeOn_99 : decode cX7_degreeOn 99 = .ok (.getfield 36, 3) := by decide +kernel
theorem dX7_degreeOn_102 : decode cX7_degreeOn 102 = .ok (.iload 6, 2) := by decide +kernel
theorem dX7_degreeOn_104 : decode cX7_degreeOn 104 = .ok (.iaload, 1) := by decide +kernel
theorem dX7_degreeOn_105 : decode cX7_degreeOn 105 = .ok (.if_icmp .ge 15, 3) := by decide +kernel
theorem dX7_degreeOn_108 : decode cX7_degreeOn 108 = .ok (.aload_n 0, 1) := by decide +kernel
theorem dX7_degreeOn_109 : decode cX7_degreeOn 109 = .ok (.getfield 36, 3) := by decide +kernel
theorem dX7_degreeOn_112 : decode cX7_degreeOn 112 = .ok (.iload 5, 2) := by decide +kernel
theorem dX7_degreeOn_114 : decode cX7_degreeOn 114 = .ok (.iaload, 1) := by decide +kernel
theorem dX7_degreeOn_115 : decode cX7_degreeOn 115 = .ok (.iconst 1, 1) := by decide +kernel
theorem dX7_degreeOn_116 : decode cX7_degreeOn 116 = .ok (.iadd, 1) := by decide +kernel
theorem dX7_degreeOn_117 : decode cX7_degreeOn 117 = .ok (.goto 10, 3) := by decide +kernel
theorem dX7_degreeOn_120 : decode cX7_degreeOn 120 = .ok (.aload_n 0, 1) := by decide +kernel
theorem dX7_degreeOn_121 : decode cX7_degreeOn 121 = .ok (.getfield 36, 3) := by decide +kernel
theorem dX7_degreeOn_124 : decode cX7_degreeOn 124 = .ok (.iload 6, 2) := by decide +kernel
theorem dX7_degreeOn_126 : decode cX7_degreeOn 126 = .ok (.iaload, 1) := by decide +kernel
theorem dX7_degreeOn_127 : decode cX7_degreeOn 127 = .ok (.iastore, 1) := by decide +kernel
theorem dX7_degreeOn_128 : decode cX7_degreeOn 128 = .ok (.iinc 6 1, 3) := by decide +kernel
theorem dX7_degreeOn_131 : decode cX7_degreeOn 131 = .ok (.goto (-74), 3) := by decide +kernel
theorem dX7_degreeOn_134 : decode cX7_degreeOn 134 = .ok (.iinc 5 1, 3) := by decide +kernel
theorem dX7_degreeOn_137 : decode cX7_degreeOn 137 = .ok (.goto (-91), 3) := by decide +kernel
theorem dX7_degreeOn_140 : decode cX7_degreeOn 140 = .ok (.iinc 4 1, 3) := by decide +kernel
theorem dX7_degreeOn_143 : decode cX7_degreeOn 143 = .ok (.goto (-106), 3) := by decide +kernel
theorem dX7_degreeOn_146 : decode cX7_degreeOn 146 = .ok (.aload_n 0, 1) := by decide +kernel
theorem dX7_degreeOn_147 : decode cX7_degreeOn 147 = .ok (.getfield 36, 3) := by decide +kernel
theorem dX7_degreeOn_150 : decode cX7_degreeOn 150 = .ok (.iload_n 3, 1) := by decide +kernel
theorem dX7_degreeOn_151 : decode cX7_degreeOn 151 = .ok (.iaload, 1) := by decide +kernel
theorem dX7_degreeOn_152 : decode cX7_degreeOn 152 = .ok (.ldc 168, 2) := by decide +kernel
theorem dX7_degreeOn_154 : decode cX7_degreeOn 154 = .ok (.if_icmp .ge 12, 3) := by decide +kernel
theorem dX7_degreeOn_157 : decode cX7_degreeOn 157 = .ok (.aload_n 0, 1) := by decide +kernel
theorem dX7_degreeOn_158 : decode cX7_degreeOn 158 = .ok (.getfield 36, 3) := by decide +kernel
theorem dX7_degreeOn_161 : decode cX7_degreeOn 161 = .ok (.iload_n 3, 1) := by decide +kernel
theorem dX7_degreeOn_162 : decode cX7_degreeOn 162 = .ok (.iaload, 1) := by decide +kernel
theorem dX7_degreeOn_163 : decode cX7_degreeOn 163 = .ok (.goto 4, 3) := by decide +kernel
theorem dX7_degreeOn_166 : decode cX7_degreeOn 166 = .ok (.iconst (-1), 1) := by decide +kernel
theorem dX7_degreeOn_167 : decode cX7_degreeOn 167 = .ok (.ireturn, 1) := by decide +kernel
theorem dX7_livingIn_0 : decode cX7_livingIn 0 = .ok (.iconst 0, 1) := by decide +kernel
theorem dX7_livingIn_1 : decode cX7_livingIn 1 = .ok (.istore_n 2, 1) := by decide +kernel
theorem dX7_livingIn_2 : decode cX7_livingIn 2 = .ok (.iconst 0, 1) := by decide +kernel
theorem dX7_livingIn_3 : decode cX7_livingIn 3 = .ok (.istore_n 3, 1) := by decide +kernel
theorem dX7_livingIn_4 : decode cX7_livingIn 4 = .ok (.iload_n 3, 1) := by decide +kernel
theorem dX7_livingIn_5 : decode cX7_livingIn 5 = .ok (.aload_n 0, 1) := by decide +kernel
theorem dX7_livingIn_6 : decode cX7_livingIn 6 = .ok (.iconst 1, 1) := by decide +kernel
theorem dX7_livingIn_7 : decode cX7_livingIn 7 = .ok (.iaload, 1) := by decide +kernel
theorem dX7_livingIn_8 : decode cX7_livingIn 8 = .ok (.if_icmp .ge 29, 3) := by decide +kernel
theorem dX7_livingIn_11 : decode cX7_livingIn 11 = .ok (.iload_n 2, 1) := by decide +kernel
theorem dX7_livingIn_12 : decode cX7_livingIn 12 = .ok (.aload_n 0, 1) := by decide +kernel
theorem dX7_livingIn_13 : decode cX7_livingIn 13 = .ok (.bipush 70, 2) := by decide +kernel
theorem dX7_livingIn_15 : decode cX7_livingIn 15 = .ok (.iload_n 3, 1) := by decide +kernel
theorem dX7_livingIn_16 : decode cX7_livingIn 16 = .ok (.iadd, 1) := by decide +kernel
theorem dX7_livingIn_17 : decode cX7_livingIn 17 = .ok (.iaload, 1) := by decide +kernel
theorem dX7_livingIn_18 : decode cX7_livingIn 18 = .ok (.iload_n 1, 1) := by decide +kernel
theorem dX7_livingIn_19 : decode cX7_livingIn 19 = .ok (.if_icmp .ne 9, 3) := by decide +kernel
theorem dX7_livingIn_22 : decode cX7_livingIn 22 = .ok (.iconst 1, 1) := by decide +kernel
theorem dX7_livingIn_23 : decode cX7_livingIn 23 = .ok (.iload_n 3, 1) := by decide +kernel
theorem dX7_livingIn_24 : decode cX7_livingIn 24 = .ok (.ishl, 1) := by decide +kernel
theorem dX7_livingIn_25 : decode cX7_livingIn 25 = .ok (.goto 4, 3) := by decide +kernel
theorem dX7_livingIn_28 : decode cX7_livingIn 28 = .ok (.iconst 0, 1) := by decide +kernel
theorem dX7_livingIn_29 : decode cX7_livingIn 29 = .ok (.ior, 1) := by decide +kernel
theorem dX7_livingIn_30 : decode cX7_livingIn 30 = .ok (.istore_n 2, 1) := by decide +kernel
theorem dX7_livingIn_31 : decode cX7_livingIn 31 = .ok (.iinc 3 1, 3) := by decide +kernel
theorem dX7_livingIn_34 : decode cX7_livingIn 34 = .ok (.goto (-30), 3) := by decide +kernel
theorem dX7_livingIn_37 : decode cX7_livingIn 37 = .ok (.iload_n 2, 1) := by decide +kernel
theorem dX7_livingIn_38 : decode cX7_livingIn 38 = .ok (.ireturn, 1) := by decide +kernel
theorem dX7_isFeud_0 : decode cX7_isFeud 0 = .ok (.iconst 0, 1) := by decide +kernel
theorem dX7_isFeud_1 : decode cX7_isFeud 1 = .ok (.istore_n 3, 1) := by decide +kernel
theorem dX7_isFeud_2 : decode cX7_isFeud 2 = .ok (.iconst 0, 1) := by decide +kernel
theorem dX7_isFeud_3 : decode cX7_isFeud 3 = .ok (.istore 4, 2) := by decide +kernel
theorem dX7_isFeud_5 : decode cX7_isFeud 5 = .ok (.iload 4, 2) := by decide +kernel
theorem dX7_isFeud_7 : decode cX7_isFeud 7 = .ok (.aload_n 0, 1) := by decide +kernel
theorem dX7_isFeud_8 : decode cX7_isFeud 8 = .ok (.iconst 1, 1) := by decide +kernel
theorem dX7_isFeud_9 : decode cX7_isFeud 9 = .ok (.iaload, 1) := by decide +kernel
theorem dX7_isFeud_10 : decode cX7_isFeud 10 = .ok (.if_icmp .ge 80, 3) := by decide +kernel
theorem dX7_isFeud_13 : decode cX7_isFeud 13 = .ok (.iconst 0, 1) := by decide +kernel
theorem dX7_isFeud_14 : decode cX7_isFeud 14 = .ok (.istore 5, 2) := by decide +kernel
theorem dX7_isFeud_16 : decode cX7_isFeud 16 = .ok (.iload 5, 2) := by decide +kernel
theorem dX7_isFeud_18 : decode cX7_isFeud 18 = .ok (.aload_n 0, 1) := by decide +kernel
theorem dX7_isFeud_19 : decode cX7_isFeud 19 = .ok (.iconst 1, 1) := by decide +kernel
theorem dX7_isFeud_20 : decode cX7_isFeud 20 = .ok (.iaload, 1) := by decide +kernel
theorem dX7_isFeud_21 : decode cX7_isFeud 21 = .ok (.if_icmp .ge 63, 3) := by decide +kernel
theorem dX7_isFeud_24 : decode cX7_isFeud 24 = .ok (.iload_n 3, 1) := by decide +kernel
theorem dX7_isFeud_25 : decode cX7_isFeud 25 = .ok (.ifCond .ne 47, 3) := by decide +kernel
theorem dX7_isFeud_28 : decode cX7_isFeud 28 = .ok (.iload_n 1, 1) := by decide +kernel
theorem dX7_isFeud_29 : decode cX7_isFeud 29 = .ok (.iload 4, 2) := by decide +kernel
theorem dX7_isFeud_31 : decode cX7_isFeud 31 = .ok (.invokestatic 173, 3) := by decide +kernel
theorem dX7_isFeud_34 : decode cX7_isFeud 34 = .ok (.ifCond .eq 42, 3) := by decide +kernel
theorem dX7_isFeud_37 : decode cX7_isFeud 37 = .ok (.iload_n 2, 1) := by decide +kernel
theorem dX7_isFeud_38 : decode cX7_isFeud 38 = .ok (.iload 5, 2) := by decide +kernel
theorem dX7_isFeud_40 : decode cX7_isFeud 40 = .ok (.invokestatic 173, 3) := by decide +kernel
theorem dX7_isFeud_43 : decode cX7_isFeud 43 = .ok (.ifCond .eq 33, 3) := by decide +kernel
theorem dX7_isFeud_46 : decode cX7_isFeud 46 = .ok (.aload_n 0, 1) := by decide +kernel
theorem dX7_isFeud_47 : decode cX7_isFeud 47 = .ok (.bipush 76, 2) := by decide +kernel
theorem dX7_isFeud_49 : decode cX7_isFeud 49 = .ok (.iconst 4, 1) := by decide +kernel
theorem dX7_isFeud_50 : decode cX7_isFeud 50 = .ok (.aload_n 0, 1) := by decide +kernel
theorem dX7_isFeud_51 : decode cX7_isFeud 51 = .ok (.bipush 64, 2) := by decide +kernel
theorem dX7_isFeud_53 : decode cX7_isFeud 53 = .ok (.iload 4, 2) := by decide +kernel
theorem dX7_isFeud_55 : decode cX7_isFeud 55 = .ok (.iadd, 1) := by decide +kernel
theorem dX7_isFeud_56 : decode cX7_isFeud 56 = .ok (.iaload, 1) := by decide +kernel
theorem dX7_isFeud_57 : decode cX7_isFeud 57 = .ok (.imul, 1) := by decide +kernel
theorem dX7_isFeud_58 : decode cX7_isFeud 58 = .ok (.iadd, 1) := by decide +kernel
theorem dX7_isFeud_59 : decode cX7_isFeud 59 = .ok (.aload_n 0, 1) := by decide +kernel
theorem dX7_isFeud_60 : decode cX7_isFeud 60 = .ok (.bipush 64, 2) := by decide +kernel
theorem dX7_isFeud_62 : decode cX7_isFeud 62 = .ok (.iload 5, 2) := by decide +kernel
theorem dX7_isFeud_64 : decode cX7_isFeud 64 = .ok (.iadd, 1) := by decide +kernel
theorem dX7_isFeud_65 : decode cX7_isFeud 65 = .ok (.iaload, 1) := by decide +kernel
theorem dX7_isFeud_66 : decode cX7_isFeud 66 = .ok (.iadd, 1) := by decide +kernel
theorem dX7_isFeud_67 : decode cX7_isFeud 67 = .ok (.iaload, 1) := by decide +kernel
theorem dX7_isFeud_68 : decode cX7_isFeud 68 = .ok (.iconst 1, 1) := by decide +kernel
theorem dX7_isFeud_69 : decode cX7_isFeud 69 = .ok (.if_icmp .ne 7, 3) := by decide +kernel
theorem dX7_isFeud_72 : decode cX7_isFeud 72 = .ok (.iconst 1, 1) := by decide +kernel
theorem dX7_isFeud_73 : decode cX7_isFeud 73 = .ok (.goto 4, 3) := by decide +kernel
theorem dX7_isFeud_76 : decode cX7_isFeud 76 = .ok (.iconst 0, 1) := by decide +kernel
theorem dX7_isFeud_77 : decode cX7_isFeud 77 = .ok (.istore_n 3, 1) := by decide +kernel
theorem dX7_isFeud_78 : decode cX7_isFeud 78 = .ok (.iinc 5 1, 3) := by decide +kernel
theorem dX7_isFeud_81 : decode cX7_isFeud 81 = .ok (.goto (-65), 3) := by decide +kernel
theorem dX7_isFeud_84 : decode cX7_isFeud 84 = .ok (.iinc 4 1, 3) := by decide +kernel
theorem dX7_isFeud_87 : decode cX7_isFeud 87 = .ok (.goto (-82), 3) := by decide +kernel
theorem dX7_isFeud_90 : decode cX7_isFeud 90 = .ok (.iload_n 3, 1) := by decide +kernel
theorem dX7_isFeud_91 : decode cX7_isFeud 91 = .ok (.ireturn, 1) := by decide +kernel
theorem dX7_rankOn_0 : decode cX7_rankOn 0 = .ok (.aload_n 1, 1) := by decide +kernel
theorem dX7_rankOn_1 : decode cX7_rankOn 1 = .ok (.bipush 29, 2) := by decide +kernel
theorem dX7_rankOn_3 : decode cX7_rankOn 3 = .ok (.iload_n 3, 1) := by decide +kernel
theorem dX7_rankOn_4 : decode cX7_rankOn 4 = .ok (.iadd, 1) := by decide +kernel
theorem dX7_rankOn_5 : decode cX7_rankOn 5 = .ok (.iaload, 1) := by decide +kernel
theorem dX7_rankOn_6 : decode cX7_rankOn 6 = .ok (.ifCond .eq 13, 3) := by decide +kernel
theorem dX7_rankOn_9 : decode cX7_rankOn 9 = .ok (.aload_n 1, 1) := by decide +kernel
theorem dX7_rankOn_10 : decode cX7_rankOn 10 = .ok (.bipush 29, 2) := by decide +kernel
theorem dX7_rankOn_12 : decode cX7_rankOn 12 = .ok (.iload 4, 2) := by decide +kernel
theorem dX7_rankOn_14 : decode cX7_rankOn 14 = .ok (.iadd, 1) := by decide +kernel
theorem dX7_rankOn_15 : decode cX7_rankOn 15 = .ok (.iaload, 1) := by decide +kernel
theorem dX7_rankOn_16 : decode cX7_rankOn 16 = .ok (.ifCond .ne 7, 3) := by decide +kernel
theorem dX7_rankOn_19 : decode cX7_rankOn 19 = .ok (.sipush 1000, 3) := by decide +kernel
theorem dX7_rankOn_22 : decode cX7_rankOn 22 = .ok (.ireturn, 1) := by decide +kernel
theorem dX7_rankOn_23 : decode cX7_rankOn 23 = .ok (.aload_n 0, 1) := by decide +kernel
theorem dX7_rankOn_24 : decode cX7_rankOn 24 = .ok (.aload_n 1, 1) := by decide +kernel
theorem dX7_rankOn_25 : decode cX7_rankOn 25 = .ok (.iload_n 3, 1) := by decide +kernel
theorem dX7_rankOn_26 : decode cX7_rankOn 26 = .ok (.iload 4, 2) := by decide +kernel
theorem dX7_rankOn_28 : decode cX7_rankOn 28 = .ok (.invokevirtual 177, 3) := by decide +kernel
theorem dX7_rankOn_31 : decode cX7_rankOn 31 = .ok (.istore 5, 2) := by decide +kernel
theorem dX7_rankOn_33 : decode cX7_rankOn 33 = .ok (.aload_n 1, 1) := by decide +kernel
theorem dX7_rankOn_34 : decode cX7_rankOn 34 = .ok (.iload_n 3, 1) := by decide +kernel
theorem dX7_rankOn_35 : decode cX7_rankOn 35 = .ok (.invokestatic 181, 3) := by decide +kernel
theorem dX7_rankOn_38 : decode cX7_rankOn 38 = .ok (.istore 6, 2) := by decide +kernel
theorem dX7_rankOn_40 : decode cX7_rankOn 40 = .ok (.aload_n 1, 1) := by decide +kernel
theorem dX7_rankOn_41 : decode cX7_rankOn 41 = .ok (.iload 4, 2) := by decide +kernel
theorem dX7_rankOn_43 : decode cX7_rankOn 43 = .ok (.invokestatic 181, 3) := by decide +kernel
theorem dX7_rankOn_46 : decode cX7_rankOn 46 = .ok (.istore 7, 2) := by decide +kernel
theorem dX7_rankOn_48 : decode cX7_rankOn 48 = .ok (.iload_n 2, 1) := by decide +kernel
theorem dX7_rankOn_49 : decode cX7_rankOn 49 = .ok (.tableswitch 119 0 5 #[104, 119, 75, 119, 39, 53], 39) := by decide +kernel
theorem dX7_rankOn_88 : decode cX7_rankOn 88 = .ok (.iload 5, 2) := by decide +kernel
theorem dX7_rankOn_90 : decode cX7_rankOn 90 = .ok (.iconst (-1), 1) := by decide +kernel
theorem dX7_rankOn_91 : decode cX7_rankOn 91 = .ok (.if_icmp .ne 8, 3) := by decide +kernel
theorem dX7_rankOn_94 : decode cX7_rankOn 94 = .ok (.bipush 9, 2) := by decide +kernel
theorem dX7_rankOn_96 : decode cX7_rankOn 96 = .ok (.goto 5, 3) := by decide +kernel
theorem dX7_rankOn_99 : decode cX7_rankOn 99 = .ok (.iload 5, 2) := by decide +kernel
theorem dX7_rankOn_101 : decode cX7_rankOn 101 = .ok (.ireturn, 1) := by decide +kernel
theorem dX7_rankOn_102 : decode cX7_rankOn 102 = .ok (.iload 5, 2) := by decide +kernel
theorem dX7_rankOn_104 : decode cX7_rankOn 104 = .ok (.iconst (-1), 1) := by decide +kernel
theorem dX7_rankOn_105 : decode cX7_rankOn 105 = .ok (.if_icmp .ne 8, 3) := by decide +kernel
theorem dX7_rankOn_108 : decode cX7_rankOn 108 = .ok (.bipush 9, 2) := by decide +kernel
theorem dX7_rankOn_110 : decode cX7_rankOn 110 = .ok (.goto 5, 3) := by decide +kernel
theorem dX7_rankOn_113 : decode cX7_rankOn 113 = .ok (.iload 5, 2) := by decide +kernel
theorem dX7_rankOn_115 : decode cX7_rankOn 115 = .ok (.iconst 2, 1) := by decide +kernel
theorem dX7_rankOn_116 : decode cX7_rankOn 116 = .ok (.iload 7, 2) := by decide +kernel
theorem dX7_rankOn_118 : decode cX7_rankOn 118 = .ok (.invokestatic 185, 3) := by decide +kernel
theorem dX7_rankOn_121 : decode cX7_rankOn 121 = .ok (.imul, 1) := by decide +kernel
theorem dX7_rankOn_122 : decode cX7_rankOn 122 = .ok (.isub, 1) := by decide +kernel
theorem dX7_rankOn_123 : decode cX7_rankOn 123 = .ok (.ireturn, 1) := by decide +kernel
theorem dX7_rankOn_124 : decode cX7_rankOn 124 = .ok (.iload 5, 2) := by decide +kernel
theorem dX7_rankOn_126 : decode cX7_rankOn 126 = .ok (.iconst (-1), 1) := by decide +kernel
theorem dX7_rankOn_127 : decode cX7_rankOn 127 = .ok (.if_icmp .ne 9, 3) := by decide +kernel
theorem dX7_rankOn_130 : decode cX7_rankOn 130 = .ok (.sipush 1000, 3) := by decide +kernel
theorem dX7_rankOn_133 : decode cX7_rankOn 133 = .ok (.goto 19, 3) := by decide +kernel
theorem dX7_rankOn_136 : decode cX7_rankOn 136 = .ok (.bipush 10, 2) := by decide +kernel
theorem dX7_rankOn_138 : decode cX7_rankOn 138 = .ok (.iload 5, 2) := by decide +kernel
theorem dX7_rankOn_140 : decode cX7_rankOn 140 = .ok (.imul, 1) := by decide +kernel
theorem dX7_rankOn_141 : decode cX7_rankOn 141 = .ok (.aload_n 1, 1) := by decide +kernel
theorem dX7_rankOn_142 : decode cX7_rankOn 142 = .ok (.bipush 9, 2) := by decide +kernel
theorem dX7_rankOn_144 : decode cX7_rankOn 144 = .ok (.iload 4, 2) := by decide +kernel
theorem dX7_rankOn_146 : decode cX7_rankOn 146 = .ok (.iadd, 1) := by decide +kernel
theorem dX7_rankOn_147 : decode cX7_rankOn 147 = .ok (.iaload, 1) := by decide +kernel
theorem dX7_rankOn_148 : decode cX7_rankOn 148 = .ok (.bipush 10, 2) := by decide +kernel
theorem dX7_rankOn_150 : decode cX7_rankOn 150 = .ok (.idiv, 1) := by decide +kernel
theorem dX7_rankOn_151 : decode cX7_rankOn 151 = .ok (.isub, 1) := by decide +kernel
theorem dX7_rankOn_152 : decode cX7_rankOn 152 = .ok (.ireturn, 1) := by decide +kernel
theorem dX7_rankOn_153 : decode cX7_rankOn 153 = .ok (.iload 5, 2) := by decide +kernel
theorem dX7_rankOn_155 : decode cX7_rankOn 155 = .ok (.iconst (-1), 1) := by decide +kernel
theorem dX7_rankOn_156 : decode cX7_rankOn 156 = .ok (.if_icmp .ne 9, 3) := by decide +kernel
theorem dX7_rankOn_159 : decode cX7_rankOn 159 = .ok (.sipush 1000, 3) := by decide +kernel
theorem dX7_rankOn_162 : decode cX7_rankOn 162 = .ok (.goto 5, 3) := by decide +kernel
theorem dX7_rankOn_165 : decode cX7_rankOn 165 = .ok (.iload 5, 2) := by decide +kernel
theorem dX7_rankOn_167 : decode cX7_rankOn 167 = .ok (.ireturn, 1) := by decide +kernel
theorem dX7_rankOn_168 : decode cX7_rankOn 168 = .ok (.iload 5, 2) := by decide +kernel
theorem dX7_rankOn_170 : decode cX7_rankOn 170 = .ok (.iconst (-1), 1) := by decide +kernel
theorem dX7_rankOn_171 : decode cX7_rankOn 171 = .ok (.if_icmp .eq 39, 3) := by decide +kernel
theorem dX7_rankOn_174 : decode cX7_rankOn 174 = .ok (.aload_n 1, 1) := by decide +kernel
theorem dX7_rankOn_175 : decode cX7_rankOn 175 = .ok (.iconst 4, 1) := by decide +kernel
theorem dX7_rankOn_176 : decode cX7_rankOn 176 = .ok (.iload 4, 2) := by decide +kernel
theorem dX7_rankOn_178 : decode cX7_rankOn 178 = .ok (.iadd, 1) := by decide +kernel
theorem dX7_rankOn_179 : decode cX7_rankOn 179 = .ok (.iaload, 1) := by decide +kernel
theorem dX7_rankOn_180 : decode cX7_rankOn 180 = .ok (.iload 7, 2) := by decide +kernel
theorem dX7_rankOn_182 : decode cX7_rankOn 182 = .ok (.invokestatic 185, 3) := by decide +kernel
theorem dX7_rankOn_185 : decode cX7_rankOn 185 = .ok (.isub, 1) := by decide +kernel
theorem dX7_rankOn_186 : decode cX7_rankOn 186 = .ok (.iload 6, 2) := by decide +kernel
theorem dX7_rankOn_188 : decode cX7_rankOn 188 = .ok (.invokestatic 185, 3) := by decide +kernel
theorem dX7_rankOn_191 : decode cX7_rankOn 191 = .ok (.if_icmp .lt 19, 3) := by decide +kernel
theorem dX7_rankOn_194 : decode cX7_rankOn 194 = .ok (.iload_n 2, 1) := by decide +kernel
theorem dX7_rankOn_195 : decode cX7_rankOn 195 = .ok (.iconst 3, 1) := by decide +kernel
theorem dX7_rankOn_196 : decode cX7_rankOn 196 = .ok (.if_icmp .ne 18, 3) := by decide +kernel
theorem dX7_rankOn_199 : decode cX7_rankOn 199 = .ok (.aload_n 1, 1) := by decide +kernel
theorem dX7_rankOn_200 : decode cX7_rankOn 200 = .ok (.iload 6, 2) := by decide +kernel
theorem dX7_rankOn_202 : decode cX7_rankOn 202 = .ok (.iload 7, 2) := by decide +kernel
theorem dX7_rankOn_204 : decode cX7_rankOn 204 = .ok (.invokestatic 188, 3) := by decide +kernel
theorem dX7_rankOn_207 : decode cX7_rankOn 207 = .ok (.ifCond .eq 7, 3) := by decide +kernel
theorem dX7_rankOn_210 : decode cX7_rankOn 210 = .ok (.iconst 1, 1) := by decide +kernel
theorem dX7_rankOn_211 : decode cX7_rankOn 211 = .ok (.goto 4, 3) := by decide +kernel
theorem dX7_rankOn_214 : decode cX7_rankOn 214 = .ok (.iconst 0, 1) := by decide +kernel
theorem dX7_rankOn_215 : decode cX7_rankOn 215 = .ok (.istore 8, 2) := by decide +kernel
theorem dX7_rankOn_217 : decode cX7_rankOn 217 = .ok (.iload 8, 2) := by decide +kernel
theorem dX7_rankOn_219 : decode cX7_rankOn 219 = .ok (.ifCond .eq 9, 3) := by decide +kernel
theorem dX7_rankOn_222 : decode cX7_rankOn 222 = .ok (.sipush 1000, 3) := by decide +kernel
theorem dX7_rankOn_225 : decode cX7_rankOn 225 = .ok (.goto 5, 3) := by decide +kernel
theorem dX7_rankOn_228 : decode cX7_rankOn 228 = .ok (.iload 5, 2) := by decide +kernel
theorem dX7_rankOn_230 : decode cX7_rankOn 230 = .ok (.ireturn, 1) := by decide +kernel
theorem dX7_heirOn_0 : decode cX7_heirOn 0 = .ok (.iconst (-1), 1) := by decide +kernel
theorem dX7_heirOn_1 : decode cX7_heirOn 1 = .ok (.istore 4, 2) := by decide +kernel
theorem dX7_heirOn_3 : decode cX7_heirOn 3 = .ok (.sipush 1000, 3) := by decide +kernel
theorem dX7_heirOn_6 : decode cX7_heirOn 6 = .ok (.istore 5, 2) := by decide +kernel
theorem dX7_heirOn_8 : decode cX7_heirOn 8 = .ok (.iconst 0, 1) := by decide +kernel
theorem dX7_heirOn_9 : decode cX7_heirOn 9 = .ok (.istore 6, 2) := by decide +kernel
theorem dX7_heirOn_11 : decode cX7_heirOn 11 = .ok (.iload 6, 2) := by decide +kernel
theorem dX7_heirOn_13 : decode cX7_heirOn 13 = .ok (.aload_n 1, 1) := by decide +kernel
theorem dX7_heirOn_14 : decode cX7_heirOn 14 = .ok (.iconst 0, 1) := by decide +kernel
theorem dX7_heirOn_15 : decode cX7_heirOn 15 = .ok (.iaload, 1) := by decide +kernel
theorem dX7_heirOn_16 : decode cX7_heirOn 16 = .ok (.if_icmp .ge 64, 3) := by decide +kernel
theorem dX7_heirOn_19 : decode cX7_heirOn 19 = .ok (.iload 6, 2) := by decide +kernel
theorem dX7_heirOn_21 : decode cX7_heirOn 21 = .ok (.iload_n 3, 1) := by decide +kernel
theorem dX7_heirOn_22 : decode cX7_heirOn 22 = .ok (.if_icmp .ne 9, 3) := by decide +kernel
theorem dX7_heirOn_25 : decode cX7_heirOn 25 = .ok (.sipush 1000, 3) := by decide +kernel
theorem dX7_heirOn_28 : decode cX7_heirOn 28 = .ok (.goto 12, 3) := by decide +kernel
theorem dX7_heirOn_31 : decode cX7_heirOn 31 = .ok (.aload_n 0, 1) := by decide +kernel
theorem dX7_heirOn_32 : decode cX7_heirOn 32 = .ok (.aload_n 1, 1) := by decide +kernel
theorem dX7_heirOn_33 : decode cX7_heirOn 33 = .ok (.iload_n 2, 1) := by decide +kernel
theorem dX7_heirOn_34 : decode cX7_heirOn 34 = .ok (.iload_n 3, 1) := by decide +kernel
theorem dX7_heirOn_35 : decode cX7_heirOn 35 = .ok (.iload 6, 2) := by decide +kernel
theorem dX7_heirOn_37 : decode cX7_heirOn 37 = .ok (.invokevirtual 191, 3) := by decide +kernel
theorem dX7_heirOn_40 : decode cX7_heirOn 40 = .ok (.istore 7, 2) := by decide +kernel
theorem dX7_heirOn_42 : decode cX7_heirOn 42 = .ok (.iload 7, 2) := by decide +kernel
theorem dX7_heirOn_44 : decode cX7_heirOn 44 = .ok (.iload 5, 2) := by decide +kernel
theorem dX7_heirOn_46 : decode cX7_heirOn 46 = .ok (.if_icmp .ge 8, 3) := by decide +kernel
theorem dX7_heirOn_49 : decode cX7_heirOn 49 = .ok (.iload 6, 2) := by decide +kernel
theorem dX7_heirOn_51 : decode cX7_heirOn 51 = .ok (.goto 5, 3) := by decide +kernel
theorem dX7_heirOn_54 : decode cX7_heirOn 54 = .ok (.iload 4, 2) := by decide +kernel
theorem dX7_heirOn_56 : decode cX7_heirOn 56 = .ok (.istore 4, 2) := by decide +kernel
theorem dX7_heirOn_58 : decode cX7_heirOn 58 = .ok (.iload 7, 2) := by decide +kernel
theorem dX7_heirOn_60 : decode cX7_heirOn 60 = .ok (.iload 5, 2) := by decide +kernel
theorem dX7_heirOn_62 : decode cX7_heirOn 62 = .ok (.if_icmp .ge 8, 3) := by decide +kernel
theorem dX7_heirOn_65 : decode cX7_heirOn 65 = .ok (.iload 7, 2) := by decide +kernel
theorem dX7_heirOn_67 : decode cX7_heirOn 67 = .ok (.goto 5, 3) := by decide +kernel
theorem dX7_heirOn_70 : decode cX7_heirOn 70 = .ok (.iload 5, 2) := by decide +kernel
theorem dX7_heirOn_72 : decode cX7_heirOn 72 = .ok (.istore 5, 2) := by decide +kernel
theorem dX7_heirOn_74 : decode cX7_heirOn 74 = .ok (.iinc 6 1, 3) := by decide +kernel
theorem dX7_heirOn_77 : decode cX7_heirOn 77 = .ok (.goto (-66), 3) := by decide +kernel
theorem dX7_heirOn_80 : decode cX7_heirOn 80 = .ok (.iload 4, 2) := by decide +kernel
theorem dX7_heirOn_82 : decode cX7_heirOn 82 = .ok (.ireturn, 1) := by decide +kernel
theorem dX7_falls_0 : decode cX7_falls 0 = .ok (.aload_n 0, 1) := by decide +kernel
theorem dX7_falls_1 : decode cX7_falls 1 = .ok (.aload_n 1, 1) := by decide +kernel
theorem dX7_falls_2 : decode cX7_falls 2 = .ok (.aload_n 1, 1) := by decide +kernel
theorem dX7_falls_3 : decode cX7_falls 3 = .ok (.bipush 24, 2) := by decide +kernel
theorem dX7_falls_5 : decode cX7_falls 5 = .ok (.iload_n 2, 1) := by decide +kernel
theorem dX7_falls_6 : decode cX7_falls 6 = .ok (.iadd, 1) := by decide +kernel
theorem dX7_falls_7 : decode cX7_falls 7 = .ok (.iaload, 1) := by decide +kernel
theorem dX7_falls_8 : decode cX7_falls 8 = .ok (.iload_n 2, 1) := by decide +kernel
theorem dX7_falls_9 : decode cX7_falls 9 = .ok (.invokevirtual 195, 3) := by decide +kernel
theorem dX7_falls_12 : decode cX7_falls 12 = .ok (.istore_n 3, 1) := by decide +kernel
theorem dX7_falls_13 : decode cX7_falls 13 = .ok (.iconst 0, 1) := by decide +kernel
theorem dX7_falls_14 : decode cX7_falls 14 = .ok (.istore 4, 2) := by decide +kernel
theorem dX7_falls_16 : decode cX7_falls 16 = .ok (.iload 4, 2) := by decide +kernel
theorem dX7_falls_18 : decode cX7_falls 18 = .ok (.aload_n 1, 1) := by decide +kernel
theorem dX7_falls_19 : decode cX7_falls 19 = .ok (.iconst 1, 1) := by decide +kernel
theorem dX7_falls_20 : decode cX7_falls 20 = .ok (.iaload, 1) := by decide +kernel
theorem dX7_falls_21 : decode cX7_falls 21 = .ok (.if_icmp .ge 38, 3) := by decide +kernel
theorem dX7_falls_24 : decode cX7_falls 24 = .ok (.aload_n 1, 1) := by decide +kernel
theorem dX7_falls_25 : decode cX7_falls 25 = .ok (.bipush 70, 2) := by decide +kernel
theorem dX7_falls_27 : decode cX7_falls 27 = .ok (.iload 4, 2) := by decide +kernel
theorem dX7_falls_29 : decode cX7_falls 29 = .ok (.iadd, 1) := by decide +kernel
theorem dX7_falls_30 : decode cX7_falls 30 = .ok (.aload_n 1, 1) := by decide +kernel
theorem dX7_falls_31 : decode cX7_falls 31 = .ok (.bipush 70, 2) := by decide +kernel
theorem dX7_falls_33 : decode cX7_falls 33 = .ok (.iload 4, 2) := by decide +kernel
theorem dX7_falls_35 : decode cX7_falls 35 = .ok (.iadd, 1) := by decide +kernel
theorem dX7_falls_36 : decode cX7_falls 36 = .ok (.iaload, 1) := by decide +kernel
theorem dX7_falls_37 : decode cX7_falls 37 = .ok (.iload_n 2, 1) := by decide +kernel
theorem dX7_falls_38 : decode cX7_falls 38 = .ok (.if_icmp .ne 7, 3) := by decide +kernel
theorem dX7_falls_41 : decode cX7_falls 41 = .ok (.iload_n 3, 1) := by decide +kernel
theorem dX7_falls_42 : decode cX7_falls 42 = .ok (.goto 10, 3) := by decide +kernel
theorem dX7_falls_45 : decode cX7_falls 45 = .ok (.aload_n 1, 1) := by decide +kernel
theorem dX7_falls_46 : decode cX7_falls 46 = .ok (.bipush 70, 2) := by decide +kernel
theorem dX7_falls_48 : decode cX7_falls 48 = .ok (.iload 4, 2) := by decide +kernel
theorem dX7_falls_50 : decode cX7_falls 50 = .ok (.iadd, 1) := by decide +kernel
theorem dX7_falls_51 : decode cX7_falls 51 = .ok (.iaload, 1) := by decide +kernel
theorem dX7_falls_52 : decode cX7_falls 52 = .ok (.iastore, 1) := by decide +kernel
theorem dX7_falls_53 : decode cX7_falls 53 = .ok (.iinc 4 1, 3) := by decide +kernel
theorem dX7_falls_56 : decode cX7_falls 56 = .ok (.goto (-40), 3) := by decide +kernel
theorem dX7_falls_59 : decode cX7_falls 59 = .ok (.aload_n 1, 1) := by decide +kernel
theorem dX7_falls_60 : decode cX7_falls 60 = .ok (.bipush 29, 2) := by decide +kernel
theorem dX7_falls_62 : decode cX7_falls 62 = .ok (.iload_n 2, 1) := by decide +kernel
theorem dX7_falls_63 : decode cX7_falls 63 = .ok (.iadd, 1) := by decide +kernel
theorem dX7_falls_64 : decode cX7_falls 64 = .ok (.iconst 0, 1) := by decide +kernel
theorem dX7_falls_65 : decode cX7_falls 65 = .ok (.iastore, 1) := by decide +kernel
theorem dX7_falls_66 : decode cX7_falls 66 = .ok (.iload_n 3, 1) := by decide +kernel
theorem dX7_falls_67 : decode cX7_falls 67 = .ok (.ireturn, 1) := by decide +kernel
theorem dX7_isOverfull_0 : decode cX7_isOverfull 0 = .ok (.aload_n 0, 1) := by decide +kernel
theorem dX7_isOverfull_1 : decode cX7_isOverfull 1 = .ok (.iload_n 1, 1) := by decide +kernel
theorem dX7_isOverfull_2 : decode cX7_isOverfull 2 = .ok (.invokestatic 181, 3) := by decide +kernel
theorem dX7_isOverfull_5 : decode cX7_isOverfull 5 = .ok (.invokestatic 185, 3) := by decide +kernel
theorem dX7_isOverfull_8 : decode cX7_isOverfull 8 = .ok (.aload_n 0, 1) := by decide +kernel
theorem dX7_isOverfull_9 : decode cX7_isOverfull 9 = .ok (.iconst 4, 1) := by decide +kernel
theorem dX7_isOverfull_10 : decode cX7_isOverfull 10 = .ok (.iload_n 1, 1) := by decide +kernel
theorem dX7_isOverfull_11 : decode cX7_isOverfull 11 = .ok (.iadd, 1) := by decide +kernel
theorem dX7_isOverfull_12 : decode cX7_isOverfull 12 = .ok (.iaload, 1) := by decide +kernel
theorem dX7_isOverfull_13 : decode cX7_isOverfull 13 = .ok (.if_icmp .le 7, 3) := by decide +kernel
theorem dX7_isOverfull_16 : decode cX7_isOverfull 16 = .ok (.iconst 1, 1) := by decide +kernel
theorem dX7_isOverfull_17 : decode cX7_isOverfull 17 = .ok (.goto 4, 3) := by decide +kernel
theorem dX7_isOverfull_20 : decode cX7_isOverfull 20 = .ok (.iconst 0, 1) := by decide +kernel
theorem dX7_isOverfull_21 : decode cX7_isOverfull 21 = .ok (.ireturn, 1) := by decide +kernel
theorem dX7_yearGoes_0 : decode cX7_yearGoes 0 = .ok (.iconst 0, 1) := by decide +kernel
theorem dX7_yearGoes_1 : decode cX7_yearGoes 1 = .ok (.istore_n 2, 1) := by decide +kernel
theorem dX7_yearGoes_2 : decode cX7_yearGoes 2 = .ok (.iload_n 2, 1) := by decide +kernel
theorem dX7_yearGoes_3 : decode cX7_yearGoes 3 = .ok (.aload_n 1, 1) := by decide +kernel
theorem dX7_yearGoes_4 : decode cX7_yearGoes 4 = .ok (.iconst 0, 1) := by decide +kernel
theorem dX7_yearGoes_5 : decode cX7_yearGoes 5 = .ok (.iaload, 1) := by decide +kernel
theorem dX7_yearGoes_6 : decode cX7_yearGoes 6 = .ok (.if_icmp .ge 44, 3) := by decide +kernel
theorem dX7_yearGoes_9 : decode cX7_yearGoes 9 = .ok (.aload_n 1, 1) := by decide +kernel
theorem dX7_yearGoes_10 : decode cX7_yearGoes 10 = .ok (.bipush 14, 2) := by decide +kernel
theorem dX7_yearGoes_12 : decode cX7_yearGoes 12 = .ok (.iload_n 2, 1) := by decide +kernel
theorem dX7_yearGoes_13 : decode cX7_yearGoes 13 = .ok (.iadd, 1) := by decide +kernel
theorem dX7_yearGoes_14 : decode cX7_yearGoes 14 = .ok (.dup2, 1) := by decide +kernel
theorem dX7_yearGoes_15 : decode cX7_yearGoes 15 = .ok (.iaload, 1) := by decide +kernel
theorem dX7_yearGoes_16 : decode cX7_yearGoes 16 = .ok (.aload_n 1, 1) := by decide +kernel
theorem dX7_yearGoes_17 : decode cX7_yearGoes 17 = .ok (.bipush 29, 2) := by decide +kernel
theorem dX7_yearGoes_19 : decode cX7_yearGoes 19 = .ok (.iload_n 2, 1) := by decide +kernel
theorem dX7_yearGoes_20 : decode cX7_yearGoes 20 = .ok (.iadd, 1) := by decide +kernel
theorem dX7_yearGoes_21 : decode cX7_yearGoes 21 = .ok (.iaload, 1) := by decide +kernel
theorem dX7_yearGoes_22 : decode cX7_yearGoes 22 = .ok (.ifCond .ne 7, 3) := by decide +kernel
theorem dX7_yearGoes_25 : decode cX7_yearGoes 25 = .ok (.iconst 0, 1) := by decide +kernel
theorem dX7_yearGoes_26 : decode cX7_yearGoes 26 = .ok (.goto 16, 3) := by decide +kernel
theorem dX7_yearGoes_29 : decode cX7_yearGoes 29 = .ok (.aload_n 1, 1) := by decide +kernel
theorem dX7_yearGoes_30 : decode cX7_yearGoes 30 = .ok (.iload_n 2, 1) := by decide +kernel
theorem dX7_yearGoes_31 : decode cX7_yearGoes 31 = .ok (.invokestatic 198, 3) := by decide +kernel
theorem dX7_yearGoes_34 : decode cX7_yearGoes 34 = .ok (.ifCond .eq 7, 3) := by decide +kernel
theorem dX7_yearGoes_37 : decode cX7_yearGoes 37 = .ok (.iconst 2, 1) := by decide +kernel
theorem dX7_yearGoes_38 : decode cX7_yearGoes 38 = .ok (.goto 4, 3) := by decide +kernel
theorem dX7_yearGoes_41 : decode cX7_yearGoes 41 = .ok (.iconst 1, 1) := by decide +kernel
theorem dX7_yearGoes_42 : decode cX7_yearGoes 42 = .ok (.iadd, 1) := by decide +kernel
theorem dX7_yearGoes_43 : decode cX7_yearGoes 43 = .ok (.iastore, 1) := by decide +kernel
theorem dX7_yearGoes_44 : decode cX7_yearGoes 44 = .ok (.iinc 2 1, 3) := by decide +kernel
theorem dX7_yearGoes_47 : decode cX7_yearGoes 47 = .ok (.goto (-45), 3) := by decide +kernel
theorem dX7_yearGoes_50 : decode cX7_yearGoes 50 = .ok (.iconst 0, 1) := by decide +kernel
theorem dX7_yearGoes_51 : decode cX7_yearGoes 51 = .ok (.istore_n 2, 1) := by decide +kernel
theorem dX7_yearGoes_52 : decode cX7_yearGoes 52 = .ok (.iload_n 2, 1) := by decide +kernel
theorem dX7_yearGoes_53 : decode cX7_yearGoes 53 = .ok (.aload_n 1, 1) := by decide +kernel
theorem dX7_yearGoes_54 : decode cX7_yearGoes 54 = .ok (.iconst 0, 1) := by decide +kernel
theorem dX7_yearGoes_55 : decode cX7_yearGoes 55 = .ok (.iaload, 1) := by decide +kernel
theorem dX7_yearGoes_56 : decode cX7_yearGoes 56 = .ok (.if_icmp .ge 37, 3) := by decide +kernel
theorem dX7_yearGoes_59 : decode cX7_yearGoes 59 = .ok (.aload_n 1, 1) := by decide +kernel
theorem dX7_yearGoes_60 : decode cX7_yearGoes 60 = .ok (.bipush 29, 2) := by decide +kernel
theorem dX7_yearGoes_62 : decode cX7_yearGoes 62 = .ok (.iload_n 2, 1) := by decide +kernel
theorem dX7_yearGoes_63 : decode cX7_yearGoes 63 = .ok (.iadd, 1) := by decide +kernel
theorem dX7_yearGoes_64 : decode cX7_yearGoes 64 = .ok (.iaload, 1) := by decide +kernel
theorem dX7_yearGoes_65 : decode cX7_yearGoes 65 = .ok (.iconst 1, 1) := by decide +kernel
theorem dX7_yearGoes_66 : decode cX7_yearGoes 66 = .ok (.if_icmp .ne 21, 3) := by decide +kernel
theorem dX7_yearGoes_69 : decode cX7_yearGoes 69 = .ok (.aload_n 1, 1) := by decide +kernel
theorem dX7_yearGoes_70 : decode cX7_yearGoes 70 = .ok (.bipush 14, 2) := by decide +kernel
theorem dX7_yearGoes_72 : decode cX7_yearGoes 72 = .ok (.iload_n 2, 1) := by decide +kernel
theorem dX7_yearGoes_73 : decode cX7_yearGoes 73 = .ok (.iadd, 1) := by decide +kernel
theorem dX7_yearGoes_74 : decode cX7_yearGoes 74 = .ok (.iaload, 1) := by decide +kernel
theorem dX7_yearGoes_75 : decode cX7_yearGoes 75 = .ok (.bipush 100, 2) := by decide +kernel
theorem dX7_yearGoes_77 : decode cX7_yearGoes 77 = .ok (.if_icmp .lt 10, 3) := by decide +kernel
theorem dX7_yearGoes_80 : decode cX7_yearGoes 80 = .ok (.aload_n 0, 1) := by decide +kernel
theorem dX7_yearGoes_81 : decode cX7_yearGoes 81 = .ok (.aload_n 1, 1) := by decide +kernel
theorem dX7_yearGoes_82 : decode cX7_yearGoes 82 = .ok (.iload_n 2, 1) := by decide +kernel
theorem dX7_yearGoes_83 : decode cX7_yearGoes 83 = .ok (.invokevirtual 202, 3) := by decide +kernel
theorem dX7_yearGoes_86 : decode cX7_yearGoes 86 = .ok (.pop, 1) := by decide +kernel
theorem dX7_yearGoes_87 : decode cX7_yearGoes 87 = .ok (.iinc 2 1, 3) := by decide +kernel
theorem dX7_yearGoes_90 : decode cX7_yearGoes 90 = .ok (.goto (-38), 3) := by decide +kernel
theorem dX7_yearGoes_93 : decode cX7_yearGoes 93 = .ok (.aload_n 1, 1) := by decide +kernel
theorem dX7_yearGoes_94 : decode cX7_yearGoes 94 = .ok (.iconst 2, 1) := by decide +kernel
theorem dX7_yearGoes_95 : decode cX7_yearGoes 95 = .ok (.dup2, 1) := by decide +kernel
theorem dX7_yearGoes_96 : decode cX7_yearGoes 96 = .ok (.iaload, 1) := by decide +kernel
theorem dX7_yearGoes_97 : decode cX7_yearGoes 97 = .ok (.iconst 1, 1) := by decide +kernel
theorem dX7_yearGoes_98 : decode cX7_yearGoes 98 = .ok (.iadd, 1) := by decide +kernel
theorem dX7_yearGoes_99 : decode cX7_yearGoes 99 = .ok (.iastore, 1) := by decide +kernel
theorem dX7_yearGoes_100 : decode cX7_yearGoes 100 = .ok (.return_, 1) := by decide +kernel
theorem dX7_standing_0 : decode cX7_standing 0 = .ok (.iconst 0, 1) := by decide +kernel
theorem dX7_standing_1 : decode cX7_standing 1 = .ok (.istore_n 1, 1) := by decide +kernel
theorem dX7_standing_2 : decode cX7_standing 2 = .ok (.iconst 0, 1) := by decide +kernel
theorem dX7_standing_3 : decode cX7_standing 3 = .ok (.istore_n 2, 1) := by decide +kernel
theorem dX7_standing_4 : decode cX7_standing 4 = .ok (.iload_n 2, 1) := by decide +kernel
theorem dX7_standing_5 : decode cX7_standing 5 = .ok (.aload_n 0, 1) := by decide +kernel
theorem dX7_standing_6 : decode cX7_standing 6 = .ok (.iconst 0, 1) := by decide +kernel
theorem dX7_standing_7 : decode cX7_standing 7 = .ok (.iaload, 1) := by decide +kernel
theorem dX7_standing_8 : decode cX7_standing 8 = .ok (.if_icmp .ge 20, 3) := by decide +kernel
theorem dX7_standing_11 : decode cX7_standing 11 = .ok (.iload_n 1, 1) := by decide +kernel
theorem dX7_standing_12 : decode cX7_standing 12 = .ok (.aload_n 0, 1) := by decide +kernel
theorem dX7_standing_13 : decode cX7_standing 13 = .ok (.bipush 29, 2) := by decide +kernel
theorem dX7_standing_15 : decode cX7_standing 15 = .ok (.iload_n 2, 1) := by decide +kernel
theorem dX7_standing_16 : decode cX7_standing 16 = .ok (.iadd, 1) := by decide +kernel
theorem dX7_standing_17 : decode cX7_standing 17 = .ok (.iaload, 1) := by decide +kernel
theorem dX7_standing_18 : decode cX7_standing 18 = .ok (.iload_n 2, 1) := by decide +kernel
theorem dX7_standing_19 : decode cX7_standing 19 = .ok (.ishl, 1) := by decide +kernel
theorem dX7_standing_20 : decode cX7_standing 20 = .ok (.ior, 1) := by decide +kernel
theorem dX7_standing_21 : decode cX7_standing 21 = .ok (.istore_n 1, 1) := by decide +kernel
theorem dX7_standing_22 : decode cX7_standing 22 = .ok (.iinc 2 1, 3) := by decide +kernel
theorem dX7_standing_25 : decode cX7_standing 25 = .ok (.goto (-21), 3) := by decide +kernel
theorem dX7_standing_28 : decode cX7_standing 28 = .ok (.iload_n 1, 1) := by decide +kernel
theorem dX7_standing_29 : decode cX7_standing 29 = .ok (.ireturn, 1) := by decide +kernel
theorem dX7_remember_0 : decode cX7_remember 0 = .ok (.aload_n 0, 1) := by decide +kernel
theorem dX7_remember_1 : decode cX7_remember 1 = .ok (.getfield 7, 3) := by decide +kernel
theorem dX7_remember_4 : decode cX7_remember 4 = .ok (.iconst 3, 1) := by decide +kernel
theorem dX7_remember_5 : decode cX7_remember 5 = .ok (.iaload, 1) := by decide +kernel
theorem dX7_remember_6 : decode cX7_remember 6 = .ok (.bipush 8, 2) := by decide +kernel
theorem dX7_remember_8 : decode cX7_remember 8 = .ok (.if_icmp .ne 48, 3) := by decide +kernel
theorem dX7_remember_11 : decode cX7_remember 11 = .ok (.iconst 0, 1) := by decide +kernel
theorem dX7_remember_12 : decode cX7_remember 12 = .ok (.istore_n 1, 1) := by decide +kernel
theorem dX7_remember_13 : decode cX7_remember 13 = .ok (.iload_n 1, 1) := by decide +kernel
theorem dX7_remember_14 : decode cX7_remember 14 = .ok (.bipush 119, 2) := by decide +kernel
theorem dX7_remember_16 : decode cX7_remember 16 = .ok (.if_icmp .ge 30, 3) := by decide +kernel
theorem dX7_remember_19 : decode cX7_remember 19 = .ok (.aload_n 0, 1) := by decide +kernel
theorem dX7_remember_20 : decode cX7_remember 20 = .ok (.getfield 7, 3) := by decide +kernel
theorem dX7_remember_23 : decode cX7_remember 23 = .ok (.bipush 92, 2) := by decide +kernel
theorem dX7_remember_25 : decode cX7_remember 25 = .ok (.iload_n 1, 1) := by decide +kernel
theorem dX7_remember_26 : decode cX7_remember 26 = .ok (.iadd, 1) := by decide +kernel
theorem dX7_remember_27 : decode cX7_remember 27 = .ok (.aload_n 0, 1) := by decide +kernel
theorem dX7_remember_28 : decode cX7_remember 28 = .ok (.getfield 7, 3) := by decide +kernel
theorem dX7_remember_31 : decode cX7_remember 31 = .ok (.bipush 92, 2) := by decide +kernel
theorem dX7_remember_33 : decode cX7_remember 33 = .ok (.iload_n 1, 1) := by decide +kernel
theorem dX7_remember_34 : decode cX7_remember 34 = .ok (.iadd, 1) := by decide +kernel
theorem dX7_remember_35 : decode cX7_remember 35 = .ok (.bipush 17, 2) := by decide +kernel
theorem dX7_remember_37 : decode cX7_remember 37 = .ok (.iadd, 1) := by decide +kernel
theorem dX7_remember_38 : decode cX7_remember 38 = .ok (.iaload, 1) := by decide +kernel
theorem dX7_remember_39 : decode cX7_remember 39 = .ok (.iastore, 1) := by decide +kernel
theorem dX7_remember_40 : decode cX7_remember 40 = .ok (.iinc 1 1, 3) := by decide +kernel
theorem dX7_remember_43 : decode cX7_remember 43 = .ok (.goto (-30), 3) := by decide +kernel
theorem dX7_remember_46 : decode cX7_remember 46 = .ok (.aload_n 0, 1) := by decide +kernel
theorem dX7_remember_47 : decode cX7_remember 47 = .ok (.getfield 7, 3) := by decide +kernel
theorem dX7_remember_50 : decode cX7_remember 50 = .ok (.iconst 3, 1) := by decide +kernel
theorem dX7_remember_51 : decode cX7_remember 51 = .ok (.dup2, 1) := by decide +kernel
theorem dX7_remember_52 : decode cX7_remember 52 = .ok (.iaload, 1) := by decide +kernel
theorem dX7_remember_53 : decode cX7_remember 53 = .ok (.iconst 1, 1) := by decide +kernel
theorem dX7_remember_54 : decode cX7_remember 54 = .ok (.isub, 1) := by decide +kernel
theorem dX7_remember_55 : decode cX7_remember 55 = .ok (.iastore, 1) := by decide +kernel
theorem dX7_remember_56 : decode cX7_remember 56 = .ok (.bipush 92, 2) := by decide +kernel
theorem dX7_remember_58 : decode cX7_remember 58 = .ok (.bipush 17, 2) := by decide +kernel
theorem dX7_remember_60 : decode cX7_remember 60 = .ok (.aload_n 0, 1) := by decide +kernel
theorem dX7_remember_61 : decode cX7_remember 61 = .ok (.getfield 7, 3) := by decide +kernel
theorem dX7_remember_64 : decode cX7_remember 64 = .ok (.iconst 3, 1) := by decide +kernel
theorem dX7_remember_65 : decode cX7_remember 65 = .ok (.iaload, 1) := by decide +kernel
theorem dX7_remember_66 : decode cX7_remember 66 = .ok (.imul, 1) := by decide +kernel
theorem dX7_remember_67 : decode cX7_remember 67 = .ok (.iadd, 1) := by decide +kernel
theorem dX7_remember_68 : decode cX7_remember 68 = .ok (.istore_n 1, 1) := by decide +kernel
theorem dX7_remember_69 : decode cX7_remember 69 = .ok (.aload_n 0, 1) := by decide +kernel
theorem dX7_remember_70 : decode cX7_remember 70 = .ok (.getfield 7, 3) := by decide +kernel
theorem dX7_remember_73 : decode cX7_remember 73 = .ok (.bipush 29, 2) := by decide +kernel
theorem dX7_remember_75 : decode cX7_remember 75 = .ok (.aload_n 0, 1) := by decide +kernel
theorem dX7_remember_76 : decode cX7_remember 76 = .ok (.getfield 7, 3) := by decide +kernel
theorem dX7_remember_79 : decode cX7_remember 79 = .ok (.iload_n 1, 1) := by decide +kernel
theorem dX7_remember_80 : decode cX7_remember 80 = .ok (.iconst 5, 1) := by decide +kernel
theorem dX7_remember_81 : decode cX7_remember 81 = .ok (.invokestatic 161, 3) := by decide +kernel
theorem dX7_remember_84 : decode cX7_remember 84 = .ok (.aload_n 0, 1) := by decide +kernel
theorem dX7_remember_85 : decode cX7_remember 85 = .ok (.getfield 7, 3) := by decide +kernel
theorem dX7_remember_88 : decode cX7_remember 88 = .ok (.bipush 14, 2) := by decide +kernel
theorem dX7_remember_90 : decode cX7_remember 90 = .ok (.aload_n 0, 1) := by decide +kernel
theorem dX7_remember_91 : decode cX7_remember 91 = .ok (.getfield 7, 3) := by decide +kernel
theorem dX7_remember_94 : decode cX7_remember 94 = .ok (.iload_n 1, 1) := by decide +kernel
theorem dX7_remember_95 : decode cX7_remember 95 = .ok (.iconst 5, 1) := by decide +kernel
theorem dX7_remember_96 : decode cX7_remember 96 = .ok (.iadd, 1) := by decide +kernel
theorem dX7_remember_97 : decode cX7_remember 97 = .ok (.iconst 5, 1) := by decide +kernel
theorem dX7_remember_98 : decode cX7_remember 98 = .ok (.invokestatic 161, 3) := by decide +kernel
theorem dX7_remember_101 : decode cX7_remember 101 = .ok (.aload_n 0, 1) := by decide +kernel
theorem dX7_remember_102 : decode cX7_remember 102 = .ok (.getfield 7, 3) := by decide +kernel
theorem dX7_remember_105 : decode cX7_remember 105 = .ok (.bipush 70, 2) := by decide +kernel
theorem dX7_remember_107 : decode cX7_remember 107 = .ok (.aload_n 0, 1) := by decide +kernel
theorem dX7_remember_108 : decode cX7_remember 108 = .ok (.getfield 7, 3) := by decide +kernel
theorem dX7_remember_111 : decode cX7_remember 111 = .ok (.iload_n 1, 1) := by decide +kernel
theorem dX7_remember_112 : decode cX7_remember 112 = .ok (.bipush 10, 2) := by decide +kernel
theorem dX7_remember_114 : decode cX7_remember 114 = .ok (.iadd, 1) := by decide +kernel
theorem dX7_remember_115 : decode cX7_remember 115 = .ok (.bipush 6, 2) := by decide +kernel
theorem dX7_remember_117 : decode cX7_remember 117 = .ok (.invokestatic 161, 3) := by decide +kernel
theorem dX7_remember_120 : decode cX7_remember 120 = .ok (.aload_n 0, 1) := by decide +kernel
theorem dX7_remember_121 : decode cX7_remember 121 = .ok (.getfield 7, 3) := by decide +kernel
theorem dX7_remember_124 : decode cX7_remember 124 = .ok (.iload_n 1, 1) := by decide +kernel
theorem dX7_remember_125 : decode cX7_remember 125 = .ok (.bipush 16, 2) := by decide +kernel
theorem dX7_remember_127 : decode cX7_remember 127 = .ok (.iadd, 1) := by decide +kernel
theorem dX7_remember_128 : decode cX7_remember 128 = .ok (.aload_n 0, 1) := by decide +kernel
theorem dX7_remember_129 : decode cX7_remember 129 = .ok (.getfield 7, 3) := by decide +kernel
theorem dX7_remember_132 : decode cX7_remember 132 = .ok (.iconst 2, 1) := by decide +kernel
theorem dX7_remember_133 : decode cX7_remember 133 = .ok (.iaload, 1) := by decide +kernel
theorem dX7_remember_134 : decode cX7_remember 134 = .ok (.iastore, 1) := by decide +kernel
theorem dX7_remember_135 : decode cX7_remember 135 = .ok (.aload_n 0, 1) := by decide +kernel
theorem dX7_remember_136 : decode cX7_remember 136 = .ok (.getfield 7, 3) := by decide +kernel
theorem dX7_remember_139 : decode cX7_remember 139 = .ok (.iconst 3, 1) := by decide +kernel
theorem dX7_remember_140 : decode cX7_remember 140 = .ok (.dup2, 1) := by decide +kernel
theorem dX7_remember_141 : decode cX7_remember 141 = .ok (.iaload, 1) := by decide +kernel
theorem dX7_remember_142 : decode cX7_remember 142 = .ok (.iconst 1, 1) := by decide +kernel
theorem dX7_remember_143 : decode cX7_remember 143 = .ok (.iadd, 1) := by decide +kernel
theorem dX7_remember_144 : decode cX7_remember 144 = .ok (.iastore, 1) := by decide +kernel
theorem dX7_remember_145 : decode cX7_remember 145 = .ok (.return_, 1) := by decide +kernel
theorem dX7_fall_0 : decode cX7_fall 0 = .ok (.aload_n 0, 1) := by decide +kernel
theorem dX7_fall_1 : decode cX7_fall 1 = .ok (.iload_n 1, 1) := by decide +kernel
theorem dX7_fall_2 : decode cX7_fall 2 = .ok (.invokevirtual 61, 3) := by decide +kernel
theorem dX7_fall_5 : decode cX7_fall 5 = .ok (.ifCond .ne 10, 3) := by decide +kernel
theorem dX7_fall_8 : decode cX7_fall 8 = .ok (.aload_n 0, 1) := by decide +kernel
theorem dX7_fall_9 : decode cX7_fall 9 = .ok (.bipush (-10), 2) := by decide +kernel
theorem dX7_fall_11 : decode cX7_fall 11 = .ok (.invokevirtual 99, 3) := by decide +kernel
theorem dX7_fall_14 : decode cX7_fall 14 = .ok (.ireturn, 1) := by decide +kernel
theorem dX7_fall_15 : decode cX7_fall 15 = .ok (.aload_n 0, 1) := by decide +kernel
theorem dX7_fall_16 : decode cX7_fall 16 = .ok (.getfield 7, 3) := by decide +kernel
theorem dX7_fall_19 : decode cX7_fall 19 = .ok (.bipush 29, 2) := by decide +kernel
theorem dX7_fall_21 : decode cX7_fall 21 = .ok (.iload_n 1, 1) := by decide +kernel
theorem dX7_fall_22 : decode cX7_fall 22 = .ok (.iadd, 1) := by decide +kernel
theorem dX7_fall_23 : decode cX7_fall 23 = .ok (.iaload, 1) := by decide +kernel
theorem dX7_fall_24 : decode cX7_fall 24 = .ok (.ifCond .ne 10, 3) := by decide +kernel
theorem dX7_fall_27 : decode cX7_fall 27 = .ok (.aload_n 0, 1) := by decide +kernel
theorem dX7_fall_28 : decode cX7_fall 28 = .ok (.bipush (-20), 2) := by decide +kernel
theorem dX7_fall_30 : decode cX7_fall 30 = .ok (.invokevirtual 205, 3) := by decide +kernel
theorem dX7_fall_33 : decode cX7_fall 33 = .ok (.ireturn, 1) := by decide +kernel
theorem dX7_fall_34 : decode cX7_fall 34 = .ok (.aload_n 0, 1) := by decide +kernel
theorem dX7_fall_35 : decode cX7_fall 35 = .ok (.invokevirtual 208, 3) := by decide +kernel
theorem dX7_fall_38 : decode cX7_fall 38 = .ok (.aload_n 0, 1) := by decide +kernel
theorem dX7_fall_39 : decode cX7_fall 39 = .ok (.aload_n 0, 1) := by decide +kernel
theorem dX7_fall_40 : decode cX7_fall 40 = .ok (.getfield 7, 3) := by decide +kernel
theorem dX7_fall_43 : decode cX7_fall 43 = .ok (.iload_n 1, 1) := by decide +kernel
theorem dX7_fall_44 : decode cX7_fall 44 = .ok (.invokevirtual 202, 3) := by decide +kernel
theorem dX7_fall_47 : decode cX7_fall 47 = .ok (.ireturn, 1) := by decide +kernel
theorem dX7_year_0 : decode cX7_year 0 = .ok (.iload_n 1, 1) := by decide +kernel
theorem dX7_year_1 : decode cX7_year 1 = .ok (.i2l, 1) := by decide +kernel
theorem dX7_year_2 : decode cX7_year 2 = .ok (.lconst 1, 1) := by decide +kernel
theorem dX7_year_3 : decode cX7_year 3 = .ok (.ldc2_w 211, 3) := by decide +kernel
theorem dX7_year_6 : decode cX7_year 6 = .ok (.invokestatic 51, 3) := by decide +kernel
theorem dX7_year_9 : decode cX7_year 9 = .ok (.ifCond .ne 10, 3) := by decide +kernel
theorem dX7_year_12 : decode cX7_year 12 = .ok (.aload_n 0, 1) := by decide +kernel
theorem dX7_year_13 : decode cX7_year 13 = .ok (.bipush (-2), 2) := by decide +kernel
theorem dX7_year_15 : decode cX7_year 15 = .ok (.invokevirtual 99, 3) := by decide +kernel
theorem dX7_year_18 : decode cX7_year 18 = .ok (.ireturn, 1) := by decide +kernel
theorem dX7_year_19 : decode cX7_year 19 = .ok (.iconst 0, 1) := by decide +kernel
theorem dX7_year_20 : decode cX7_year 20 = .ok (.istore_n 2, 1) := by decide +kernel
theorem dX7_year_21 : decode cX7_year 21 = .ok (.iload_n 2, 1) := by decide +kernel
theorem dX7_year_22 : decode cX7_year 22 = .ok (.iload_n 1, 1) := by decide +kernel
theorem dX7_year_23 : decode cX7_year 23 = .ok (.if_icmp .ge 21, 3) := by decide +kernel
theorem dX7_year_26 : decode cX7_year 26 = .ok (.aload_n 0, 1) := by decide +kernel
theorem dX7_year_27 : decode cX7_year 27 = .ok (.invokevirtual 208, 3) := by decide +kernel
theorem dX7_year_30 : decode cX7_year 30 = .ok (.aload_n 0, 1) := by decide +kernel
theorem dX7_year_31 : decode cX7_year 31 = .ok (.aload_n 0, 1) := by decide +kernel
theorem dX7_year_32 : decode cX7_year 32 = .ok (.getfield 7, 3) := by decide +kernel
theorem dX7_year_35 : decode cX7_year 35 = .ok (.invokevirtual 213, 3) := by decide +kernel
theorem dX7_year_38 : decode cX7_year 38 = .ok (.iinc 2 1, 3) := by decide +kernel
theorem dX7_year_41 : decode cX7_year 41 = .ok (.goto (-20), 3) := by decide +kernel
theorem dX7_year_44 : decode cX7_year 44 = .ok (.aload_n 0, 1) := by decide +kernel
theorem dX7_year_45 : decode cX7_year 45 = .ok (.getfield 7, 3) := by decide +kernel
theorem dX7_year_48 : decode cX7_year 48 = .ok (.invokestatic 217, 3) := by decide +kernel
theorem dX7_year_51 : decode cX7_year 51 = .ok (.invokestatic 185, 3) := by decide +kernel
theorem dX7_year_54 : decode cX7_year 54 = .ok (.ireturn, 1) := by decide +kernel
theorem dX7_move_0 : decode cX7_move 0 = .ok (.aload_n 0, 1) := by decide +kernel
theorem dX7_move_1 : decode cX7_move 1 = .ok (.iload_n 1, 1) := by decide +kernel
theorem dX7_move_2 : decode cX7_move 2 = .ok (.invokevirtual 221, 3) := by decide +kernel
theorem dX7_move_5 : decode cX7_move 5 = .ok (.ifCond .eq 16, 3) := by decide +kernel
theorem dX7_move_8 : decode cX7_move 8 = .ok (.iload_n 2, 1) := by decide +kernel
theorem dX7_move_9 : decode cX7_move 9 = .ok (.iconst (-1), 1) := by decide +kernel
theorem dX7_move_10 : decode cX7_move 10 = .ok (.if_icmp .eq 18, 3) := by decide +kernel
theorem dX7_move_13 : decode cX7_move 13 = .ok (.aload_n 0, 1) := by decide +kernel
theorem dX7_move_14 : decode cX7_move 14 = .ok (.iload_n 2, 1) := by decide +kernel
theorem dX7_move_15 : decode cX7_move 15 = .ok (.invokevirtual 61, 3) := by decide +kernel
theorem dX7_move_18 : decode cX7_move 18 = .ok (.ifCond .ne 10, 3) := by decide +kernel
theorem dX7_move_21 : decode cX7_move 21 = .ok (.aload_n 0, 1) := by decide +kernel
theorem dX7_move_22 : decode cX7_move 22 = .ok (.bipush (-10), 2) := by decide +kernel
theorem dX7_move_24 : decode cX7_move 24 = .ok (.invokevirtual 99, 3) := by decide +kernel
theorem dX7_move_27 : decode cX7_move 27 = .ok (.ireturn, 1) := by decide +kernel
theorem dX7_move_28 : decode cX7_move 28 = .ok (.iload_n 2, 1) := by decide +kernel
theorem dX7_move_29 : decode cX7_move 29 = .ok (.iconst (-1), 1) := by decide +kernel
theorem dX7_move_30 : decode cX7_move 30 = .ok (.if_icmp .eq 15, 3) := by decide +kernel
theorem dX7_move_33 : decode cX7_move 33 = .ok (.aload_n 0, 1) := by decide +kernel
theorem dX7_move_34 : decode cX7_move 34 = .ok (.getfield 7, 3) := by decide +kernel
theorem dX7_move_37 : decode cX7_move 37 = .ok (.bipush 29, 2) := by decide +kernel
theorem dX7_move_39 : decode cX7_move 39 = .ok (.iload_n 2, 1) := by decide +kernel
theorem dX7_move_40 : decode cX7_move 40 = .ok (.iadd, 1) := by decide +kernel
theorem dX7_move_41 : decode cX7_move 41 = .ok (.iaload, 1) := by decide +kernel
theorem dX7_move_42 : decode cX7_move 42 = .ok (.ifCond .eq 16, 3) := by decide +kernel
theorem dX7_move_45 : decode cX7_move 45 = .ok (.aload_n 0, 1) := by decide +kernel
theorem dX7_move_46 : decode cX7_move 46 = .ok (.getfield 7, 3) := by decide +kernel
theorem dX7_move_49 : decode cX7_move 49 = .ok (.bipush 70, 2) := by decide +kernel
theorem dX7_move_51 : decode cX7_move 51 = .ok (.iload_n 1, 1) := by decide +kernel
theorem dX7_move_52 : decode cX7_move 52 = .ok (.iadd, 1) := by decide +kernel
theorem dX7_move_53 : decode cX7_move 53 = .ok (.iaload, 1) := by decide +kernel
theorem dX7_move_54 : decode cX7_move 54 = .ok (.iload_n 2, 1) := by decide +kernel
theorem dX7_move_55 : decode cX7_move 55 = .ok (.if_icmp .ne 10, 3) := by decide +kernel
theorem dX7_move_58 : decode cX7_move 58 = .ok (.aload_n 0, 1) := by decide +kernel
theorem dX7_move_59 : decode cX7_move 59 = .ok (.bipush (-20), 2) := by decide +kernel
theorem dX7_move_61 : decode cX7_move 61 = .ok (.invokevirtual 205, 3) := by decide +kernel
theorem dX7_move_64 : decode cX7_move 64 = .ok (.ireturn, 1) := by decide +kernel
theorem dX7_move_65 : decode cX7_move 65 = .ok (.aload_n 0, 1) := by decide +kernel
theorem dX7_move_66 : decode cX7_move 66 = .ok (.invokevirtual 208, 3) := by decide +kernel
theorem dX7_move_69 : decode cX7_move 69 = .ok (.aload_n 0, 1) := by decide +kernel
theorem dX7_move_70 : decode cX7_move 70 = .ok (.getfield 7, 3) := by decide +kernel
theorem dX7_move_73 : decode cX7_move 73 = .ok (.bipush 70, 2) := by decide +kernel
theorem dX7_move_75 : decode cX7_move 75 = .ok (.iload_n 1, 1) := by decide +kernel
theorem dX7_move_76 : decode cX7_move 76 = .ok (.iadd, 1) := by decide +kernel
theorem dX7_move_77 : decode cX7_move 77 = .ok (.iaload, 1) := by decide +kernel
theorem dX7_move_78 : decode cX7_move 78 = .ok (.istore_n 3, 1) := by decide +kernel
theorem dX7_move_79 : decode cX7_move 79 = .ok (.aload_n 0, 1) := by decide +kernel
theorem dX7_move_80 : decode cX7_move 80 = .ok (.getfield 7, 3) := by decide +kernel
theorem dX7_move_83 : decode cX7_move 83 = .ok (.bipush 70, 2) := by decide +kernel
theorem dX7_move_85 : decode cX7_move 85 = .ok (.iload_n 1, 1) := by decide +kernel
theorem dX7_move_86 : decode cX7_move 86 = .ok (.iadd, 1) := by decide +kernel
theorem dX7_move_87 : decode cX7_move 87 = .ok (.iload_n 2, 1) := by decide +kernel
theorem dX7_move_88 : decode cX7_move 88 = .ok (.iastore, 1) := by decide +kernel
theorem dX7_move_89 : decode cX7_move 89 = .ok (.iload_n 3, 1) := by decide +kernel
theorem dX7_move_90 : decode cX7_move 90 = .ok (.ireturn, 1) := by decide +kernel
theorem dX7_undo_0 : decode cX7_undo 0 = .ok (.aload_n 0, 1) := by decide +kernel
theorem dX7_undo_1 : decode cX7_undo 1 = .ok (.getfield 7, 3) := by decide +kernel
theorem dX7_undo_4 : decode cX7_undo 4 = .ok (.iconst 3, 1) := by decide +kernel
theorem dX7_undo_5 : decode cX7_undo 5 = .ok (.iaload, 1) := by decide +kernel
theorem dX7_undo_6 : decode cX7_undo 6 = .ok (.ifCond .ne 10, 3) := by decide +kernel
theorem dX7_undo_9 : decode cX7_undo 9 = .ok (.aload_n 0, 1) := by decide +kernel
theorem dX7_undo_10 : decode cX7_undo 10 = .ok (.bipush (-3), 2) := by decide +kernel
theorem dX7_undo_12 : decode cX7_undo 12 = .ok (.invokevirtual 205, 3) := by decide +kernel
theorem dX7_undo_15 : decode cX7_undo 15 = .ok (.ireturn, 1) := by decide +kernel
theorem dX7_undo_16 : decode cX7_undo 16 = .ok (.aload_n 0, 1) := by decide +kernel
theorem dX7_undo_17 : decode cX7_undo 17 = .ok (.getfield 7, 3) := by decide +kernel
theorem dX7_undo_20 : decode cX7_undo 20 = .ok (.iconst 3, 1) := by decide +kernel
theorem dX7_undo_21 : decode cX7_undo 21 = .ok (.dup2, 1) := by decide +kernel
theorem dX7_undo_22 : decode cX7_undo 22 = .ok (.iaload, 1) := by decide +kernel
theorem dX7_undo_23 : decode cX7_undo 23 = .ok (.iconst 1, 1) := by decide +kernel
theorem dX7_undo_24 : decode cX7_undo 24 = .ok (.isub, 1) := by decide +kernel
theorem dX7_undo_25 : decode cX7_undo 25 = .ok (.iastore, 1) := by decide +kernel
theorem dX7_undo_26 : decode cX7_undo 26 = .ok (.bipush 92, 2) := by decide +kernel
theorem dX7_undo_28 : decode cX7_undo 28 = .ok (.bipush 17, 2) := by decide +kernel
theorem dX7_undo_30 : decode cX7_undo 30 = .ok (.aload_n 0, 1) := by decide +kernel
theorem dX7_undo_31 : decode cX7_undo 31 = .ok (.getfield 7, 3) := by decide +kernel
theorem dX7_undo_34 : decode cX7_undo 34 = .ok (.iconst 3, 1) := by decide +kernel
theorem dX7_undo_35 : decode cX7_undo 35 = .ok (.iaload, 1) := by decide +kernel
theorem dX7_undo_36 : decode cX7_undo 36 = .ok (.imul, 1) := by decide +kernel
theorem dX7_undo_37 : decode cX7_undo 37 = .ok (.iadd, 1) := by decide +kernel
theorem dX7_undo_38 : decode cX7_undo 38 = .ok (.istore_n 1, 1) := by decide +kernel
theorem dX7_undo_39 : decode cX7_undo 39 = .ok (.aload_n 0, 1) := by decide +kernel
theorem dX7_undo_40 : decode cX7_undo 40 = .ok (.getfield 7, 3) := by decide +kernel
theorem dX7_undo_43 : decode cX7_undo 43 = .ok (.iload_n 1, 1) := by decide +kernel
theorem dX7_undo_44 : decode cX7_undo 44 = .ok (.aload_n 0, 1) := by decide +kernel
theorem dX7_undo_45 : decode cX7_undo 45 = .ok (.getfield 7, 3) := by decide +kernel
theorem dX7_undo_48 : decode cX7_undo 48 = .ok (.bipush 29, 2) := by decide +kernel
theorem dX7_undo_50 : decode cX7_undo 50 = .ok (.iconst 5, 1) := by decide +kernel
theorem dX7_undo_51 : decode cX7_undo 51 = .ok (.invokestatic 161, 3) := by decide +kernel
theorem dX7_undo_54 : decode cX7_undo 54 = .ok (.aload_n 0, 1) := by decide +kernel
theorem dX7_undo_55 : decode cX7_undo 55 = .ok (.getfield 7, 3) := by decide +kernel
theorem dX7_undo_58 : decode cX7_undo 58 = .ok (.iload_n 1, 1) := by decide +kernel
theorem dX7_undo_59 : decode cX7_undo 59 = .ok (.iconst 5, 1) := by decide +kernel
theorem dX7_undo_60 : decode cX7_undo 60 = .ok (.iadd, 1) := by decide +kernel
theorem dX7_undo_61 : decode cX7_undo 61 = .ok (.aload_n 0, 1) := by decide +kernel
theorem dX7_undo_62 : decode cX7_undo 62 = .ok (.getfield 7, 3) := by decide +kernel
theorem dX7_undo_65 : decode cX7_undo 65 = .ok (.bipush 14, 2) := by decide +kernel
theorem dX7_undo_67 : decode cX7_undo 67 = .ok (.iconst 5, 1) := by decide +kernel
theorem dX7_undo_68 : decode cX7_undo 68 = .ok (.invokestatic 161, 3) := by decide +kernel
theorem dX7_undo_71 : decode cX7_undo 71 = .ok (.aload_n 0, 1) := by decide +kernel
theorem dX7_undo_72 : decode cX7_undo 72 = .ok (.getfield 7, 3) := by decide +kernel
theorem dX7_undo_75 : decode cX7_undo 75 = .ok (.iload_n 1, 1) := by decide +kernel
theorem dX7_undo_76 : decode cX7_undo 76 = .ok (.bipush 10, 2) := by decide +kernel
theorem dX7_undo_78 : decode cX7_undo 78 = .ok (.iadd, 1) := by decide +kernel
theorem dX7_undo_79 : decode cX7_undo 79 = .ok (.aload_n 0, 1) := by decide +kernel
theorem dX7_undo_80 : decode cX7_undo 80 = .ok (.getfield 7, 3) := by decide +kernel
theorem dX7_undo_83 : decode cX7_undo 83 = .ok (.bipush 70, 2) := by decide +kernel
theorem dX7_undo_85 : decode cX7_undo 85 = .ok (.bipush 6, 2) := by decide +kernel
theorem dX7_undo_87 : decode cX7_undo 87 = .ok (.invokestatic 161, 3) := by decide +kernel
theorem dX7_undo_90 : decode cX7_undo 90 = .ok (.aload_n 0, 1) := by decide +kernel
theorem dX7_undo_91 : decode cX7_undo 91 = .ok (.getfield 7, 3) := by decide +kernel
theorem dX7_undo_94 : decode cX7_undo 94 = .ok (.iconst 2, 1) := by decide +kernel
theorem dX7_undo_95 : decode cX7_undo 95 = .ok (.aload_n 0, 1) := by decide +kernel
theorem dX7_undo_96 : decode cX7_undo 96 = .ok (.getfield 7, 3) := by decide +kernel
theorem dX7_undo_99 : decode cX7_undo 99 = .ok (.iload_n 1, 1) := by decide +kernel
theorem dX7_undo_100 : decode cX7_undo 100 = .ok (.bipush 16, 2) := by decide +kernel
theorem dX7_undo_102 : decode cX7_undo 102 = .ok (.iadd, 1) := by decide +kernel
theorem dX7_undo_103 : decode cX7_undo 103 = .ok (.iaload, 1) := by decide +kernel
theorem dX7_undo_104 : decode cX7_undo 104 = .ok (.iastore, 1) := by decide +kernel
theorem dX7_undo_105 : decode cX7_undo 105 = .ok (.iconst 1, 1) := by decide +kernel
theorem dX7_undo_106 : decode cX7_undo 106 = .ok (.ireturn, 1) := by decide +kernel
theorem dX7_of_0 : decode cX7_of 0 = .ok (.aload_n 0, 1) := by decide +kernel
theorem dX7_of_1 : decode cX7_of 1 = .ok (.iload_n 1, 1) := by decide +kernel
theorem dX7_of_2 : decode cX7_of 2 = .ok (.invokevirtual 61, 3) := by decide +kernel
theorem dX7_of_5 : decode cX7_of 5 = .ok (.ifCond .eq 15, 3) := by decide +kernel
theorem dX7_of_8 : decode cX7_of 8 = .ok (.iload_n 2, 1) := by decide +kernel
theorem dX7_of_9 : decode cX7_of 9 = .ok (.i2l, 1) := by decide +kernel
theorem dX7_of_10 : decode cX7_of 10 = .ok (.lconst 0, 1) := by decide +kernel
theorem dX7_of_11 : decode cX7_of 11 = .ok (.ldc2_w 224, 3) := by decide +kernel
theorem dX7_of_14 : decode cX7_of 14 = .ok (.invokestatic 51, 3) := by decide +kernel
theorem dX7_of_17 : decode cX7_of 17 = .ok (.ifCond .ne 10, 3) := by decide +kernel
theorem dX7_of_20 : decode cX7_of 20 = .ok (.aload_n 0, 1) := by decide +kernel
theorem dX7_of_21 : decode cX7_of 21 = .ok (.bipush (-10), 2) := by decide +kernel
theorem dX7_of_23 : decode cX7_of 23 = .ok (.invokevirtual 99, 3) := by decide +kernel
theorem dX7_of_26 : decode cX7_of 26 = .ok (.ireturn, 1) := by decide +kernel
theorem dX7_of_27 : decode cX7_of 27 = .ok (.iload_n 2, 1) := by decide +kernel
theorem dX7_of_28 : decode cX7_of 28 = .ok (.bipush 6, 2) := by decide +kernel
theorem dX7_of_30 : decode cX7_of 30 = .ok (.if_icmp .ne 14, 3) := by decide +kernel
theorem dX7_of_33 : decode cX7_of 33 = .ok (.aload_n 0, 1) := by decide +kernel
theorem dX7_of_34 : decode cX7_of 34 = .ok (.getfield 7, 3) := by decide +kernel
theorem dX7_of_37 : decode cX7_of 37 = .ok (.iload_n 1, 1) := by decide +kernel
theorem dX7_of_38 : decode cX7_of 38 = .ok (.invokestatic 181, 3) := by decide +kernel
theorem dX7_of_41 : decode cX7_of 41 = .ok (.goto 26, 3) := by decide +kernel
theorem dX7_of_44 : decode cX7_of 44 = .ok (.aload_n 0, 1) := by decide +kernel
theorem dX7_of_45 : decode cX7_of 45 = .ok (.getfield 7, 3) := by decide +kernel
theorem dX7_of_48 : decode cX7_of 48 = .ok (.iconst 4, 1) := by decide +kernel
theorem dX7_of_49 : decode cX7_of 49 = .ok (.iconst 5, 1) := by decide +kernel
theorem dX7_of_50 : decode cX7_of 50 = .ok (.iload_n 2, 1) := by decide +kernel
theorem dX7_of_51 : decode cX7_of 51 = .ok (.bipush 7, 2) := by decide +kernel
theorem dX7_of_53 : decode cX7_of 53 = .ok (.if_icmp .ne 8, 3) := by decide +kernel
theorem dX7_of_56 : decode cX7_of 56 = .ok (.bipush 6, 2) := by decide +kernel
theorem dX7_of_58 : decode cX7_of 58 = .ok (.goto 4, 3) := by decide +kernel
theorem dX7_of_61 : decode cX7_of 61 = .ok (.iload_n 2, 1) := by decide +kernel
theorem dX7_of_62 : decode cX7_of 62 = .ok (.imul, 1) := by decide +kernel
theorem dX7_of_63 : decode cX7_of 63 = .ok (.iadd, 1) := by decide +kernel
theorem dX7_of_64 : decode cX7_of 64 = .ok (.iload_n 1, 1) := by decide +kernel
theorem dX7_of_65 : decode cX7_of 65 = .ok (.iadd, 1) := by decide +kernel
theorem dX7_of_66 : decode cX7_of 66 = .ok (.iaload, 1) := by decide +kernel
theorem dX7_of_67 : decode cX7_of 67 = .ok (.ireturn, 1) := by decide +kernel
theorem dX7_who_0 : decode cX7_who 0 = .ok (.aload_n 0, 1) := by decide +kernel
theorem dX7_who_1 : decode cX7_who 1 = .ok (.iload_n 1, 1) := by decide +kernel
theorem dX7_who_2 : decode cX7_who 2 = .ok (.invokevirtual 221, 3) := by decide +kernel
theorem dX7_who_5 : decode cX7_who 5 = .ok (.ifCond .eq 10, 3) := by decide +kernel
theorem dX7_who_8 : decode cX7_who 8 = .ok (.iload_n 2, 1) := by decide +kernel
theorem dX7_who_9 : decode cX7_who 9 = .ok (.invokestatic 226, 3) := by decide +kernel
theorem dX7_who_12 : decode cX7_who 12 = .ok (.ifCond .ne 10, 3) := by decide +kernel
theorem dX7_who_15 : decode cX7_who 15 = .ok (.aload_n 0, 1) := by decide +kernel
theorem dX7_who_16 : decode cX7_who 16 = .ok (.bipush (-10), 2) := by decide +kernel
theorem dX7_who_18 : decode cX7_who 18 = .ok (.invokevirtual 99, 3) := by decide +kernel
theorem dX7_who_21 : decode cX7_who 21 = .ok (.ireturn, 1) := by decide +kernel
theorem dX7_who_22 : decode cX7_who 22 = .ok (.aload_n 0, 1) := by decide +kernel
theorem dX7_who_23 : decode cX7_who 23 = .ok (.getfield 7, 3) := by decide +kernel
theorem dX7_who_26 : decode cX7_who 26 = .ok (.bipush 64, 2) := by decide +kernel
theorem dX7_who_28 : decode cX7_who 28 = .ok (.bipush 6, 2) := by decide +kernel
theorem dX7_who_30 : decode cX7_who 30 = .ok (.iload_n 2, 1) := by decide +kernel
theorem dX7_who_31 : decode cX7_who 31 = .ok (.imul, 1) := by decide +kernel
theorem dX7_who_32 : decode cX7_who 32 = .ok (.iadd, 1) := by decide +kernel
theorem dX7_who_33 : decode cX7_who 33 = .ok (.iload_n 1, 1) := by decide +kernel
theorem dX7_who_34 : decode cX7_who 34 = .ok (.iadd, 1) := by decide +kernel
theorem dX7_who_35 : decode cX7_who 35 = .ok (.iaload, 1) := by decide +kernel
theorem dX7_who_36 : decode cX7_who 36 = .ok (.ireturn, 1) := by decide +kernel
theorem dX7_degree_0 : decode cX7_degree 0 = .ok (.aload_n 0, 1) := by decide +kernel
theorem dX7_degree_1 : decode cX7_degree 1 = .ok (.iload_n 1, 1) := by decide +kernel
theorem dX7_degree_2 : decode cX7_degree 2 = .ok (.invokevirtual 61, 3) := by decide +kernel
theorem dX7_degree_5 : decode cX7_degree 5 = .ok (.ifCond .eq 24, 3) := by decide +kernel
theorem dX7_degree_8 : decode cX7_degree 8 = .ok (.aload_n 0, 1) := by decide +kernel
theorem dX7_degree_9 : decode cX7_degree 9 = .ok (.iload_n 2, 1) := by decide +kernel
theorem dX7_degree_10 : decode cX7_degree 10 = .ok (.invokevirtual 61, 3) := by decide +kernel
theorem dX7_degree_13 : decode cX7_degree 13 = .ok (.ifCond .eq 16, 3) := by decide +kernel
theorem dX7_degree_16 : decode cX7_degree 16 = .ok (.aload_n 0, 1) := by decide +kernel
theorem dX7_degree_17 : decode cX7_degree 17 = .ok (.aload_n 0, 1) := by decide +kernel
theorem dX7_degree_18 : decode cX7_degree 18 = .ok (.getfield 7, 3) := by decide +kernel
theorem dX7_degree_21 : decode cX7_degree 21 = .ok (.iload_n 1, 1) := by decide +kernel
theorem dX7_degree_22 : decode cX7_degree 22 = .ok (.iload_n 2, 1) := by decide +kernel
theorem dX7_degree_23 : decode cX7_degree 23 = .ok (.invokevirtual 177, 3) := by decide +kernel
theorem dX7_degree_26 : decode cX7_degree 26 = .ok (.goto 9, 3) := by decide +kernel
theorem dX7_degree_29 : decode cX7_degree 29 = .ok (.aload_n 0, 1) := by decide +kernel
theorem dX7_degree_30 : decode cX7_degree 30 = .ok (.bipush (-2), 2) := by decide +kernel
theorem dX7_degree_32 : decode cX7_degree 32 = .ok (.invokevirtual 99, 3) := by decide +kernel
theorem dX7_degree_35 : decode cX7_degree 35 = .ok (.ireturn, 1) := by decide +kernel
theorem dX7_rank_0 : decode cX7_rank 0 = .ok (.aload_n 0, 1) := by decide +kernel
theorem dX7_rank_1 : decode cX7_rank 1 = .ok (.iload_n 1, 1) := by decide +kernel
theorem dX7_rank_2 : decode cX7_rank 2 = .ok (.invokevirtual 61, 3) := by decide +kernel
theorem dX7_rank_5 : decode cX7_rank 5 = .ok (.ifCond .eq 16, 3) := by decide +kernel
theorem dX7_rank_8 : decode cX7_rank 8 = .ok (.aload_n 0, 1) := by decide +kernel
theorem dX7_rank_9 : decode cX7_rank 9 = .ok (.iload_n 2, 1) := by decide +kernel
theorem dX7_rank_10 : decode cX7_rank 10 = .ok (.invokevirtual 61, 3) := by decide +kernel
theorem dX7_rank_13 : decode cX7_rank 13 = .ok (.ifCond .eq 8, 3) := by decide +kernel
theorem dX7_rank_16 : decode cX7_rank 16 = .ok (.iload_n 1, 1) := by decide +kernel
theorem dX7_rank_17 : decode cX7_rank 17 = .ok (.iload_n 2, 1) := by decide +kernel
theorem dX7_rank_18 : decode cX7_rank 18 = .ok (.if_icmp .ne 11, 3) := by decide +kernel
theorem dX7_rank_21 : decode cX7_rank 21 = .ok (.aload_n 0, 1) := by decide +kernel
theorem dX7_rank_22 : decode cX7_rank 22 = .ok (.sipush (-1000), 3) := by decide +kernel
theorem dX7_rank_25 : decode cX7_rank 25 = .ok (.invokevirtual 99, 3) := by decide +kernel
theorem dX7_rank_28 : decode cX7_rank 28 = .ok (.ireturn, 1) := by decide +kernel
theorem dX7_rank_29 : decode cX7_rank 29 = .ok (.aload_n 0, 1) := by decide +kernel
theorem dX7_rank_30 : decode cX7_rank 30 = .ok (.aload_n 0, 1) := by decide +kernel
theorem dX7_rank_31 : decode cX7_rank 31 = .ok (.getfield 7, 3) := by decide +kernel
theorem dX7_rank_34 : decode cX7_rank 34 = .ok (.aload_n 0, 1) := by decide +kernel
theorem dX7_rank_35 : decode cX7_rank 35 = .ok (.getfield 7, 3) := by decide +kernel
theorem dX7_rank_38 : decode cX7_rank 38 = .ok (.bipush 24, 2) := by decide +kernel
theorem dX7_rank_40 : decode cX7_rank 40 = .ok (.iload_n 1, 1) := by decide +kernel
theorem dX7_rank_41 : decode cX7_rank 41 = .ok (.iadd, 1) := by decide +kernel
theorem dX7_rank_42 : decode cX7_rank 42 = .ok (.iaload, 1) := by decide +kernel
theorem dX7_rank_43 : decode cX7_rank 43 = .ok (.iload_n 1, 1) := by decide +kernel
theorem dX7_rank_44 : decode cX7_rank 44 = .ok (.iload_n 2, 1) := by decide +kernel
theorem dX7_rank_45 : decode cX7_rank 45 = .ok (.invokevirtual 191, 3) := by decide +kernel
theorem dX7_rank_48 : decode cX7_rank 48 = .ok (.ireturn, 1) := by decide +kernel
theorem dX7_heir_0 : decode cX7_heir 0 = .ok (.aload_n 0, 1) := by decide +kernel
theorem dX7_heir_1 : decode cX7_heir 1 = .ok (.iload_n 1, 1) := by decide +kernel
theorem dX7_heir_2 : decode cX7_heir 2 = .ok (.invokevirtual 61, 3) := by decide +kernel
theorem dX7_heir_5 : decode cX7_heir 5 = .ok (.ifCond .eq 24, 3) := by decide +kernel
theorem dX7_heir_8 : decode cX7_heir 8 = .ok (.aload_n 0, 1) := by decide +kernel
theorem dX7_heir_9 : decode cX7_heir 9 = .ok (.aload_n 0, 1) := by decide +kernel
theorem dX7_heir_10 : decode cX7_heir 10 = .ok (.getfield 7, 3) := by decide +kernel
theorem dX7_heir_13 : decode cX7_heir 13 = .ok (.aload_n 0, 1) := by decide +kernel
theorem dX7_heir_14 : decode cX7_heir 14 = .ok (.getfield 7, 3) := by decide +kernel
theorem dX7_heir_17 : decode cX7_heir 17 = .ok (.bipush 24, 2) := by decide +kernel
theorem dX7_heir_19 : decode cX7_heir 19 = .ok (.iload_n 1, 1) := by decide +kernel
theorem dX7_heir_20 : decode cX7_heir 20 = .ok (.iadd, 1) := by decide +kernel
theorem dX7_heir_21 : decode cX7_heir 21 = .ok (.iaload, 1) := by decide +kernel
theorem dX7_heir_22 : decode cX7_heir 22 = .ok (.iload_n 1, 1) := by decide +kernel
theorem dX7_heir_23 : decode cX7_heir 23 = .ok (.invokevirtual 195, 3) := by decide +kernel
theorem dX7_heir_26 : decode cX7_heir 26 = .ok (.goto 9, 3) := by decide +kernel
theorem dX7_heir_29 : decode cX7_heir 29 = .ok (.aload_n 0, 1) := by decide +kernel
theorem dX7_heir_30 : decode cX7_heir 30 = .ok (.bipush (-10), 2) := by decide +kernel
theorem dX7_heir_32 : decode cX7_heir 32 = .ok (.invokevirtual 99, 3) := by decide +kernel
theorem dX7_heir_35 : decode cX7_heir 35 = .ok (.ireturn, 1) := by decide +kernel
theorem dX7_wills_0 : decode cX7_wills 0 = .ok (.aload_n 0, 1) := by decide +kernel
theorem dX7_wills_1 : decode cX7_wills 1 = .ok (.iload_n 1, 1) := by decide +kernel
theorem dX7_wills_2 : decode cX7_wills 2 = .ok (.invokevirtual 61, 3) := by decide +kernel
theorem dX7_wills_5 : decode cX7_wills 5 = .ok (.ifCond .eq 16, 3) := by decide +kernel
theorem dX7_wills_8 : decode cX7_wills 8 = .ok (.aload_n 0, 1) := by decide +kernel
theorem dX7_wills_9 : decode cX7_wills 9 = .ok (.iload_n 2, 1) := by decide +kernel
theorem dX7_wills_10 : decode cX7_wills 10 = .ok (.invokevirtual 61, 3) := by decide +kernel
theorem dX7_wills_13 : decode cX7_wills 13 = .ok (.ifCond .eq 8, 3) := by decide +kernel
theorem dX7_wills_16 : decode cX7_wills 16 = .ok (.iload_n 1, 1) := by decide +kernel
theorem dX7_wills_17 : decode cX7_wills 17 = .ok (.iload_n 2, 1) := by decide +kernel
theorem dX7_wills_18 : decode cX7_wills 18 = .ok (.if_icmp .ne 10, 3) := by decide +kernel
theorem dX7_wills_21 : decode cX7_wills 21 = .ok (.aload_n 0, 1) := by decide +kernel
theorem dX7_wills_22 : decode cX7_wills 22 = .ok (.bipush (-2), 2) := by decide +kernel
theorem dX7_wills_24 : decode cX7_wills 24 = .ok (.invokevirtual 99, 3) := by decide +kernel
theorem dX7_wills_27 : decode cX7_wills 27 = .ok (.ireturn, 1) := by decide +kernel
theorem dX7_wills_28 : decode cX7_wills 28 = .ok (.iconst 0, 1) := by decide +kernel
theorem dX7_wills_29 : decode cX7_wills 29 = .ok (.istore_n 3, 1) := by decide +kernel
theorem dX7_wills_30 : decode cX7_wills 30 = .ok (.iconst 0, 1) := by decide +kernel
theorem dX7_wills_31 : decode cX7_wills 31 = .ok (.istore 4, 2) := by decide +kernel
theorem dX7_wills_33 : decode cX7_wills 33 = .ok (.iload 4, 2) := by decide +kernel
theorem dX7_wills_35 : decode cX7_wills 35 = .ok (.iconst 5, 1) := by decide +kernel
theorem dX7_wills_36 : decode cX7_wills 36 = .ok (.if_icmp .gt 35, 3) := by decide +kernel
theorem dX7_wills_39 : decode cX7_wills 39 = .ok (.iload_n 3, 1) := by decide +kernel
theorem dX7_wills_40 : decode cX7_wills 40 = .ok (.aload_n 0, 1) := by decide +kernel
theorem dX7_wills_41 : decode cX7_wills 41 = .ok (.aload_n 0, 1) := by decide +kernel
theorem dX7_wills_42 : decode cX7_wills 42 = .ok (.getfield 7, 3) := by decide +kernel
theorem dX7_wills_45 : decode cX7_wills 45 = .ok (.iload 4, 2) := by decide +kernel
theorem dX7_wills_47 : decode cX7_wills 47 = .ok (.iload_n 1, 1) := by decide +kernel
theorem dX7_wills_48 : decode cX7_wills 48 = .ok (.invokevirtual 195, 3) := by decide +kernel
theorem dX7_wills_51 : decode cX7_wills 51 = .ok (.iload_n 2, 1) := by decide +kernel
theorem dX7_wills_52 : decode cX7_wills 52 = .ok (.if_icmp .ne 10, 3) := by decide +kernel
theorem dX7_wills_55 : decode cX7_wills 55 = .ok (.iconst 1, 1) := by decide +kernel
theorem dX7_wills_56 : decode cX7_wills 56 = .ok (.iload 4, 2) := by decide +kernel
theorem dX7_wills_58 : decode cX7_wills 58 = .ok (.ishl, 1) := by decide +kernel
theorem dX7_wills_59 : decode cX7_wills 59 = .ok (.goto 4, 3) := by decide +kernel
theorem dX7_wills_62 : decode cX7_wills 62 = .ok (.iconst 0, 1) := by decide +kernel
theorem dX7_wills_63 : decode cX7_wills 63 = .ok (.ior, 1) := by decide +kernel
theorem dX7_wills_64 : decode cX7_wills 64 = .ok (.istore_n 3, 1) := by decide +kernel
theorem dX7_wills_65 : decode cX7_wills 65 = .ok (.iinc 4 1, 3) := by decide +kernel
theorem dX7_wills_68 : decode cX7_wills 68 = .ok (.goto (-35), 3) := by decide +kernel
theorem dX7_wills_71 : decode cX7_wills 71 = .ok (.iload_n 3, 1) := by decide +kernel
theorem dX7_wills_72 : decode cX7_wills 72 = .ok (.ireturn, 1) := by decide +kernel
theorem dX7_layDay_0 : decode cX7_layDay 0 = .ok (.aload_n 0, 1) := by decide +kernel
theorem dX7_layDay_1 : decode cX7_layDay 1 = .ok (.getfield 7, 3) := by decide +kernel
theorem dX7_layDay_4 : decode cX7_layDay 4 = .ok (.iconst 0, 1) := by decide +kernel
theorem dX7_layDay_5 : decode cX7_layDay 5 = .ok (.aload_n 0, 1) := by decide +kernel
theorem dX7_layDay_6 : decode cX7_layDay 6 = .ok (.getfield 39, 3) := by decide +kernel
theorem dX7_layDay_9 : decode cX7_layDay 9 = .ok (.iconst 0, 1) := by decide +kernel
theorem dX7_layDay_10 : decode cX7_layDay 10 = .ok (.bipush 92, 2) := by decide +kernel
theorem dX7_layDay_12 : decode cX7_layDay 12 = .ok (.invokestatic 161, 3) := by decide +kernel
theorem dX7_layDay_15 : decode cX7_layDay 15 = .ok (.return_, 1) := by decide +kernel
theorem dX7_mayHaveWall_0 : decode cX7_mayHaveWall 0 = .ok (.aload_n 0, 1) := by decide +kernel
theorem dX7_mayHaveWall_1 : decode cX7_mayHaveWall 1 = .ok (.getfield 7, 3) := by decide +kernel
theorem dX7_mayHaveWall_4 : decode cX7_mayHaveWall 4 = .ok (.bipush 29, 2) := by decide +kernel
theorem dX7_mayHaveWall_6 : decode cX7_mayHaveWall 6 = .ok (.iload_n 1, 1) := by decide +kernel
theorem dX7_mayHaveWall_7 : decode cX7_mayHaveWall 7 = .ok (.iadd, 1) := by decide +kernel
theorem dX7_mayHaveWall_8 : decode cX7_mayHaveWall 8 = .ok (.iaload, 1) := by decide +kernel
theorem dX7_mayHaveWall_9 : decode cX7_mayHaveWall 9 = .ok (.iconst 1, 1) := by decide +kernel
theorem dX7_mayHaveWall_10 : decode cX7_mayHaveWall 10 = .ok (.if_icmp .ne 36, 3) := by decide +kernel
theorem dX7_mayHaveWall_13 : decode cX7_mayHaveWall 13 = .ok (.aload_n 0, 1) := by decide +kernel
theorem dX7_mayHaveWall_14 : decode cX7_mayHaveWall 14 = .ok (.getfield 7, 3) := by decide +kernel
theorem dX7_mayHaveWall_17 : decode cX7_mayHaveWall 17 = .ok (.bipush 29, 2) := by decide +kernel
theorem dX7_mayHaveWall_19 : decode cX7_mayHaveWall 19 = .ok (.iload_n 2, 1) := by decide +kernel
theorem dX7_mayHaveWall_20 : decode cX7_mayHaveWall 20 = .ok (.iadd, 1) := by decide +kernel
theorem dX7_mayHaveWall_21 : decode cX7_mayHaveWall 21 = .ok (.iaload, 1) := by decide +kernel
theorem dX7_mayHaveWall_22 : decode cX7_mayHaveWall 22 = .ok (.iconst 1, 1) := by decide +kernel
theorem dX7_mayHaveWall_23 : decode cX7_mayHaveWall 23 = .ok (.if_icmp .ne 23, 3) := by decide +kernel
theorem dX7_mayHaveWall_26 : decode cX7_mayHaveWall 26 = .ok (.aload_n 0, 1) := by decide +kernel
theorem dX7_mayHaveWall_27 : decode cX7_mayHaveWall 27 = .ok (.getfield 7, 3) := by decide +kernel
theorem dX7_mayHaveWall_30 : decode cX7_mayHaveWall 30 = .ok (.bipush 39, 2) := by decide +kernel
theorem dX7_mayHaveWall_32 : decode cX7_mayHaveWall 32 = .ok (.iconst 5, 1) := by decide +kernel
theorem dX7_mayHaveWall_33 : decode cX7_mayHaveWall 33 = .ok (.iload_n 1, 1) := by decide +kernel
theorem dX7_mayHaveWall_34 : decode cX7_mayHaveWall 34 = .ok (.imul, 1) := by decide +kernel
theorem dX7_mayHaveWall_35 : decode cX7_mayHaveWall 35 = .ok (.iadd, 1) := by decide +kernel
theorem dX7_mayHaveWall_36 : decode cX7_mayHaveWall 36 = .ok (.iload_n 2, 1) := by decide +kernel
theorem dX7_mayHaveWall_37 : decode cX7_mayHaveWall 37 = .ok (.iadd, 1) := by decide +kernel
theorem dX7_mayHaveWall_38 : decode cX7_mayHaveWall 38 = .ok (.iaload, 1) := by decide +kernel
theorem dX7_mayHaveWall_39 : decode cX7_mayHaveWall 39 = .ok (.ifCond .ne 7, 3) := by decide +kernel
theorem dX7_mayHaveWall_42 : decode cX7_mayHaveWall 42 = .ok (.iconst 1, 1) := by decide +kernel
theorem dX7_mayHaveWall_43 : decode cX7_mayHaveWall 43 = .ok (.goto 4, 3) := by decide +kernel
theorem dX7_mayHaveWall_46 : decode cX7_mayHaveWall 46 = .ok (.iconst 0, 1) := by decide +kernel
theorem dX7_mayHaveWall_47 : decode cX7_mayHaveWall 47 = .ok (.ireturn, 1) := by decide +kernel
theorem dX7_layWall_0 : decode cX7_layWall 0 = .ok (.aload_n 0, 1) := by decide +kernel
theorem dX7_layWall_1 : decode cX7_layWall 1 = .ok (.invokevirtual 229, 3) := by decide +kernel
theorem dX7_layWall_4 : decode cX7_layWall 4 = .ok (.aload_n 0, 1) := by decide +kernel
theorem dX7_layWall_5 : decode cX7_layWall 5 = .ok (.getfield 39, 3) := by decide +kernel
theorem dX7_layWall_8 : decode cX7_layWall 8 = .ok (.bipush 39, 2) := by decide +kernel
theorem dX7_layWall_10 : decode cX7_layWall 10 = .ok (.iconst 5, 1) := by decide +kernel
theorem dX7_layWall_11 : decode cX7_layWall 11 = .ok (.iload_n 1, 1) := by decide +kernel
theorem dX7_layWall_12 : decode cX7_layWall 12 = .ok (.imul, 1) := by decide +kernel
theorem dX7_layWall_13 : decode cX7_layWall 13 = .ok (.iadd, 1) := by decide +kernel
theorem dX7_layWall_14 : decode cX7_layWall 14 = .ok (.iload_n 2, 1) := by decide +kernel
theorem dX7_layWall_15 : decode cX7_layWall 15 = .ok (.iadd, 1) := by decide +kernel
theorem dX7_layWall_16 : decode cX7_layWall 16 = .ok (.iconst 1, 1) := by decide +kernel
theorem dX7_layWall_17 : decode cX7_layWall 17 = .ok (.iastore, 1) := by decide +kernel
theorem dX7_layWall_18 : decode cX7_layWall 18 = .ok (.aload_n 0, 1) := by decide +kernel
theorem dX7_layWall_19 : decode cX7_layWall 19 = .ok (.getfield 39, 3) := by decide +kernel
theorem dX7_layWall_22 : decode cX7_layWall 22 = .ok (.bipush 39, 2) := by decide +kernel
theorem dX7_layWall_24 : decode cX7_layWall 24 = .ok (.iconst 5, 1) := by decide +kernel
theorem dX7_layWall_25 : decode cX7_layWall 25 = .ok (.iload_n 2, 1) := by decide +kernel
theorem dX7_layWall_26 : decode cX7_layWall 26 = .ok (.imul, 1) := by decide +kernel
theorem dX7_layWall_27 : decode cX7_layWall 27 = .ok (.iadd, 1) := by decide +kernel
theorem dX7_layWall_28 : decode cX7_layWall 28 = .ok (.iload_n 1, 1) := by decide +kernel
theorem dX7_layWall_29 : decode cX7_layWall 29 = .ok (.iadd, 1) := by decide +kernel
theorem dX7_layWall_30 : decode cX7_layWall 30 = .ok (.iconst 1, 1) := by decide +kernel
theorem dX7_layWall_31 : decode cX7_layWall 31 = .ok (.iastore, 1) := by decide +kernel
theorem dX7_layWall_32 : decode cX7_layWall 32 = .ok (.return_, 1) := by decide +kernel
theorem dX7_buildFor_0 : decode cX7_buildFor 0 = .ok (.aload_n 0, 1) := by decide +kernel
theorem dX7_buildFor_1 : decode cX7_buildFor 1 = .ok (.iload_n 1, 1) := by decide +kernel
theorem dX7_buildFor_2 : decode cX7_buildFor 2 = .ok (.invokevirtual 61, 3) := by decide +kernel
theorem dX7_buildFor_5 : decode cX7_buildFor 5 = .ok (.ifCond .eq 16, 3) := by decide +kernel
theorem dX7_buildFor_8 : decode cX7_buildFor 8 = .ok (.aload_n 0, 1) := by decide +kernel
theorem dX7_buildFor_9 : decode cX7_buildFor 9 = .ok (.iload_n 2, 1) := by decide +kernel
theorem dX7_buildFor_10 : decode cX7_buildFor 10 = .ok (.invokevirtual 61, 3) := by decide +kernel
theorem dX7_buildFor_13 : decode cX7_buildFor 13 = .ok (.ifCond .eq 8, 3) := by decide +kernel
theorem dX7_buildFor_16 : decode cX7_buildFor 16 = .ok (.iload_n 1, 1) := by decide +kernel
theorem dX7_buildFor_17 : decode cX7_buildFor 17 = .ok (.iload_n 2, 1) := by decide +kernel
theorem dX7_buildFor_18 : decode cX7_buildFor 18 = .ok (.if_icmp .ne 10, 3) := by decide +kernel
theorem dX7_buildFor_21 : decode cX7_buildFor 21 = .ok (.aload_n 0, 1) := by decide +kernel
theorem dX7_buildFor_22 : decode cX7_buildFor 22 = .ok (.bipush (-2), 2) := by decide +kernel
theorem dX7_buildFor_24 : decode cX7_buildFor 24 = .ok (.invokevirtual 99, 3) := by decide +kernel
theorem dX7_buildFor_27 : decode cX7_buildFor 27 = .ok (.ireturn, 1) := by decide +kernel
theorem dX7_buildFor_28 : decode cX7_buildFor 28 = .ok (.aload_n 0, 1) := by decide +kernel
theorem dX7_buildFor_29 : decode cX7_buildFor 29 = .ok (.aload_n 0, 1) := by decide +kernel
theorem dX7_buildFor_30 : decode cX7_buildFor 30 = .ok (.getfield 7, 3) := by decide +kernel
theorem dX7_buildFor_33 : decode cX7_buildFor 33 = .ok (.aload_n 0, 1) := by decide +kernel
theorem dX7_buildFor_34 : decode cX7_buildFor 34 = .ok (.getfield 7, 3) := by decide +kernel
theorem dX7_buildFor_37 : decode cX7_buildFor 37 = .ok (.bipush 24, 2) := by decide +kernel
theorem dX7_buildFor_39 : decode cX7_buildFor 39 = .ok (.iload_n 1, 1) := by decide +kernel
theorem dX7_buildFor_40 : decode cX7_buildFor 40 = .ok (.iadd, 1) := by decide +kernel
theorem dX7_buildFor_41 : decode cX7_buildFor 41 = .ok (.iaload, 1) := by decide +kernel
theorem dX7_buildFor_42 : decode cX7_buildFor 42 = .ok (.iload_n 1, 1) := by decide +kernel
theorem dX7_buildFor_43 : decode cX7_buildFor 43 = .ok (.invokevirtual 195, 3) := by decide +kernel
theorem dX7_buildFor_46 : decode cX7_buildFor 46 = .ok (.iload_n 2, 1) := by decide +kernel
theorem dX7_buildFor_47 : decode cX7_buildFor 47 = .ok (.if_icmp .ne 6, 3) := by decide +kernel
theorem dX7_buildFor_50 : decode cX7_buildFor 50 = .ok (.bipush 99, 2) := by decide +kernel
theorem dX7_buildFor_52 : decode cX7_buildFor 52 = .ok (.ireturn, 1) := by decide +kernel
theorem dX7_buildFor_53 : decode cX7_buildFor 53 = .ok (.iconst 0, 1) := by decide +kernel
theorem dX7_buildFor_54 : decode cX7_buildFor 54 = .ok (.istore_n 3, 1) := by decide +kernel
theorem dX7_buildFor_55 : decode cX7_buildFor 55 = .ok (.iload_n 3, 1) := by decide +kernel
theorem dX7_buildFor_56 : decode cX7_buildFor 56 = .ok (.aload_n 0, 1) := by decide +kernel
theorem dX7_buildFor_57 : decode cX7_buildFor 57 = .ok (.getfield 7, 3) := by decide +kernel
theorem dX7_buildFor_60 : decode cX7_buildFor 60 = .ok (.iconst 0, 1) := by decide +kernel
theorem dX7_buildFor_61 : decode cX7_buildFor 61 = .ok (.iaload, 1) := by decide +kernel
theorem dX7_buildFor_62 : decode cX7_buildFor 62 = .ok (.if_icmp .ge 78, 3) := by decide +kernel
theorem dX7_buildFor_65 : decode cX7_buildFor 65 = .ok (.iload_n 3, 1) := by decide +kernel
theorem dX7_buildFor_66 : decode cX7_buildFor 66 = .ok (.iconst 1, 1) := by decide +kernel
theorem dX7_buildFor_67 : decode cX7_buildFor 67 = .ok (.iadd, 1) := by decide +kernel
theorem dX7_buildFor_68 : decode cX7_buildFor 68 = .ok (.istore 4, 2) := by decide +kernel
theorem dX7_buildFor_70 : decode cX7_buildFor 70 = .ok (.iload 4, 2) := by decide +kernel
theorem dX7_buildFor_72 : decode cX7_buildFor 72 = .ok (.aload_n 0, 1) := by decide +kernel
theorem dX7_buildFor_73 : decode cX7_buildFor 73 = .ok (.getfield 7, 3) := by decide +kernel
theorem dX7_buildFor_76 : decode cX7_buildFor 76 = .ok (.iconst 0, 1) := by decide +kernel
theorem dX7_buildFor_77 : decode cX7_buildFor 77 = .ok (.iaload, 1) := by decide +kernel
theorem dX7_buildFor_78 : decode cX7_buildFor 78 = .ok (.if_icmp .ge 56, 3) := by decide +kernel
theorem dX7_buildFor_81 : decode cX7_buildFor 81 = .ok (.aload_n 0, 1) := by decide +kernel
theorem dX7_buildFor_82 : decode cX7_buildFor 82 = .ok (.iload_n 3, 1) := by decide +kernel
theorem dX7_buildFor_83 : decode cX7_buildFor 83 = .ok (.iload 4, 2) := by decide +kernel
theorem dX7_buildFor_85 : decode cX7_buildFor 85 = .ok (.invokevirtual 232, 3) := by decide +kernel
theorem dX7_buildFor_88 : decode cX7_buildFor 88 = .ok (.ifCond .eq 40, 3) := by decide +kernel
theorem dX7_buildFor_91 : decode cX7_buildFor 91 = .ok (.aload_n 0, 1) := by decide +kernel
theorem dX7_buildFor_92 : decode cX7_buildFor 92 = .ok (.iload_n 3, 1) := by decide +kernel
theorem dX7_buildFor_93 : decode cX7_buildFor 93 = .ok (.iload 4, 2) := by decide +kernel
theorem dX7_buildFor_95 : decode cX7_buildFor 95 = .ok (.invokevirtual 235, 3) := by decide +kernel
theorem dX7_buildFor_98 : decode cX7_buildFor 98 = .ok (.aload_n 0, 1) := by decide +kernel
theorem dX7_buildFor_99 : decode cX7_buildFor 99 = .ok (.aload_n 0, 1) := by decide +kernel
theorem dX7_buildFor_100 : decode cX7_buildFor 100 = .ok (.getfield 39, 3) := by decide +kernel
theorem dX7_buildFor_103 : decode cX7_buildFor 103 = .ok (.aload_n 0, 1) := by decide +kernel
theorem dX7_buildFor_104 : decode cX7_buildFor 104 = .ok (.getfield 39, 3) := by decide +kernel
theorem dX7_buildFor_107 : decode cX7_buildFor 107 = .ok (.bipush 24, 2) := by decide +kernel
theorem dX7_buildFor_109 : decode cX7_buildFor 109 = .ok (.iload_n 1, 1) := by decide +kernel
theorem dX7_buildFor_110 : decode cX7_buildFor 110 = .ok (.iadd, 1) := by decide +kernel
theorem dX7_buildFor_111 : decode cX7_buildFor 111 = .ok (.iaload, 1) := by decide +kernel
theorem dX7_buildFor_112 : decode cX7_buildFor 112 = .ok (.iload_n 1, 1) := by decide +kernel
theorem dX7_buildFor_113 : decode cX7_buildFor 113 = .ok (.invokevirtual 195, 3) := by decide +kernel
theorem dX7_buildFor_116 : decode cX7_buildFor 116 = .ok (.iload_n 2, 1) := by decide +kernel
theorem dX7_buildFor_117 : decode cX7_buildFor 117 = .ok (.if_icmp .ne 11, 3) := by decide +kernel
theorem dX7_buildFor_120 : decode cX7_buildFor 120 = .ok (.bipush 10, 2) := by decide +kernel
theorem dX7_buildFor_122 : decode cX7_buildFor 122 = .ok (.iload_n 3, 1) := by decide +kernel
theorem dX7_buildFor_123 : decode cX7_buildFor 123 = .ok (.imul, 1) := by decide +kernel
theorem dX7_buildFor_124 : decode cX7_buildFor 124 = .ok (.iload 4, 2) := by decide +kernel
theorem dX7_buildFor_126 : decode cX7_buildFor 126 = .ok (.iadd, 1) := by decide +kernel
theorem dX7_buildFor_127 : decode cX7_buildFor 127 = .ok (.ireturn, 1) := by decide +kernel
theorem dX7_buildFor_128 : decode cX7_buildFor 128 = .ok (.iinc 4 1, 3) := by decide +kernel
theorem dX7_buildFor_131 : decode cX7_buildFor 131 = .ok (.goto (-61), 3) := by decide +kernel
theorem dX7_buildFor_134 : decode cX7_buildFor 134 = .ok (.iinc 3 1, 3) := by decide +kernel
theorem dX7_buildFor_137 : decode cX7_buildFor 137 = .ok (.goto (-82), 3) := by decide +kernel
theorem dX7_buildFor_140 : decode cX7_buildFor 140 = .ok (.iconst (-1), 1) := by decide +kernel
theorem dX7_buildFor_141 : decode cX7_buildFor 141 = .ok (.ireturn, 1) := by decide +kernel
theorem dX7_adopts_0 : decode cX7_adopts 0 = .ok (.aload_n 0, 1) := by decide +kernel
theorem dX7_adopts_1 : decode cX7_adopts 1 = .ok (.iload_n 1, 1) := by decide +kernel
theorem dX7_adopts_2 : decode cX7_adopts 2 = .ok (.invokevirtual 61, 3) := by decide +kernel
theorem dX7_adopts_5 : decode cX7_adopts 5 = .ok (.ifCond .eq 16, 3) := by decide +kernel
theorem dX7_adopts_8 : decode cX7_adopts 8 = .ok (.aload_n 0, 1) := by decide +kernel
theorem dX7_adopts_9 : decode cX7_adopts 9 = .ok (.iload_n 2, 1) := by decide +kernel
theorem dX7_adopts_10 : decode cX7_adopts 10 = .ok (.invokevirtual 61, 3) := by decide +kernel
theorem dX7_adopts_13 : decode cX7_adopts 13 = .ok (.ifCond .eq 8, 3) := by decide +kernel
theorem dX7_adopts_16 : decode cX7_adopts 16 = .ok (.iload_n 1, 1) := by decide +kernel
theorem dX7_adopts_17 : decode cX7_adopts 17 = .ok (.iload_n 2, 1) := by decide +kernel
theorem dX7_adopts_18 : decode cX7_adopts 18 = .ok (.if_icmp .ne 10, 3) := by decide +kernel
theorem dX7_adopts_21 : decode cX7_adopts 21 = .ok (.aload_n 0, 1) := by decide +kernel
theorem dX7_adopts_22 : decode cX7_adopts 22 = .ok (.bipush (-2), 2) := by decide +kernel
theorem dX7_adopts_24 : decode cX7_adopts 24 = .ok (.invokevirtual 99, 3) := by decide +kernel
theorem dX7_adopts_27 : decode cX7_adopts 27 = .ok (.ireturn, 1) := by decide +kernel
theorem dX7_adopts_28 : decode cX7_adopts 28 = .ok (.aload_n 0, 1) := by decide +kernel
theorem dX7_adopts_29 : decode cX7_adopts 29 = .ok (.iload_n 1, 1) := by decide +kernel
theorem dX7_adopts_30 : decode cX7_adopts 30 = .ok (.iload_n 2, 1) := by decide +kernel
theorem dX7_adopts_31 : decode cX7_adopts 31 = .ok (.invokevirtual 232, 3) := by decide +kernel
theorem dX7_adopts_34 : decode cX7_adopts 34 = .ok (.ifCond .ne 10, 3) := by decide +kernel
theorem dX7_adopts_37 : decode cX7_adopts 37 = .ok (.aload_n 0, 1) := by decide +kernel
theorem dX7_adopts_38 : decode cX7_adopts 38 = .ok (.bipush (-3), 2) := by decide +kernel
theorem dX7_adopts_40 : decode cX7_adopts 40 = .ok (.invokevirtual 205, 3) := by decide +kernel
theorem dX7_adopts_43 : decode cX7_adopts 43 = .ok (.ireturn, 1) := by decide +kernel
theorem dX7_adopts_44 : decode cX7_adopts 44 = .ok (.aload_n 0, 1) := by decide +kernel
theorem dX7_adopts_45 : decode cX7_adopts 45 = .ok (.iload_n 1, 1) := by decide +kernel
theorem dX7_adopts_46 : decode cX7_adopts 46 = .ok (.iload_n 2, 1) := by decide +kernel
theorem dX7_adopts_47 : decode cX7_adopts 47 = .ok (.invokevirtual 235, 3) := by decide +kernel
theorem dX7_adopts_50 : decode cX7_adopts 50 = .ok (.iconst 0, 1) := by decide +kernel
theorem dX7_adopts_51 : decode cX7_adopts 51 = .ok (.istore_n 3, 1) := by decide +kernel
theorem dX7_adopts_52 : decode cX7_adopts 52 = .ok (.iconst 0, 1) := by decide +kernel
theorem dX7_adopts_53 : decode cX7_adopts 53 = .ok (.istore 4, 2) := by decide +kernel
theorem dX7_adopts_55 : decode cX7_adopts 55 = .ok (.iload 4, 2) := by decide +kernel
theorem dX7_adopts_57 : decode cX7_adopts 57 = .ok (.aload_n 0, 1) := by decide +kernel
theorem dX7_adopts_58 : decode cX7_adopts 58 = .ok (.getfield 7, 3) := by decide +kernel
theorem dX7_adopts_61 : decode cX7_adopts 61 = .ok (.iconst 0, 1) := by decide +kernel
theorem dX7_adopts_62 : decode cX7_adopts 62 = .ok (.iaload, 1) := by decide +kernel
theorem dX7_adopts_63 : decode cX7_adopts 63 = .ok (.if_icmp .ge 60, 3) := by decide +kernel
theorem dX7_adopts_66 : decode cX7_adopts 66 = .ok (.iload_n 3, 1) := by decide +kernel
theorem dX7_adopts_67 : decode cX7_adopts 67 = .ok (.aload_n 0, 1) := by decide +kernel
theorem dX7_adopts_68 : decode cX7_adopts 68 = .ok (.aload_n 0, 1) := by decide +kernel
theorem dX7_adopts_69 : decode cX7_adopts 69 = .ok (.getfield 7, 3) := by decide +kernel
theorem dX7_adopts_72 : decode cX7_adopts 72 = .ok (.aload_n 0, 1) := by decide +kernel
theorem dX7_adopts_73 : decode cX7_adopts 73 = .ok (.getfield 7, 3) := by decide +kernel
theorem dX7_adopts_76 : decode cX7_adopts 76 = .ok (.bipush 24, 2) := by decide +kernel
theorem dX7_adopts_78 : decode cX7_adopts 78 = .ok (.iload 4, 2) := by decide +kernel
theorem dX7_adopts_80 : decode cX7_adopts 80 = .ok (.iadd, 1) := by decide +kernel
theorem dX7_adopts_81 : decode cX7_adopts 81 = .ok (.iaload, 1) := by decide +kernel
theorem dX7_adopts_82 : decode cX7_adopts 82 = .ok (.iload 4, 2) := by decide +kernel
theorem dX7_adopts_84 : decode cX7_adopts 84 = .ok (.invokevirtual 195, 3) := by decide +kernel
theorem dX7_adopts_87 : decode cX7_adopts 87 = .ok (.aload_n 0, 1) := by decide +kernel
theorem dX7_adopts_88 : decode cX7_adopts 88 = .ok (.aload_n 0, 1) := by decide +kernel
theorem dX7_adopts_89 : decode cX7_adopts 89 = .ok (.getfield 39, 3) := by decide +kernel
theorem dX7_adopts_92 : decode cX7_adopts 92 = .ok (.aload_n 0, 1) := by decide +kernel
theorem dX7_adopts_93 : decode cX7_adopts 93 = .ok (.getfield 7, 3) := by decide +kernel
theorem dX7_adopts_96 : decode cX7_adopts 96 = .ok (.bipush 24, 2) := by decide +kernel
theorem dX7_adopts_98 : decode cX7_adopts 98 = .ok (.iload 4, 2) := by decide +kernel
theorem dX7_adopts_100 : decode cX7_adopts 100 = .ok (.iadd, 1) := by decide +kernel
theorem dX7_adopts_101 : decode cX7_adopts 101 = .ok (.iaload, 1) := by decide +kernel
theorem dX7_adopts_102 : decode cX7_adopts 102 = .ok (.iload 4, 2) := by decide +kernel
theorem dX7_adopts_104 : decode cX7_adopts 104 = .ok (.invokevirtual 195, 3) := by decide +kernel
theorem dX7_adopts_107 : decode cX7_adopts 107 = .ok (.if_icmp .eq 7, 3) := by decide +kernel
theorem dX7_adopts_110 : decode cX7_adopts 110 = .ok (.iconst 1, 1) := by decide +kernel
theorem dX7_adopts_111 : decode cX7_adopts 111 = .ok (.goto 4, 3) := by decide +kernel
theorem dX7_adopts_114 : decode cX7_adopts 114 = .ok (.iconst 0, 1) := by decide +kernel
theorem dX7_adopts_115 : decode cX7_adopts 115 = .ok (.iadd, 1) := by decide +kernel
theorem dX7_adopts_116 : decode cX7_adopts 116 = .ok (.istore_n 3, 1) := by decide +kernel
theorem dX7_adopts_117 : decode cX7_adopts 117 = .ok (.iinc 4 1, 3) := by decide +kernel
theorem dX7_adopts_120 : decode cX7_adopts 120 = .ok (.goto (-65), 3) := by decide +kernel
theorem dX7_adopts_123 : decode cX7_adopts 123 = .ok (.iload_n 3, 1) := by decide +kernel
theorem dX7_adopts_124 : decode cX7_adopts 124 = .ok (.ireturn, 1) := by decide +kernel
theorem dX7_lives_0 : decode cX7_lives 0 = .ok (.aload_n 0, 1) := by decide +kernel
theorem dX7_lives_1 : decode cX7_lives 1 = .ok (.iload_n 1, 1) := by decide +kernel
theorem dX7_lives_2 : decode cX7_lives 2 = .ok (.invokevirtual 221, 3) := by decide +kernel
theorem dX7_lives_5 : decode cX7_lives 5 = .ok (.ifCond .eq 15, 3) := by decide +kernel
theorem dX7_lives_8 : decode cX7_lives 8 = .ok (.iload_n 2, 1) := by decide +kernel
theorem dX7_lives_9 : decode cX7_lives 9 = .ok (.i2l, 1) := by decide +kernel
theorem dX7_lives_10 : decode cX7_lives 10 = .ok (.lconst 0, 1) := by decide +kernel
theorem dX7_lives_11 : decode cX7_lives 11 = .ok (.ldc2_w 239, 3) := by decide +kernel
theorem dX7_lives_14 : decode cX7_lives 14 = .ok (.invokestatic 51, 3) := by decide +kernel
theorem dX7_lives_17 : decode cX7_lives 17 = .ok (.ifCond .ne 10, 3) := by decide +kernel
theorem dX7_lives_20 : decode cX7_lives 20 = .ok (.aload_n 0, 1) := by decide +kernel
theorem dX7_lives_21 : decode cX7_lives 21 = .ok (.bipush (-10), 2) := by decide +kernel
theorem dX7_lives_23 : decode cX7_lives 23 = .ok (.invokevirtual 99, 3) := by decide +kernel
theorem dX7_lives_26 : decode cX7_lives 26 = .ok (.ireturn, 1) := by decide +kernel
theorem dX7_lives_27 : decode cX7_lives 27 = .ok (.aload_n 0, 1) := by decide +kernel
theorem dX7_lives_28 : decode cX7_lives 28 = .ok (.iload_n 2, 1) := by decide +kernel
theorem dX7_lives_29 : decode cX7_lives 29 = .ok (.invokevirtual 241, 3) := by decide +kernel
theorem dX7_lives_32 : decode cX7_lives 32 = .ok (.aload_n 0, 1) := by decide +kernel
theorem dX7_lives_33 : decode cX7_lives 33 = .ok (.getfield 39, 3) := by decide +kernel
theorem dX7_lives_36 : decode cX7_lives 36 = .ok (.bipush 70, 2) := by decide +kernel
theorem dX7_lives_38 : decode cX7_lives 38 = .ok (.iload_n 1, 1) := by decide +kernel
theorem dX7_lives_39 : decode cX7_lives 39 = .ok (.iadd, 1) := by decide +kernel
theorem dX7_lives_40 : decode cX7_lives 40 = .ok (.iaload, 1) := by decide +kernel
theorem dX7_lives_41 : decode cX7_lives 41 = .ok (.ireturn, 1) := by decide +kernel
theorem dX7_goYears_0 : decode cX7_goYears 0 = .ok (.aload_n 0, 1) := by decide +kernel
theorem dX7_goYears_1 : decode cX7_goYears 1 = .ok (.invokevirtual 229, 3) := by decide +kernel
theorem dX7_goYears_4 : decode cX7_goYears 4 = .ok (.iconst 0, 1) := by decide +kernel
theorem dX7_goYears_5 : decode cX7_goYears 5 = .ok (.istore_n 2, 1) := by decide +kernel
theorem dX7_goYears_6 : decode cX7_goYears 6 = .ok (.iload_n 2, 1) := by decide +kernel
theorem dX7_goYears_7 : decode cX7_goYears 7 = .ok (.iload_n 1, 1) := by decide +kernel
theorem dX7_goYears_8 : decode cX7_goYears 8 = .ok (.if_icmp .ge 17, 3) := by decide +kernel
theorem dX7_goYears_11 : decode cX7_goYears 11 = .ok (.aload_n 0, 1) := by decide +kernel
theorem dX7_goYears_12 : decode cX7_goYears 12 = .ok (.aload_n 0, 1) := by decide +kernel
theorem dX7_goYears_13 : decode cX7_goYears 13 = .ok (.getfield 39, 3) := by decide +kernel
theorem dX7_goYears_16 : decode cX7_goYears 16 = .ok (.invokevirtual 213, 3) := by decide +kernel
theorem dX7_goYears_19 : decode cX7_goYears 19 = .ok (.iinc 2 1, 3) := by decide +kernel
theorem dX7_goYears_22 : decode cX7_goYears 22 = .ok (.goto (-16), 3) := by decide +kernel
theorem dX7_goYears_25 : decode cX7_goYears 25 = .ok (.return_, 1) := by decide +kernel
theorem dX7_stand_0 : decode cX7_stand 0 = .ok (.iload_n 1, 1) := by decide +kernel
theorem dX7_stand_1 : decode cX7_stand 1 = .ok (.i2l, 1) := by decide +kernel
theorem dX7_stand_2 : decode cX7_stand 2 = .ok (.lconst 0, 1) := by decide +kernel
theorem dX7_stand_3 : decode cX7_stand 3 = .ok (.ldc2_w 239, 3) := by decide +kernel
theorem dX7_stand_6 : decode cX7_stand 6 = .ok (.invokestatic 51, 3) := by decide +kernel
theorem dX7_stand_9 : decode cX7_stand 9 = .ok (.ifCond .ne 10, 3) := by decide +kernel
theorem dX7_stand_12 : decode cX7_stand 12 = .ok (.aload_n 0, 1) := by decide +kernel
theorem dX7_stand_13 : decode cX7_stand 13 = .ok (.bipush (-2), 2) := by decide +kernel
theorem dX7_stand_15 : decode cX7_stand 15 = .ok (.invokevirtual 99, 3) := by decide +kernel
theorem dX7_stand_18 : decode cX7_stand 18 = .ok (.ireturn, 1) := by decide +kernel
theorem dX7_stand_19 : decode cX7_stand 19 = .ok (.aload_n 0, 1) := by decide +kernel
theorem dX7_stand_20 : decode cX7_stand 20 = .ok (.iload_n 1, 1) := by decide +kernel
theorem dX7_stand_21 : decode cX7_stand 21 = .ok (.invokevirtual 241, 3) := by decide +kernel
theorem dX7_stand_24 : decode cX7_stand 24 = .ok (.aload_n 0, 1) := by decide +kernel
theorem dX7_stand_25 : decode cX7_stand 25 = .ok (.getfield 39, 3) := by decide +kernel
theorem dX7_stand_28 : decode cX7_stand 28 = .ok (.invokestatic 217, 3) := by decide +kernel
theorem dX7_stand_31 : decode cX7_stand 31 = .ok (.ireturn, 1) := by decide +kernel
theorem dX7_overfull_0 : decode cX7_overfull 0 = .ok (.iload_n 1, 1) := by decide +kernel
theorem dX7_overfull_1 : decode cX7_overfull 1 = .ok (.invokestatic 226, 3) := by decide +kernel
theorem dX7_overfull_4 : decode cX7_overfull 4 = .ok (.ifCond .ne 10, 3) := by decide +kernel
theorem dX7_overfull_7 : decode cX7_overfull 7 = .ok (.aload_n 0, 1) := by decide +kernel
theorem dX7_overfull_8 : decode cX7_overfull 8 = .ok (.bipush (-10), 2) := by decide +kernel
theorem dX7_overfull_10 : decode cX7_overfull 10 = .ok (.invokevirtual 99, 3) := by decide +kernel
theorem dX7_overfull_13 : decode cX7_overfull 13 = .ok (.ireturn, 1) := by decide +kernel
theorem dX7_overfull_14 : decode cX7_overfull 14 = .ok (.aload_n 0, 1) := by decide +kernel
theorem dX7_overfull_15 : decode cX7_overfull 15 = .ok (.invokevirtual 229, 3) := by decide +kernel
theorem dX7_overfull_18 : decode cX7_overfull 18 = .ok (.iconst 0, 1) := by decide +kernel
theorem dX7_overfull_19 : decode cX7_overfull 19 = .ok (.istore_n 2, 1) := by decide +kernel
theorem dX7_overfull_20 : decode cX7_overfull 20 = .ok (.iload_n 2, 1) := by decide +kernel
theorem dX7_overfull_21 : decode cX7_overfull 21 = .ok (.bipush 60, 2) := by decide +kernel
theorem dX7_overfull_23 : decode cX7_overfull 23 = .ok (.if_icmp .gt 69, 3) := by decide +kernel
theorem dX7_overfull_26 : decode cX7_overfull 26 = .ok (.iconst 0, 1) := by decide +kernel
theorem dX7_overfull_27 : decode cX7_overfull 27 = .ok (.istore_n 3, 1) := by decide +kernel
theorem dX7_overfull_28 : decode cX7_overfull 28 = .ok (.iload_n 3, 1) := by decide +kernel
theorem dX7_overfull_29 : decode cX7_overfull 29 = .ok (.aload_n 0, 1) := by decide +kernel
theorem dX7_overfull_30 : decode cX7_overfull 30 = .ok (.getfield 39, 3) := by decide +kernel
theorem dX7_overfull_33 : decode cX7_overfull 33 = .ok (.iconst 0, 1) := by decide +kernel
theorem dX7_overfull_34 : decode cX7_overfull 34 = .ok (.iaload, 1) := by decide +kernel
theorem dX7_overfull_35 : decode cX7_overfull 35 = .ok (.if_icmp .ge 43, 3) := by decide +kernel
theorem dX7_overfull_38 : decode cX7_overfull 38 = .ok (.aload_n 0, 1) := by decide +kernel
theorem dX7_overfull_39 : decode cX7_overfull 39 = .ok (.getfield 39, 3) := by decide +kernel
theorem dX7_overfull_42 : decode cX7_overfull 42 = .ok (.bipush 29, 2) := by decide +kernel
theorem dX7_overfull_44 : decode cX7_overfull 44 = .ok (.iload_n 3, 1) := by decide +kernel
theorem dX7_overfull_45 : decode cX7_overfull 45 = .ok (.iadd, 1) := by decide +kernel
theorem dX7_overfull_46 : decode cX7_overfull 46 = .ok (.iaload, 1) := by decide +kernel
theorem dX7_overfull_47 : decode cX7_overfull 47 = .ok (.iconst 1, 1) := by decide +kernel
theorem dX7_overfull_48 : decode cX7_overfull 48 = .ok (.if_icmp .ne 24, 3) := by decide +kernel
theorem dX7_overfull_51 : decode cX7_overfull 51 = .ok (.aload_n 0, 1) := by decide +kernel
theorem dX7_overfull_52 : decode cX7_overfull 52 = .ok (.getfield 39, 3) := by decide +kernel
theorem dX7_overfull_55 : decode cX7_overfull 55 = .ok (.iload_n 3, 1) := by decide +kernel
theorem dX7_overfull_56 : decode cX7_overfull 56 = .ok (.invokestatic 198, 3) := by decide +kernel
theorem dX7_overfull_59 : decode cX7_overfull 59 = .ok (.ifCond .eq 13, 3) := by decide +kernel
theorem dX7_overfull_62 : decode cX7_overfull 62 = .ok (.iload_n 1, 1) := by decide +kernel
theorem dX7_overfull_63 : decode cX7_overfull 63 = .ok (.ifCond .ne 7, 3) := by decide +kernel
theorem dX7_overfull_66 : decode cX7_overfull 66 = .ok (.iload_n 2, 1) := by decide +kernel
theorem dX7_overfull_67 : decode cX7_overfull 67 = .ok (.goto 4, 3) := by decide +kernel
theorem dX7_overfull_70 : decode cX7_overfull 70 = .ok (.iload_n 3, 1) := by decide +kernel
theorem dX7_overfull_71 : decode cX7_overfull 71 = .ok (.ireturn, 1) := by decide +kernel
theorem dX7_overfull_72 : decode cX7_overfull 72 = .ok (.iinc 3 1, 3) := by decide +kernel
theorem dX7_overfull_75 : decode cX7_overfull 75 = .ok (.goto (-47), 3) := by decide +kernel
theorem dX7_overfull_78 : decode cX7_overfull 78 = .ok (.aload_n 0, 1) := by decide +kernel
theorem dX7_overfull_79 : decode cX7_overfull 79 = .ok (.aload_n 0, 1) := by decide +kernel
theorem dX7_overfull_80 : decode cX7_overfull 80 = .ok (.getfield 39, 3) := by decide +kernel
theorem dX7_overfull_83 : decode cX7_overfull 83 = .ok (.invokevirtual 213, 3) := by decide +kernel
theorem dX7_overfull_86 : decode cX7_overfull 86 = .ok (.iinc 2 1, 3) := by decide +kernel
theorem dX7_overfull_89 : decode cX7_overfull 89 = .ok (.goto (-69), 3) := by decide +kernel
theorem dX7_overfull_92 : decode cX7_overfull 92 = .ok (.iconst (-1), 1) := by decide +kernel
theorem dX7_overfull_93 : decode cX7_overfull 93 = .ok (.ireturn, 1) := by decide +kernel
theorem dX7_layOrder_0 : decode cX7_layOrder 0 = .ok (.iload_n 1, 1) := by decide +kernel
theorem dX7_layOrder_1 : decode cX7_layOrder 1 = .ok (.istore 4, 2) := by decide +kernel
theorem dX7_layOrder_3 : decode cX7_layOrder 3 = .ok (.iconst 0, 1) := by decide +kernel
theorem dX7_layOrder_4 : decode cX7_layOrder 4 = .ok (.istore 5, 2) := by decide +kernel
theorem dX7_layOrder_6 : decode cX7_layOrder 6 = .ok (.iload_n 2, 1) := by decide +kernel
theorem dX7_layOrder_7 : decode cX7_layOrder 7 = .ok (.iconst 1, 1) := by decide +kernel
theorem dX7_layOrder_8 : decode cX7_layOrder 8 = .ok (.isub, 1) := by decide +kernel
theorem dX7_layOrder_9 : decode cX7_layOrder 9 = .ok (.istore 6, 2) := by decide +kernel
theorem dX7_layOrder_11 : decode cX7_layOrder 11 = .ok (.iload 6, 2) := by decide +kernel
theorem dX7_layOrder_13 : decode cX7_layOrder 13 = .ok (.ifCond .lt 40, 3) := by decide +kernel
theorem dX7_layOrder_16 : decode cX7_layOrder 16 = .ok (.aload_n 0, 1) := by decide +kernel
theorem dX7_layOrder_17 : decode cX7_layOrder 17 = .ok (.getfield 42, 3) := by decide +kernel
theorem dX7_layOrder_20 : decode cX7_layOrder 20 = .ok (.iload 6, 2) := by decide +kernel
theorem dX7_layOrder_22 : decode cX7_layOrder 22 = .ok (.iload 4, 2) := by decide +kernel
theorem dX7_layOrder_24 : decode cX7_layOrder 24 = .ok (.iconst 5, 1) := by decide +kernel
theorem dX7_layOrder_25 : decode cX7_layOrder 25 = .ok (.irem, 1) := by decide +kernel
theorem dX7_layOrder_26 : decode cX7_layOrder 26 = .ok (.iastore, 1) := by decide +kernel
theorem dX7_layOrder_27 : decode cX7_layOrder 27 = .ok (.iload 4, 2) := by decide +kernel
theorem dX7_layOrder_29 : decode cX7_layOrder 29 = .ok (.iconst 5, 1) := by decide +kernel
theorem dX7_layOrder_30 : decode cX7_layOrder 30 = .ok (.idiv, 1) := by decide +kernel
theorem dX7_layOrder_31 : decode cX7_layOrder 31 = .ok (.istore 4, 2) := by decide +kernel
theorem dX7_layOrder_33 : decode cX7_layOrder 33 = .ok (.iload 5, 2) := by decide +kernel
theorem dX7_layOrder_35 : decode cX7_layOrder 35 = .ok (.iconst 1, 1) := by decide +kernel
theorem dX7_layOrder_36 : decode cX7_layOrder 36 = .ok (.aload_n 0, 1) := by decide +kernel
theorem dX7_layOrder_37 : decode cX7_layOrder 37 = .ok (.getfield 42, 3) := by decide +kernel
theorem dX7_layOrder_40 : decode cX7_layOrder 40 = .ok (.iload 6, 2) := by decide +kernel
theorem dX7_layOrder_42 : decode cX7_layOrder 42 = .ok (.iaload, 1) := by decide +kernel
theorem dX7_layOrder_43 : decode cX7_layOrder 43 = .ok (.ishl, 1) := by decide +kernel
theorem dX7_layOrder_44 : decode cX7_layOrder 44 = .ok (.ior, 1) := by decide +kernel
theorem dX7_layOrder_45 : decode cX7_layOrder 45 = .ok (.istore 5, 2) := by decide +kernel
theorem dX7_layOrder_47 : decode cX7_layOrder 47 = .ok (.iinc 6 (-1), 3) := by decide +kernel
theorem dX7_layOrder_50 : decode cX7_layOrder 50 = .ok (.goto (-39), 3) := by decide +kernel
theorem dX7_layOrder_53 : decode cX7_layOrder 53 = .ok (.iload 5, 2) := by decide +kernel
theorem dX7_layOrder_55 : decode cX7_layOrder 55 = .ok (.iload_n 3, 1) := by decide +kernel
theorem dX7_layOrder_56 : decode cX7_layOrder 56 = .ok (.if_icmp .ne 7, 3) := by decide +kernel
theorem dX7_layOrder_59 : decode cX7_layOrder 59 = .ok (.iconst 1, 1) := by decide +kernel
theorem dX7_layOrder_60 : decode cX7_layOrder 60 = .ok (.goto 4, 3) := by decide +kernel
theorem dX7_layOrder_63 : decode cX7_layOrder 63 = .ok (.iconst 0, 1) := by decide +kernel
theorem dX7_layOrder_64 : decode cX7_layOrder 64 = .ok (.ireturn, 1) := by decide +kernel
theorem dX7_codes_0 : decode cX7_codes 0 = .ok (.iconst 1, 1) := by decide +kernel
theorem dX7_codes_1 : decode cX7_codes 1 = .ok (.istore_n 1, 1) := by decide +kernel
theorem dX7_codes_2 : decode cX7_codes 2 = .ok (.iconst 0, 1) := by decide +kernel
theorem dX7_codes_3 : decode cX7_codes 3 = .ok (.istore_n 2, 1) := by decide +kernel
theorem dX7_codes_4 : decode cX7_codes 4 = .ok (.iload_n 2, 1) := by decide +kernel
theorem dX7_codes_5 : decode cX7_codes 5 = .ok (.iload_n 0, 1) := by decide +kernel
theorem dX7_codes_6 : decode cX7_codes 6 = .ok (.if_icmp .ge 13, 3) := by decide +kernel
theorem dX7_codes_9 : decode cX7_codes 9 = .ok (.iload_n 1, 1) := by decide +kernel
theorem dX7_codes_10 : decode cX7_codes 10 = .ok (.iconst 5, 1) := by decide +kernel
theorem dX7_codes_11 : decode cX7_codes 11 = .ok (.imul, 1) := by decide +kernel
theorem dX7_codes_12 : decode cX7_codes 12 = .ok (.istore_n 1, 1) := by decide +kernel
theorem dX7_codes_13 : decode cX7_codes 13 = .ok (.iinc 2 1, 3) := by decide +kernel
theorem dX7_codes_16 : decode cX7_codes 16 = .ok (.goto (-12), 3) := by decide +kernel
theorem dX7_codes_19 : decode cX7_codes 19 = .ok (.iload_n 1, 1) := by decide +kernel
theorem dX7_codes_20 : decode cX7_codes 20 = .ok (.ireturn, 1) := by decide +kernel
theorem dX7_layFalls_0 : decode cX7_layFalls 0 = .ok (.aload_n 0, 1) := by decide +kernel
theorem dX7_layFalls_1 : decode cX7_layFalls 1 = .ok (.invokevirtual 229, 3) := by decide +kernel
theorem dX7_layFalls_4 : decode cX7_layFalls 4 = .ok (.iconst 0, 1) := by decide +kernel
theorem dX7_layFalls_5 : decode cX7_layFalls 5 = .ok (.istore_n 3, 1) := by decide +kernel
theorem dX7_layFalls_6 : decode cX7_layFalls 6 = .ok (.iload_n 3, 1) := by decide +kernel
theorem dX7_layFalls_7 : decode cX7_layFalls 7 = .ok (.aload_n 0, 1) := by decide +kernel
theorem dX7_layFalls_8 : decode cX7_layFalls 8 = .ok (.getfield 39, 3) := by decide +kernel
theorem dX7_layFalls_11 : decode cX7_layFalls 11 = .ok (.iconst 0, 1) := by decide +kernel
theorem dX7_layFalls_12 : decode cX7_layFalls 12 = .ok (.iaload, 1) := by decide +kernel
theorem dX7_layFalls_13 : decode cX7_layFalls 13 = .ok (.if_icmp .ge 35, 3) := by decide +kernel
theorem dX7_layFalls_16 : decode cX7_layFalls 16 = .ok (.aload_n 0, 1) := by decide +kernel
theorem dX7_layFalls_17 : decode cX7_layFalls 17 = .ok (.getfield 39, 3) := by decide +kernel
theorem dX7_layFalls_20 : decode cX7_layFalls 20 = .ok (.bipush 24, 2) := by decide +kernel
theorem dX7_layFalls_22 : decode cX7_layFalls 22 = .ok (.iload_n 3, 1) := by decide +kernel
theorem dX7_layFalls_23 : decode cX7_layFalls 23 = .ok (.iadd, 1) := by decide +kernel
theorem dX7_layFalls_24 : decode cX7_layFalls 24 = .ok (.iload_n 2, 1) := by decide +kernel
theorem dX7_layFalls_25 : decode cX7_layFalls 25 = .ok (.ifCond .ge 15, 3) := by decide +kernel
theorem dX7_layFalls_28 : decode cX7_layFalls 28 = .ok (.aload_n 0, 1) := by decide +kernel
theorem dX7_layFalls_29 : decode cX7_layFalls 29 = .ok (.getfield 39, 3) := by decide +kernel
theorem dX7_layFalls_32 : decode cX7_layFalls 32 = .ok (.bipush 24, 2) := by decide +kernel
theorem dX7_layFalls_34 : decode cX7_layFalls 34 = .ok (.iload_n 3, 1) := by decide +kernel
theorem dX7_layFalls_35 : decode cX7_layFalls 35 = .ok (.iadd, 1) := by decide +kernel
theorem dX7_layFalls_36 : decode cX7_layFalls 36 = .ok (.iaload, 1) := by decide +kernel
theorem dX7_layFalls_37 : decode cX7_layFalls 37 = .ok (.goto 4, 3) := by decide +kernel
theorem dX7_layFalls_40 : decode cX7_layFalls 40 = .ok (.iload_n 2, 1) := by decide +kernel
theorem dX7_layFalls_41 : decode cX7_layFalls 41 = .ok (.iastore, 1) := by decide +kernel
theorem dX7_layFalls_42 : decode cX7_layFalls 42 = .ok (.iinc 3 1, 3) := by decide +kernel
theorem dX7_layFalls_45 : decode cX7_layFalls 45 = .ok (.goto (-39), 3) := by decide +kernel
theorem dX7_layFalls_48 : decode cX7_layFalls 48 = .ok (.iconst 0, 1) := by decide +kernel
theorem dX7_layFalls_49 : decode cX7_layFalls 49 = .ok (.istore_n 3, 1) := by decide +kernel
theorem dX7_layFalls_50 : decode cX7_layFalls 50 = .ok (.iload_n 3, 1) := by decide +kernel
theorem dX7_layFalls_51 : decode cX7_layFalls 51 = .ok (.iload_n 1, 1) := by decide +kernel
theorem dX7_layFalls_52 : decode cX7_layFalls 52 = .ok (.if_icmp .ge 24, 3) := by decide +kernel
theorem dX7_layFalls_55 : decode cX7_layFalls 55 = .ok (.aload_n 0, 1) := by decide +kernel
theorem dX7_layFalls_56 : decode cX7_layFalls 56 = .ok (.aload_n 0, 1) := by decide +kernel
theorem dX7_layFalls_57 : decode cX7_layFalls 57 = .ok (.getfield 39, 3) := by decide +kernel
theorem dX7_layFalls_60 : decode cX7_layFalls 60 = .ok (.aload_n 0, 1) := by decide +kernel
theorem dX7_layFalls_61 : decode cX7_layFalls 61 = .ok (.getfield 42, 3) := by decide +kernel
theorem dX7_layFalls_64 : decode cX7_layFalls 64 = .ok (.iload_n 3, 1) := by decide +kernel
theorem dX7_layFalls_65 : decode cX7_layFalls 65 = .ok (.iaload, 1) := by decide +kernel
theorem dX7_layFalls_66 : decode cX7_layFalls 66 = .ok (.invokevirtual 202, 3) := by decide +kernel
theorem dX7_layFalls_69 : decode cX7_layFalls 69 = .ok (.pop, 1) := by decide +kernel
theorem dX7_layFalls_70 : decode cX7_layFalls 70 = .ok (.iinc 3 1, 3) := by decide +kernel
theorem dX7_layFalls_73 : decode cX7_layFalls 73 = .ok (.goto (-23), 3) := by decide +kernel
theorem dX7_layFalls_76 : decode cX7_layFalls 76 = .ok (.return_, 1) := by decide +kernel
theorem dX7_orders_0 : decode cX7_orders 0 = .ok (.iload_n 1, 1) := by decide +kernel
theorem dX7_orders_1 : decode cX7_orders 1 = .ok (.i2l, 1) := by decide +kernel
theorem dX7_orders_2 : decode cX7_orders 2 = .ok (.lconst 0, 1) := by decide +kernel
theorem dX7_orders_3 : decode cX7_orders 3 = .ok (.iconst 1, 1) := by decide +kernel
theorem dX7_orders_4 : decode cX7_orders 4 = .ok (.aload_n 0, 1) := by decide +kernel
theorem dX7_orders_5 : decode cX7_orders 5 = .ok (.getfield 7, 3) := by decide +kernel
theorem dX7_orders_8 : decode cX7_orders 8 = .ok (.iconst 0, 1) := by decide +kernel
theorem dX7_orders_9 : decode cX7_orders 9 = .ok (.iaload, 1) := by decide +kernel
theorem dX7_orders_10 : decode cX7_orders 10 = .ok (.ishl, 1) := by decide +kernel
theorem dX7_orders_11 : decode cX7_orders 11 = .ok (.iconst 1, 1) := by decide +kernel
theorem dX7_orders_12 : decode cX7_orders 12 = .ok (.isub, 1) := by decide +kernel
theorem dX7_orders_13 : decode cX7_orders 13 = .ok (.i2l, 1) := by decide +kernel
theorem dX7_orders_14 : decode cX7_orders 14 = .ok (.invokestatic 51, 3) := by decide +kernel
theorem dX7_orders_17 : decode cX7_orders 17 = .ok (.ifCond .eq 21, 3) := by decide +kernel
theorem dX7_orders_20 : decode cX7_orders 20 = .ok (.iload_n 1, 1) := by decide +kernel
theorem dX7_orders_21 : decode cX7_orders 21 = .ok (.aload_n 0, 1) := by decide +kernel
theorem dX7_orders_22 : decode cX7_orders 22 = .ok (.getfield 7, 3) := by decide +kernel
theorem dX7_orders_25 : decode cX7_orders 25 = .ok (.invokestatic 217, 3) := by decide +kernel
theorem dX7_orders_28 : decode cX7_orders 28 = .ok (.iconst (-1), 1) := by decide +kernel
theorem dX7_orders_29 : decode cX7_orders 29 = .ok (.ixor, 1) := by decide +kernel
theorem dX7_orders_30 : decode cX7_orders 30 = .ok (.iand, 1) := by decide +kernel
theorem dX7_orders_31 : decode cX7_orders 31 = .ok (.ifCond .ne 7, 3) := by decide +kernel
theorem dX7_orders_34 : decode cX7_orders 34 = .ok (.iconst 1, 1) := by decide +kernel
theorem dX7_orders_35 : decode cX7_orders 35 = .ok (.goto 4, 3) := by decide +kernel
theorem dX7_orders_38 : decode cX7_orders 38 = .ok (.iconst 0, 1) := by decide +kernel
theorem dX7_orders_39 : decode cX7_orders 39 = .ok (.istore 5, 2) := by decide +kernel
theorem dX7_orders_41 : decode cX7_orders 41 = .ok (.iload 5, 2) := by decide +kernel
theorem dX7_orders_43 : decode cX7_orders 43 = .ok (.ifCond .eq 30, 3) := by decide +kernel
theorem dX7_orders_46 : decode cX7_orders 46 = .ok (.aload_n 0, 1) := by decide +kernel
theorem dX7_orders_47 : decode cX7_orders 47 = .ok (.iload_n 2, 1) := by decide +kernel
theorem dX7_orders_48 : decode cX7_orders 48 = .ok (.invokevirtual 221, 3) := by decide +kernel
theorem dX7_orders_51 : decode cX7_orders 51 = .ok (.ifCond .eq 22, 3) := by decide +kernel
theorem dX7_orders_54 : decode cX7_orders 54 = .ok (.iload_n 3, 1) := by decide +kernel
theorem dX7_orders_55 : decode cX7_orders 55 = .ok (.iconst (-1), 1) := by decide +kernel
theorem dX7_orders_56 : decode cX7_orders 56 = .ok (.if_icmp .eq 11, 3) := by decide +kernel
theorem dX7_orders_59 : decode cX7_orders 59 = .ok (.aload_n 0, 1) := by decide +kernel
theorem dX7_orders_60 : decode cX7_orders 60 = .ok (.iload_n 3, 1) := by decide +kernel
theorem dX7_orders_61 : decode cX7_orders 61 = .ok (.invokevirtual 61, 3) := by decide +kernel
theorem dX7_orders_64 : decode cX7_orders 64 = .ok (.ifCond .eq 9, 3) := by decide +kernel
theorem dX7_orders_67 : decode cX7_orders 67 = .ok (.iload 4, 2) := by decide +kernel
theorem dX7_orders_69 : decode cX7_orders 69 = .ok (.iconst (-1), 1) := by decide +kernel
theorem dX7_orders_70 : decode cX7_orders 70 = .ok (.if_icmp .ge 10, 3) := by decide +kernel
theorem dX7_orders_73 : decode cX7_orders 73 = .ok (.aload_n 0, 1) := by decide +kernel
theorem dX7_orders_74 : decode cX7_orders 74 = .ok (.bipush (-10), 2) := by decide +kernel
theorem dX7_orders_76 : decode cX7_orders 76 = .ok (.invokevirtual 99, 3) := by decide +kernel
theorem dX7_orders_79 : decode cX7_orders 79 = .ok (.ireturn, 1) := by decide +kernel
theorem dX7_orders_80 : decode cX7_orders 80 = .ok (.iload_n 1, 1) := by decide +kernel
theorem dX7_orders_81 : decode cX7_orders 81 = .ok (.invokestatic 185, 3) := by decide +kernel
theorem dX7_orders_84 : decode cX7_orders 84 = .ok (.istore 6, 2) := by decide +kernel
theorem dX7_orders_86 : decode cX7_orders 86 = .ok (.iconst 0, 1) := by decide +kernel
theorem dX7_orders_87 : decode cX7_orders 87 = .ok (.istore 7, 2) := by decide +kernel
theorem dX7_orders_89 : decode cX7_orders 89 = .ok (.iconst (-1), 1) := by decide +kernel
theorem dX7_orders_90 : decode cX7_orders 90 = .ok (.istore 8, 2) := by decide +kernel
theorem dX7_orders_92 : decode cX7_orders 92 = .ok (.iload 6, 2) := by decide +kernel
theorem dX7_orders_94 : decode cX7_orders 94 = .ok (.invokestatic 245, 3) := by decide +kernel
theorem dX7_orders_97 : decode cX7_orders 97 = .ok (.iconst 1, 1) := by decide +kernel
theorem dX7_orders_98 : decode cX7_orders 98 = .ok (.isub, 1) := by decide +kernel
theorem dX7_orders_99 : decode cX7_orders 99 = .ok (.istore 9, 2) := by decide +kernel
theorem dX7_orders_101 : decode cX7_orders 101 = .ok (.iload 9, 2) := by decide +kernel
theorem dX7_orders_103 : decode cX7_orders 103 = .ok (.ifCond .lt 77, 3) := by decide +kernel
theorem dX7_orders_106 : decode cX7_orders 106 = .ok (.aload_n 0, 1) := by decide +kernel
theorem dX7_orders_107 : decode cX7_orders 107 = .ok (.iload 9, 2) := by decide +kernel
theorem dX7_orders_109 : decode cX7_orders 109 = .ok (.iload 6, 2) := by decide +kernel
theorem dX7_orders_111 : decode cX7_orders 111 = .ok (.iload_n 1, 1) := by decide +kernel
theorem dX7_orders_112 : decode cX7_orders 112 = .ok (.invokevirtual 248, 3) := by decide +kernel
theorem dX7_orders_115 : decode cX7_orders 115 = .ok (.ifCond .eq 59, 3) := by decide +kernel
theorem dX7_orders_118 : decode cX7_orders 118 = .ok (.aload_n 0, 1) := by decide +kernel
theorem dX7_orders_119 : decode cX7_orders 119 = .ok (.iload 6, 2) := by decide +kernel
theorem dX7_orders_121 : decode cX7_orders 121 = .ok (.iconst (-1), 1) := by decide +kernel
theorem dX7_orders_122 : decode cX7_orders 122 = .ok (.invokevirtual 252, 3) := by decide +kernel
theorem dX7_orders_125 : decode cX7_orders 125 = .ok (.aload_n 0, 1) := by decide +kernel
theorem dX7_orders_126 : decode cX7_orders 126 = .ok (.getfield 39, 3) := by decide +kernel
theorem dX7_orders_129 : decode cX7_orders 129 = .ok (.bipush 70, 2) := by decide +kernel
theorem dX7_orders_131 : decode cX7_orders 131 = .ok (.iload_n 2, 1) := by decide +kernel
theorem dX7_orders_132 : decode cX7_orders 132 = .ok (.iadd, 1) := by decide +kernel
theorem dX7_orders_133 : decode cX7_orders 133 = .ok (.iaload, 1) := by decide +kernel
theorem dX7_orders_134 : decode cX7_orders 134 = .ok (.iload_n 3, 1) := by decide +kernel
theorem dX7_orders_135 : decode cX7_orders 135 = .ok (.if_icmp .ne 7, 3) := by decide +kernel
theorem dX7_orders_138 : decode cX7_orders 138 = .ok (.iconst 1, 1) := by decide +kernel
theorem dX7_orders_139 : decode cX7_orders 139 = .ok (.goto 4, 3) := by decide +kernel
theorem dX7_orders_142 : decode cX7_orders 142 = .ok (.iconst 0, 1) := by decide +kernel
theorem dX7_orders_143 : decode cX7_orders 143 = .ok (.istore 10, 2) := by decide +kernel
theorem dX7_orders_145 : decode cX7_orders 145 = .ok (.iload 7, 2) := by decide +kernel
theorem dX7_orders_147 : decode cX7_orders 147 = .ok (.iload 10, 2) := by decide +kernel
theorem dX7_orders_149 : decode cX7_orders 149 = .ok (.ifCond .eq 7, 3) := by decide +kernel
theorem dX7_orders_152 : decode cX7_orders 152 = .ok (.iconst 1, 1) := by decide +kernel
theorem dX7_orders_153 : decode cX7_orders 153 = .ok (.goto 4, 3) := by decide +kernel
theorem dX7_orders_156 : decode cX7_orders 156 = .ok (.iconst 0, 1) := by decide +kernel
theorem dX7_orders_157 : decode cX7_orders 157 = .ok (.iadd, 1) := by decide +kernel
theorem dX7_orders_158 : decode cX7_orders 158 = .ok (.istore 7, 2) := by decide +kernel
theorem dX7_orders_160 : decode cX7_orders 160 = .ok (.iload 10, 2) := by decide +kernel
theorem dX7_orders_162 : decode cX7_orders 162 = .ok (.ifCond .eq 8, 3) := by decide +kernel
theorem dX7_orders_165 : decode cX7_orders 165 = .ok (.iload 9, 2) := by decide +kernel
theorem dX7_orders_167 : decode cX7_orders 167 = .ok (.goto 5, 3) := by decide +kernel
theorem dX7_orders_170 : decode cX7_orders 170 = .ok (.iload 8, 2) := by decide +kernel
theorem dX7_orders_172 : decode cX7_orders 172 = .ok (.istore 8, 2) := by decide +kernel
theorem dX7_orders_174 : decode cX7_orders 174 = .ok (.iinc 9 (-1), 3) := by decide +kernel
theorem dX7_orders_177 : decode cX7_orders 177 = .ok (.goto (-76), 3) := by decide +kernel
theorem dX7_orders_180 : decode cX7_orders 180 = .ok (.iload 4, 2) := by decide +kernel
theorem dX7_orders_182 : decode cX7_orders 182 = .ok (.iconst (-1), 1) := by decide +kernel
theorem dX7_orders_183 : decode cX7_orders 183 = .ok (.if_icmp .ne 6, 3) := by decide +kernel
theorem dX7_orders_186 : decode cX7_orders 186 = .ok (.iload 7, 2) := by decide +kernel
theorem dX7_orders_188 : decode cX7_orders 188 = .ok (.ireturn, 1) := by decide +kernel
theorem dX7_orders_189 : decode cX7_orders 189 = .ok (.iload 7, 2) := by decide +kernel
theorem dX7_orders_191 : decode cX7_orders 191 = .ok (.ifCond .ne 5, 3) := by decide +kernel
theorem dX7_orders_194 : decode cX7_orders 194 = .ok (.iconst (-1), 1) := by decide +kernel
theorem dX7_orders_195 : decode cX7_orders 195 = .ok (.ireturn, 1) := by decide +kernel
theorem dX7_orders_196 : decode cX7_orders 196 = .ok (.aload_n 0, 1) := by decide +kernel
theorem dX7_orders_197 : decode cX7_orders 197 = .ok (.iload 8, 2) := by decide +kernel
theorem dX7_orders_199 : decode cX7_orders 199 = .ok (.iload 6, 2) := by decide +kernel
theorem dX7_orders_201 : decode cX7_orders 201 = .ok (.iload_n 1, 1) := by decide +kernel
theorem dX7_orders_202 : decode cX7_orders 202 = .ok (.invokevirtual 248, 3) := by decide +kernel
theorem dX7_orders_205 : decode cX7_orders 205 = .ok (.istore 9, 2) := by decide +kernel
theorem dX7_orders_207 : decode cX7_orders 207 = .ok (.iload 9, 2) := by decide +kernel
theorem dX7_orders_209 : decode cX7_orders 209 = .ok (.ifCond .eq 20, 3) := by decide +kernel
theorem dX7_orders_212 : decode cX7_orders 212 = .ok (.iload 4, 2) := by decide +kernel
theorem dX7_orders_214 : decode cX7_orders 214 = .ok (.iload 6, 2) := by decide +kernel
theorem dX7_orders_216 : decode cX7_orders 216 = .ok (.if_icmp .ge 13, 3) := by decide +kernel
theorem dX7_orders_219 : decode cX7_orders 219 = .ok (.aload_n 0, 1) := by decide +kernel
theorem dX7_orders_220 : decode cX7_orders 220 = .ok (.getfield 42, 3) := by decide +kernel
theorem dX7_orders_223 : decode cX7_orders 223 = .ok (.iload 4, 2) := by decide +kernel
theorem dX7_orders_225 : decode cX7_orders 225 = .ok (.iaload, 1) := by decide +kernel
theorem dX7_orders_226 : decode cX7_orders 226 = .ok (.goto 5, 3) := by decide +kernel
theorem dX7_orders_229 : decode cX7_orders 229 = .ok (.bipush (-5), 2) := by decide +kernel
theorem dX7_orders_231 : decode cX7_orders 231 = .ok (.ireturn, 1) := by decide +kernel
theorem dX7_isSafe_0 : decode cX7_isSafe 0 = .ok (.aload_n 0, 1) := by decide +kernel
theorem dX7_isSafe_1 : decode cX7_isSafe 1 = .ok (.getfield 7, 3) := by decide +kernel
theorem dX7_isSafe_4 : decode cX7_isSafe 4 = .ok (.invokestatic 217, 3) := by decide +kernel
theorem dX7_isSafe_7 : decode cX7_isSafe 7 = .ok (.istore_n 3, 1) := by decide +kernel
theorem dX7_isSafe_8 : decode cX7_isSafe 8 = .ok (.iload_n 3, 1) := by decide +kernel
theorem dX7_isSafe_9 : decode cX7_isSafe 9 = .ok (.invokestatic 185, 3) := by decide +kernel
theorem dX7_isSafe_12 : decode cX7_isSafe 12 = .ok (.istore 4, 2) := by decide +kernel
theorem dX7_isSafe_14 : decode cX7_isSafe 14 = .ok (.iconst 1, 1) := by decide +kernel
theorem dX7_isSafe_15 : decode cX7_isSafe 15 = .ok (.istore 5, 2) := by decide +kernel
theorem dX7_isSafe_17 : decode cX7_isSafe 17 = .ok (.iconst 0, 1) := by decide +kernel
theorem dX7_isSafe_18 : decode cX7_isSafe 18 = .ok (.istore 6, 2) := by decide +kernel
theorem dX7_isSafe_20 : decode cX7_isSafe 20 = .ok (.iload 6, 2) := by decide +kernel
theorem dX7_isSafe_22 : decode cX7_isSafe 22 = .ok (.iload 4, 2) := by decide +kernel
theorem dX7_isSafe_24 : decode cX7_isSafe 24 = .ok (.invokestatic 245, 3) := by decide +kernel
theorem dX7_isSafe_27 : decode cX7_isSafe 27 = .ok (.if_icmp .ge 55, 3) := by decide +kernel
theorem dX7_isSafe_30 : decode cX7_isSafe 30 = .ok (.iload 5, 2) := by decide +kernel
theorem dX7_isSafe_32 : decode cX7_isSafe 32 = .ok (.ifCond .eq 50, 3) := by decide +kernel
theorem dX7_isSafe_35 : decode cX7_isSafe 35 = .ok (.aload_n 0, 1) := by decide +kernel
theorem dX7_isSafe_36 : decode cX7_isSafe 36 = .ok (.iload 6, 2) := by decide +kernel
theorem dX7_isSafe_38 : decode cX7_isSafe 38 = .ok (.iload 4, 2) := by decide +kernel
theorem dX7_isSafe_40 : decode cX7_isSafe 40 = .ok (.iload_n 3, 1) := by decide +kernel
theorem dX7_isSafe_41 : decode cX7_isSafe 41 = .ok (.invokevirtual 248, 3) := by decide +kernel
theorem dX7_isSafe_44 : decode cX7_isSafe 44 = .ok (.ifCond .eq 32, 3) := by decide +kernel
theorem dX7_isSafe_47 : decode cX7_isSafe 47 = .ok (.aload_n 0, 1) := by decide +kernel
theorem dX7_isSafe_48 : decode cX7_isSafe 48 = .ok (.iload 4, 2) := by decide +kernel
theorem dX7_isSafe_50 : decode cX7_isSafe 50 = .ok (.iconst 1, 1) := by decide +kernel
theorem dX7_isSafe_51 : decode cX7_isSafe 51 = .ok (.isub, 1) := by decide +kernel
theorem dX7_isSafe_52 : decode cX7_isSafe 52 = .ok (.iload_n 2, 1) := by decide +kernel
theorem dX7_isSafe_53 : decode cX7_isSafe 53 = .ok (.invokevirtual 252, 3) := by decide +kernel
theorem dX7_isSafe_56 : decode cX7_isSafe 56 = .ok (.aload_n 0, 1) := by decide +kernel
theorem dX7_isSafe_57 : decode cX7_isSafe 57 = .ok (.getfield 39, 3) := by decide +kernel
theorem dX7_isSafe_60 : decode cX7_isSafe 60 = .ok (.bipush 70, 2) := by decide +kernel
theorem dX7_isSafe_62 : decode cX7_isSafe 62 = .ok (.iload_n 1, 1) := by decide +kernel
theorem dX7_isSafe_63 : decode cX7_isSafe 63 = .ok (.iadd, 1) := by decide +kernel
theorem dX7_isSafe_64 : decode cX7_isSafe 64 = .ok (.iaload, 1) := by decide +kernel
theorem dX7_isSafe_65 : decode cX7_isSafe 65 = .ok (.iconst (-1), 1) := by decide +kernel
theorem dX7_isSafe_66 : decode cX7_isSafe 66 = .ok (.if_icmp .eq 7, 3) := by decide +kernel
theorem dX7_isSafe_69 : decode cX7_isSafe 69 = .ok (.iconst 1, 1) := by decide +kernel
theorem dX7_isSafe_70 : decode cX7_isSafe 70 = .ok (.goto 4, 3) := by decide +kernel
theorem dX7_isSafe_73 : decode cX7_isSafe 73 = .ok (.iconst 0, 1) := by decide +kernel
theorem dX7_isSafe_74 : decode cX7_isSafe 74 = .ok (.istore 5, 2) := by decide +kernel
theorem dX7_isSafe_76 : decode cX7_isSafe 76 = .ok (.iinc 6 1, 3) := by decide +kernel
theorem dX7_isSafe_79 : decode cX7_isSafe 79 = .ok (.goto (-59), 3) := by decide +kernel
theorem dX7_isSafe_82 : decode cX7_isSafe 82 = .ok (.iload 5, 2) := by decide +kernel
theorem dX7_isSafe_84 : decode cX7_isSafe 84 = .ok (.ireturn, 1) := by decide +kernel
theorem dX7_safe_0 : decode cX7_safe 0 = .ok (.aload_n 0, 1) := by decide +kernel
theorem dX7_safe_1 : decode cX7_safe 1 = .ok (.iload_n 1, 1) := by decide +kernel
theorem dX7_safe_2 : decode cX7_safe 2 = .ok (.invokevirtual 221, 3) := by decide +kernel
theorem dX7_safe_5 : decode cX7_safe 5 = .ok (.ifCond .ne 10, 3) := by decide +kernel
theorem dX7_safe_8 : decode cX7_safe 8 = .ok (.aload_n 0, 1) := by decide +kernel
theorem dX7_safe_9 : decode cX7_safe 9 = .ok (.bipush (-2), 2) := by decide +kernel
theorem dX7_safe_11 : decode cX7_safe 11 = .ok (.invokevirtual 99, 3) := by decide +kernel
theorem dX7_safe_14 : decode cX7_safe 14 = .ok (.ireturn, 1) := by decide +kernel
theorem dX7_safe_15 : decode cX7_safe 15 = .ok (.iconst 0, 1) := by decide +kernel
theorem dX7_safe_16 : decode cX7_safe 16 = .ok (.istore_n 2, 1) := by decide +kernel
theorem dX7_safe_17 : decode cX7_safe 17 = .ok (.iconst 0, 1) := by decide +kernel
theorem dX7_safe_18 : decode cX7_safe 18 = .ok (.istore_n 3, 1) := by decide +kernel
theorem dX7_safe_19 : decode cX7_safe 19 = .ok (.iload_n 3, 1) := by decide +kernel
theorem dX7_safe_20 : decode cX7_safe 20 = .ok (.iconst 5, 1) := by decide +kernel
theorem dX7_safe_21 : decode cX7_safe 21 = .ok (.if_icmp .gt 38, 3) := by decide +kernel
theorem dX7_safe_24 : decode cX7_safe 24 = .ok (.iload_n 2, 1) := by decide +kernel
theorem dX7_safe_25 : decode cX7_safe 25 = .ok (.aload_n 0, 1) := by decide +kernel
theorem dX7_safe_26 : decode cX7_safe 26 = .ok (.getfield 7, 3) := by decide +kernel
theorem dX7_safe_29 : decode cX7_safe 29 = .ok (.invokestatic 217, 3) := by decide +kernel
theorem dX7_safe_32 : decode cX7_safe 32 = .ok (.ifCond .eq 12, 3) := by decide +kernel
theorem dX7_safe_35 : decode cX7_safe 35 = .ok (.aload_n 0, 1) := by decide +kernel
theorem dX7_safe_36 : decode cX7_safe 36 = .ok (.iload_n 1, 1) := by decide +kernel
theorem dX7_safe_37 : decode cX7_safe 37 = .ok (.iload_n 3, 1) := by decide +kernel
theorem dX7_safe_38 : decode cX7_safe 38 = .ok (.invokevirtual 255, 3) := by decide +kernel
theorem dX7_safe_41 : decode cX7_safe 41 = .ok (.ifCond .eq 9, 3) := by decide +kernel
theorem dX7_safe_44 : decode cX7_safe 44 = .ok (.iconst 1, 1) := by decide +kernel
theorem dX7_safe_45 : decode cX7_safe 45 = .ok (.iload_n 3, 1) := by decide +kernel
theorem dX7_safe_46 : decode cX7_safe 46 = .ok (.ishl, 1) := by decide +kernel
theorem dX7_safe_47 : decode cX7_safe 47 = .ok (.goto 4, 3) := by decide +kernel
theorem dX7_safe_50 : decode cX7_safe 50 = .ok (.iconst 0, 1) := by decide +kernel
theorem dX7_safe_51 : decode cX7_safe 51 = .ok (.ior, 1) := by decide +kernel
theorem dX7_safe_52 : decode cX7_safe 52 = .ok (.istore_n 2, 1) := by decide +kernel
theorem dX7_safe_53 : decode cX7_safe 53 = .ok (.iinc 3 1, 3) := by decide +kernel
theorem dX7_safe_56 : decode cX7_safe 56 = .ok (.goto (-37), 3) := by decide +kernel
theorem dX7_safe_59 : decode cX7_safe 59 = .ok (.iload_n 2, 1) := by decide +kernel
theorem dX7_safe_60 : decode cX7_safe 60 = .ok (.ireturn, 1) := by decide +kernel
theorem dX7_layHomes_0 : decode cX7_layHomes 0 = .ok (.iload_n 1, 1) := by decide +kernel
theorem dX7_layHomes_1 : decode cX7_layHomes 1 = .ok (.istore_n 2, 1) := by decide +kernel
theorem dX7_layHomes_2 : decode cX7_layHomes 2 = .ok (.aload_n 0, 1) := by decide +kernel
theorem dX7_layHomes_3 : decode cX7_layHomes 3 = .ok (.getfield 7, 3) := by decide +kernel
theorem dX7_layHomes_6 : decode cX7_layHomes 6 = .ok (.iconst 1, 1) := by decide +kernel
theorem dX7_layHomes_7 : decode cX7_layHomes 7 = .ok (.iaload, 1) := by decide +kernel
theorem dX7_layHomes_8 : decode cX7_layHomes 8 = .ok (.iconst 1, 1) := by decide +kernel
theorem dX7_layHomes_9 : decode cX7_layHomes 9 = .ok (.isub, 1) := by decide +kernel
theorem dX7_layHomes_10 : decode cX7_layHomes 10 = .ok (.istore_n 3, 1) := by decide +kernel
theorem dX7_layHomes_11 : decode cX7_layHomes 11 = .ok (.iload_n 3, 1) := by decide +kernel
theorem dX7_layHomes_12 : decode cX7_layHomes 12 = .ok (.ifCond .lt 22, 3) := by decide +kernel
theorem dX7_layHomes_15 : decode cX7_layHomes 15 = .ok (.aload_n 0, 1) := by decide +kernel
theorem dX7_layHomes_16 : decode cX7_layHomes 16 = .ok (.getfield 45, 3) := by decide +kernel
theorem dX7_layHomes_19 : decode cX7_layHomes 19 = .ok (.iload_n 3, 1) := by decide +kernel
theorem dX7_layHomes_20 : decode cX7_layHomes 20 = .ok (.iload_n 2, 1) := by decide +kernel
theorem dX7_layHomes_21 : decode cX7_layHomes 21 = .ok (.iconst 5, 1) := by decide +kernel
theorem dX7_layHomes_22 : decode cX7_layHomes 22 = .ok (.irem, 1) := by decide +kernel
theorem dX7_layHomes_23 : decode cX7_layHomes 23 = .ok (.iastore, 1) := by decide +kernel
theorem dX7_layHomes_24 : decode cX7_layHomes 24 = .ok (.iload_n 2, 1) := by decide +kernel
theorem dX7_layHomes_25 : decode cX7_layHomes 25 = .ok (.iconst 5, 1) := by decide +kernel
theorem dX7_layHomes_26 : decode cX7_layHomes 26 = .ok (.idiv, 1) := by decide +kernel
theorem dX7_layHomes_27 : decode cX7_layHomes 27 = .ok (.istore_n 2, 1) := by decide +kernel
theorem dX7_layHomes_28 : decode cX7_layHomes 28 = .ok (.iinc 3 (-1), 3) := by decide +kernel
theorem dX7_layHomes_31 : decode cX7_layHomes 31 = .ok (.goto (-20), 3) := by decide +kernel
theorem dX7_layHomes_34 : decode cX7_layHomes 34 = .ok (.return_, 1) := by decide +kernel
theorem dX7_moving_0 : decode cX7_moving 0 = .ok (.aload_n 0, 1) := by decide +kernel
theorem dX7_moving_1 : decode cX7_moving 1 = .ok (.invokevirtual 229, 3) := by decide +kernel
theorem dX7_moving_4 : decode cX7_moving 4 = .ok (.iconst 0, 1) := by decide +kernel
theorem dX7_moving_5 : decode cX7_moving 5 = .ok (.istore_n 1, 1) := by decide +kernel
theorem dX7_moving_6 : decode cX7_moving 6 = .ok (.iconst 1, 1) := by decide +kernel
theorem dX7_moving_7 : decode cX7_moving 7 = .ok (.istore_n 2, 1) := by decide +kernel
theorem dX7_moving_8 : decode cX7_moving 8 = .ok (.iconst 0, 1) := by decide +kernel
theorem dX7_moving_9 : decode cX7_moving 9 = .ok (.istore_n 3, 1) := by decide +kernel
theorem dX7_moving_10 : decode cX7_moving 10 = .ok (.iload_n 3, 1) := by decide +kernel
theorem dX7_moving_11 : decode cX7_moving 11 = .ok (.aload_n 0, 1) := by decide +kernel
theorem dX7_moving_12 : decode cX7_moving 12 = .ok (.getfield 7, 3) := by decide +kernel
theorem dX7_moving_15 : decode cX7_moving 15 = .ok (.iconst 1, 1) := by decide +kernel
theorem dX7_moving_16 : decode cX7_moving 16 = .ok (.iaload, 1) := by decide +kernel
theorem dX7_moving_17 : decode cX7_moving 17 = .ok (.if_icmp .ge 91, 3) := by decide +kernel
theorem dX7_moving_20 : decode cX7_moving 20 = .ok (.iload_n 2, 1) := by decide +kernel
theorem dX7_moving_21 : decode cX7_moving 21 = .ok (.ifCond .eq 38, 3) := by decide +kernel
theorem dX7_moving_24 : decode cX7_moving 24 = .ok (.aload_n 0, 1) := by decide +kernel
theorem dX7_moving_25 : decode cX7_moving 25 = .ok (.aload_n 0, 1) := by decide +kernel
theorem dX7_moving_26 : decode cX7_moving 26 = .ok (.getfield 45, 3) := by decide +kernel
theorem dX7_moving_29 : decode cX7_moving 29 = .ok (.iload_n 3, 1) := by decide +kernel
theorem dX7_moving_30 : decode cX7_moving 30 = .ok (.iaload, 1) := by decide +kernel
theorem dX7_moving_31 : decode cX7_moving 31 = .ok (.invokevirtual 61, 3) := by decide +kernel
theorem dX7_moving_34 : decode cX7_moving 34 = .ok (.ifCond .eq 25, 3) := by decide +kernel
theorem dX7_moving_37 : decode cX7_moving 37 = .ok (.aload_n 0, 1) := by decide +kernel
theorem dX7_moving_38 : decode cX7_moving 38 = .ok (.getfield 7, 3) := by decide +kernel
theorem dX7_moving_41 : decode cX7_moving 41 = .ok (.bipush 29, 2) := by decide +kernel
theorem dX7_moving_43 : decode cX7_moving 43 = .ok (.aload_n 0, 1) := by decide +kernel
theorem dX7_moving_44 : decode cX7_moving 44 = .ok (.getfield 45, 3) := by decide +kernel
theorem dX7_moving_47 : decode cX7_moving 47 = .ok (.iload_n 3, 1) := by decide +kernel
theorem dX7_moving_48 : decode cX7_moving 48 = .ok (.iaload, 1) := by decide +kernel
theorem dX7_moving_49 : decode cX7_moving 49 = .ok (.iadd, 1) := by decide +kernel
theorem dX7_moving_50 : decode cX7_moving 50 = .ok (.iaload, 1) := by decide +kernel
theorem dX7_moving_51 : decode cX7_moving 51 = .ok (.iconst 1, 1) := by decide +kernel
theorem dX7_moving_52 : decode cX7_moving 52 = .ok (.if_icmp .ne 7, 3) := by decide +kernel
theorem dX7_moving_55 : decode cX7_moving 55 = .ok (.iconst 1, 1) := by decide +kernel
theorem dX7_moving_56 : decode cX7_moving 56 = .ok (.goto 4, 3) := by decide +kernel
theorem dX7_moving_59 : decode cX7_moving 59 = .ok (.iconst 0, 1) := by decide +kernel
theorem dX7_moving_60 : decode cX7_moving 60 = .ok (.istore_n 2, 1) := by decide +kernel
theorem dX7_moving_61 : decode cX7_moving 61 = .ok (.iload_n 1, 1) := by decide +kernel
theorem dX7_moving_62 : decode cX7_moving 62 = .ok (.aload_n 0, 1) := by decide +kernel
theorem dX7_moving_63 : decode cX7_moving 63 = .ok (.getfield 7, 3) := by decide +kernel
theorem dX7_moving_66 : decode cX7_moving 66 = .ok (.bipush 70, 2) := by decide +kernel
theorem dX7_moving_68 : decode cX7_moving 68 = .ok (.iload_n 3, 1) := by decide +kernel
theorem dX7_moving_69 : decode cX7_moving 69 = .ok (.iadd, 1) := by decide +kernel
theorem dX7_moving_70 : decode cX7_moving 70 = .ok (.iaload, 1) := by decide +kernel
theorem dX7_moving_71 : decode cX7_moving 71 = .ok (.aload_n 0, 1) := by decide +kernel
theorem dX7_moving_72 : decode cX7_moving 72 = .ok (.getfield 45, 3) := by decide +kernel
theorem dX7_moving_75 : decode cX7_moving 75 = .ok (.iload_n 3, 1) := by decide +kernel
theorem dX7_moving_76 : decode cX7_moving 76 = .ok (.iaload, 1) := by decide +kernel
theorem dX7_moving_77 : decode cX7_moving 77 = .ok (.if_icmp .ne 7, 3) := by decide +kernel
theorem dX7_moving_80 : decode cX7_moving 80 = .ok (.iconst 0, 1) := by decide +kernel
theorem dX7_moving_81 : decode cX7_moving 81 = .ok (.goto 4, 3) := by decide +kernel
theorem dX7_moving_84 : decode cX7_moving 84 = .ok (.iconst 1, 1) := by decide +kernel
theorem dX7_moving_85 : decode cX7_moving 85 = .ok (.iadd, 1) := by decide +kernel
theorem dX7_moving_86 : decode cX7_moving 86 = .ok (.istore_n 1, 1) := by decide +kernel
theorem dX7_moving_87 : decode cX7_moving 87 = .ok (.aload_n 0, 1) := by decide +kernel
theorem dX7_moving_88 : decode cX7_moving 88 = .ok (.getfield 39, 3) := by decide +kernel
theorem dX7_moving_91 : decode cX7_moving 91 = .ok (.bipush 70, 2) := by decide +kernel
theorem dX7_moving_93 : decode cX7_moving 93 = .ok (.iload_n 3, 1) := by decide +kernel
theorem dX7_moving_94 : decode cX7_moving 94 = .ok (.iadd, 1) := by decide +kernel
theorem dX7_moving_95 : decode cX7_moving 95 = .ok (.aload_n 0, 1) := by decide +kernel
theorem dX7_moving_96 : decode cX7_moving 96 = .ok (.getfield 45, 3) := by decide +kernel
theorem dX7_moving_99 : decode cX7_moving 99 = .ok (.iload_n 3, 1) := by decide +kernel
theorem dX7_moving_100 : decode cX7_moving 100 = .ok (.iaload, 1) := by decide +kernel
theorem dX7_moving_101 : decode cX7_moving 101 = .ok (.iastore, 1) := by decide +kernel
theorem dX7_moving_102 : decode cX7_moving 102 = .ok (.iinc 3 1, 3) := by decide +kernel
theorem dX7_moving_105 : decode cX7_moving 105 = .ok (.goto (-95), 3) := by decide +kernel
theorem dX7_moving_108 : decode cX7_moving 108 = .ok (.iconst 0, 1) := by decide +kernel
theorem dX7_moving_109 : decode cX7_moving 109 = .ok (.istore_n 3, 1) := by decide +kernel
theorem dX7_moving_110 : decode cX7_moving 110 = .ok (.iload_n 3, 1) := by decide +kernel
theorem dX7_moving_111 : decode cX7_moving 111 = .ok (.aload_n 0, 1) := by decide +kernel
theorem dX7_moving_112 : decode cX7_moving 112 = .ok (.getfield 7, 3) := by decide +kernel
theorem dX7_moving_115 : decode cX7_moving 115 = .ok (.iconst 0, 1) := by decide +kernel
theorem dX7_moving_116 : decode cX7_moving 116 = .ok (.iaload, 1) := by decide +kernel
theorem dX7_moving_117 : decode cX7_moving 117 = .ok (.if_icmp .ge 59, 3) := by decide +kernel
theorem dX7_moving_120 : decode cX7_moving 120 = .ok (.iload_n 2, 1) := by decide +kernel
theorem dX7_moving_121 : decode cX7_moving 121 = .ok (.ifCond .eq 55, 3) := by decide +kernel
theorem dX7_moving_124 : decode cX7_moving 124 = .ok (.aload_n 0, 1) := by decide +kernel
theorem dX7_moving_125 : decode cX7_moving 125 = .ok (.getfield 39, 3) := by decide +kernel
theorem dX7_moving_128 : decode cX7_moving 128 = .ok (.iload_n 3, 1) := by decide +kernel
theorem dX7_moving_129 : decode cX7_moving 129 = .ok (.invokestatic 181, 3) := by decide +kernel
theorem dX7_moving_132 : decode cX7_moving 132 = .ok (.istore 4, 2) := by decide +kernel
theorem dX7_moving_134 : decode cX7_moving 134 = .ok (.iload 4, 2) := by decide +kernel
theorem dX7_moving_136 : decode cX7_moving 136 = .ok (.invokestatic 185, 3) := by decide +kernel
theorem dX7_moving_139 : decode cX7_moving 139 = .ok (.aload_n 0, 1) := by decide +kernel
theorem dX7_moving_140 : decode cX7_moving 140 = .ok (.getfield 39, 3) := by decide +kernel
theorem dX7_moving_143 : decode cX7_moving 143 = .ok (.iconst 4, 1) := by decide +kernel
theorem dX7_moving_144 : decode cX7_moving 144 = .ok (.iload_n 3, 1) := by decide +kernel
theorem dX7_moving_145 : decode cX7_moving 145 = .ok (.iadd, 1) := by decide +kernel
theorem dX7_moving_146 : decode cX7_moving 146 = .ok (.iaload, 1) := by decide +kernel
theorem dX7_moving_147 : decode cX7_moving 147 = .ok (.if_icmp .gt 21, 3) := by decide +kernel
theorem dX7_moving_150 : decode cX7_moving 150 = .ok (.aload_n 0, 1) := by decide +kernel
theorem dX7_moving_151 : decode cX7_moving 151 = .ok (.getfield 39, 3) := by decide +kernel
theorem dX7_moving_154 : decode cX7_moving 154 = .ok (.iload 4, 2) := by decide +kernel
theorem dX7_moving_156 : decode cX7_moving 156 = .ok (.iload 4, 2) := by decide +kernel
theorem dX7_moving_158 : decode cX7_moving 158 = .ok (.invokestatic 188, 3) := by decide +kernel
theorem dX7_moving_161 : decode cX7_moving 161 = .ok (.ifCond .ne 7, 3) := by decide +kernel
theorem dX7_moving_164 : decode cX7_moving 164 = .ok (.iconst 1, 1) := by decide +kernel
theorem dX7_moving_165 : decode cX7_moving 165 = .ok (.goto 4, 3) := by decide +kernel
theorem dX7_moving_168 : decode cX7_moving 168 = .ok (.iconst 0, 1) := by decide +kernel
theorem dX7_moving_169 : decode cX7_moving 169 = .ok (.istore_n 2, 1) := by decide +kernel
theorem dX7_moving_170 : decode cX7_moving 170 = .ok (.iinc 3 1, 3) := by decide +kernel
theorem dX7_moving_173 : decode cX7_moving 173 = .ok (.goto (-63), 3) := by decide +kernel
theorem dX7_moving_176 : decode cX7_moving 176 = .ok (.iload_n 2, 1) := by decide +kernel
theorem dX7_moving_177 : decode cX7_moving 177 = .ok (.ifCond .eq 7, 3) := by decide +kernel
theorem dX7_moving_180 : decode cX7_moving 180 = .ok (.iload_n 1, 1) := by decide +kernel
theorem dX7_moving_181 : decode cX7_moving 181 = .ok (.goto 5, 3) := by decide +kernel
theorem dX7_moving_184 : decode cX7_moving 184 = .ok (.ldc 168, 2) := by decide +kernel
theorem dX7_moving_186 : decode cX7_moving 186 = .ok (.ireturn, 1) := by decide +kernel
theorem dX7_moves_0 : decode cX7_moves 0 = .ok (.iload_n 1, 1) := by decide +kernel
theorem dX7_moves_1 : decode cX7_moves 1 = .ok (.iconst (-1), 1) := by decide +kernel
theorem dX7_moves_2 : decode cX7_moves 2 = .ok (.if_icmp .ge 10, 3) := by decide +kernel
theorem dX7_moves_5 : decode cX7_moves 5 = .ok (.aload_n 0, 1) := by decide +kernel
theorem dX7_moves_6 : decode cX7_moves 6 = .ok (.bipush (-10), 2) := by decide +kernel
theorem dX7_moves_8 : decode cX7_moves 8 = .ok (.invokevirtual 99, 3) := by decide +kernel
theorem dX7_moves_11 : decode cX7_moves 11 = .ok (.ireturn, 1) := by decide +kernel
theorem dX7_moves_12 : decode cX7_moves 12 = .ok (.iconst (-1), 1) := by decide +kernel
theorem dX7_moves_13 : decode cX7_moves 13 = .ok (.istore_n 2, 1) := by decide +kernel
theorem dX7_moves_14 : decode cX7_moves 14 = .ok (.ldc 168, 2) := by decide +kernel
theorem dX7_moves_16 : decode cX7_moves 16 = .ok (.istore_n 3, 1) := by decide +kernel
theorem dX7_moves_17 : decode cX7_moves 17 = .ok (.iconst 0, 1) := by decide +kernel
theorem dX7_moves_18 : decode cX7_moves 18 = .ok (.istore 4, 2) := by decide +kernel
theorem dX7_moves_20 : decode cX7_moves 20 = .ok (.iload 4, 2) := by decide +kernel
theorem dX7_moves_22 : decode cX7_moves 22 = .ok (.aload_n 0, 1) := by decide +kernel
theorem dX7_moves_23 : decode cX7_moves 23 = .ok (.getfield 7, 3) := by decide +kernel
theorem dX7_moves_26 : decode cX7_moves 26 = .ok (.iconst 1, 1) := by decide +kernel
theorem dX7_moves_27 : decode cX7_moves 27 = .ok (.iaload, 1) := by decide +kernel
theorem dX7_moves_28 : decode cX7_moves 28 = .ok (.invokestatic 245, 3) := by decide +kernel
theorem dX7_moves_31 : decode cX7_moves 31 = .ok (.if_icmp .ge 47, 3) := by decide +kernel
theorem dX7_moves_34 : decode cX7_moves 34 = .ok (.aload_n 0, 1) := by decide +kernel
theorem dX7_moves_35 : decode cX7_moves 35 = .ok (.iload 4, 2) := by decide +kernel
theorem dX7_moves_37 : decode cX7_moves 37 = .ok (.invokevirtual 258, 3) := by decide +kernel
theorem dX7_moves_40 : decode cX7_moves 40 = .ok (.aload_n 0, 1) := by decide +kernel
theorem dX7_moves_41 : decode cX7_moves 41 = .ok (.invokevirtual 261, 3) := by decide +kernel
theorem dX7_moves_44 : decode cX7_moves 44 = .ok (.istore 5, 2) := by decide +kernel
theorem dX7_moves_46 : decode cX7_moves 46 = .ok (.iload 5, 2) := by decide +kernel
theorem dX7_moves_48 : decode cX7_moves 48 = .ok (.iload_n 3, 1) := by decide +kernel
theorem dX7_moves_49 : decode cX7_moves 49 = .ok (.if_icmp .ge 8, 3) := by decide +kernel
theorem dX7_moves_52 : decode cX7_moves 52 = .ok (.iload 4, 2) := by decide +kernel
theorem dX7_moves_54 : decode cX7_moves 54 = .ok (.goto 4, 3) := by decide +kernel
theorem dX7_moves_57 : decode cX7_moves 57 = .ok (.iload_n 2, 1) := by decide +kernel
theorem dX7_moves_58 : decode cX7_moves 58 = .ok (.istore_n 2, 1) := by decide +kernel
theorem dX7_moves_59 : decode cX7_moves 59 = .ok (.iload 5, 2) := by decide +kernel
theorem dX7_moves_61 : decode cX7_moves 61 = .ok (.iload_n 3, 1) := by decide +kernel
theorem dX7_moves_62 : decode cX7_moves 62 = .ok (.if_icmp .ge 8, 3) := by decide +kernel
theorem dX7_moves_65 : decode cX7_moves 65 = .ok (.iload 5, 2) := by decide +kernel
theorem dX7_moves_67 : decode cX7_moves 67 = .ok (.goto 4, 3) := by decide +kernel
theorem dX7_moves_70 : decode cX7_moves 70 = .ok (.iload_n 3, 1) := by decide +kernel
theorem dX7_moves_71 : decode cX7_moves 71 = .ok (.istore_n 3, 1) := by decide +kernel
theorem dX7_moves_72 : decode cX7_moves 72 = .ok (.iinc 4 1, 3) := by decide +kernel
theorem dX7_moves_75 : decode cX7_moves 75 = .ok (.goto (-55), 3) := by decide +kernel
theorem dX7_moves_78 : decode cX7_moves 78 = .ok (.iload_n 2, 1) := by decide +kernel
theorem dX7_moves_79 : decode cX7_moves 79 = .ok (.iconst (-1), 1) := by decide +kernel
theorem dX7_moves_80 : decode cX7_moves 80 = .ok (.if_icmp .ne 5, 3) := by decide +kernel
theorem dX7_moves_83 : decode cX7_moves 83 = .ok (.iconst (-1), 1) := by decide +kernel
theorem dX7_moves_84 : decode cX7_moves 84 = .ok (.ireturn, 1) := by decide +kernel
theorem dX7_moves_85 : decode cX7_moves 85 = .ok (.aload_n 0, 1) := by decide +kernel
theorem dX7_moves_86 : decode cX7_moves 86 = .ok (.iload_n 2, 1) := by decide +kernel
theorem dX7_moves_87 : decode cX7_moves 87 = .ok (.invokevirtual 258, 3) := by decide +kernel
theorem dX7_moves_90 : decode cX7_moves 90 = .ok (.iload_n 1, 1) := by decide +kernel
theorem dX7_moves_91 : decode cX7_moves 91 = .ok (.iconst (-1), 1) := by decide +kernel
theorem dX7_moves_92 : decode cX7_moves 92 = .ok (.if_icmp .ne 7, 3) := by decide +kernel
theorem dX7_moves_95 : decode cX7_moves 95 = .ok (.iload_n 3, 1) := by decide +kernel
theorem dX7_moves_96 : decode cX7_moves 96 = .ok (.goto 24, 3) := by decide +kernel
theorem dX7_moves_99 : decode cX7_moves 99 = .ok (.iload_n 1, 1) := by decide +kernel
theorem dX7_moves_100 : decode cX7_moves 100 = .ok (.aload_n 0, 1) := by decide +kernel
theorem dX7_moves_101 : decode cX7_moves 101 = .ok (.getfield 7, 3) := by decide +kernel
theorem dX7_moves_104 : decode cX7_moves 104 = .ok (.iconst 1, 1) := by decide +kernel
theorem dX7_moves_105 : decode cX7_moves 105 = .ok (.iaload, 1) := by decide +kernel
theorem dX7_moves_106 : decode cX7_moves 106 = .ok (.if_icmp .ge 12, 3) := by decide +kernel
theorem dX7_moves_109 : decode cX7_moves 109 = .ok (.aload_n 0, 1) := by decide +kernel
theorem dX7_moves_110 : decode cX7_moves 110 = .ok (.getfield 45, 3) := by decide +kernel
theorem dX7_moves_113 : decode cX7_moves 113 = .ok (.iload_n 1, 1) := by decide +kernel
theorem dX7_moves_114 : decode cX7_moves 114 = .ok (.iaload, 1) := by decide +kernel
theorem dX7_moves_115 : decode cX7_moves 115 = .ok (.goto 5, 3) := by decide +kernel
theorem dX7_moves_118 : decode cX7_moves 118 = .ok (.bipush (-5), 2) := by decide +kernel
theorem dX7_moves_120 : decode cX7_moves 120 = .ok (.ireturn, 1) := by decide +kernel
theorem dX7_fraction_0 : decode cX7_fraction 0 = .ok (.lload_n 1, 1) := by decide +kernel
theorem dX7_fraction_1 : decode cX7_fraction 1 = .ok (.lstore 5, 2) := by decide +kernel
theorem dX7_fraction_3 : decode cX7_fraction 3 = .ok (.lload_n 3, 1) := by decide +kernel
theorem dX7_fraction_4 : decode cX7_fraction 4 = .ok (.lstore 7, 2) := by decide +kernel
theorem dX7_fraction_6 : decode cX7_fraction 6 = .ok (.lload 7, 2) := by decide +kernel
theorem dX7_fraction_8 : decode cX7_fraction 8 = .ok (.lconst 0, 1) := by decide +kernel
theorem dX7_fraction_9 : decode cX7_fraction 9 = .ok (.lcmp, 1) := by decide +kernel
theorem dX7_fraction_10 : decode cX7_fraction 10 = .ok (.ifCond .eq 21, 3) := by decide +kernel
theorem dX7_fraction_13 : decode cX7_fraction 13 = .ok (.lload 5, 2) := by decide +kernel
theorem dX7_fraction_15 : decode cX7_fraction 15 = .ok (.lload 7, 2) := by decide +kernel
theorem dX7_fraction_17 : decode cX7_fraction 17 = .ok (.lrem, 1) := by decide +kernel
theorem dX7_fraction_18 : decode cX7_fraction 18 = .ok (.lstore 9, 2) := by decide +kernel
theorem dX7_fraction_20 : decode cX7_fraction 20 = .ok (.lload 7, 2) := by decide +kernel
theorem dX7_fraction_22 : decode cX7_fraction 22 = .ok (.lstore 5, 2) := by decide +kernel
theorem dX7_fraction_24 : decode cX7_fraction 24 = .ok (.lload 9, 2) := by decide +kernel
theorem dX7_fraction_26 : decode cX7_fraction 26 = .ok (.lstore 7, 2) := by decide +kernel
theorem dX7_fraction_28 : decode cX7_fraction 28 = .ok (.goto (-22), 3) := by decide +kernel
theorem dX7_fraction_31 : decode cX7_fraction 31 = .ok (.aload_n 0, 1) := by decide +kernel
theorem dX7_fraction_32 : decode cX7_fraction 32 = .ok (.lload_n 1, 1) := by decide +kernel
theorem dX7_fraction_33 : decode cX7_fraction 33 = .ok (.lload 5, 2) := by decide +kernel
theorem dX7_fraction_35 : decode cX7_fraction 35 = .ok (.ldiv, 1) := by decide +kernel
theorem dX7_fraction_36 : decode cX7_fraction 36 = .ok (.putfield 264, 3) := by decide +kernel
theorem dX7_fraction_39 : decode cX7_fraction 39 = .ok (.aload_n 0, 1) := by decide +kernel
theorem dX7_fraction_40 : decode cX7_fraction 40 = .ok (.lload_n 3, 1) := by decide +kernel
theorem dX7_fraction_41 : decode cX7_fraction 41 = .ok (.lload 5, 2) := by decide +kernel
theorem dX7_fraction_43 : decode cX7_fraction 43 = .ok (.ldiv, 1) := by decide +kernel
theorem dX7_fraction_44 : decode cX7_fraction 44 = .ok (.putfield 23, 3) := by decide +kernel
theorem dX7_fraction_47 : decode cX7_fraction 47 = .ok (.return_, 1) := by decide +kernel
theorem dX7_share_0 : decode cX7_share 0 = .ok (.aload_n 0, 1) := by decide +kernel
theorem dX7_share_1 : decode cX7_share 1 = .ok (.iload_n 1, 1) := by decide +kernel
theorem dX7_share_2 : decode cX7_share 2 = .ok (.invokevirtual 61, 3) := by decide +kernel
theorem dX7_share_5 : decode cX7_share 5 = .ok (.ifCond .ne 10, 3) := by decide +kernel
theorem dX7_share_8 : decode cX7_share 8 = .ok (.aload_n 0, 1) := by decide +kernel
theorem dX7_share_9 : decode cX7_share 9 = .ok (.bipush (-2), 2) := by decide +kernel
theorem dX7_share_11 : decode cX7_share 11 = .ok (.invokevirtual 99, 3) := by decide +kernel
theorem dX7_share_14 : decode cX7_share 14 = .ok (.ireturn, 1) := by decide +kernel
theorem dX7_share_15 : decode cX7_share 15 = .ok (.ldc 168, 2) := by decide +kernel
theorem dX7_share_17 : decode cX7_share 17 = .ok (.istore_n 2, 1) := by decide +kernel
theorem dX7_share_18 : decode cX7_share 18 = .ok (.iconst 0, 1) := by decide +kernel
theorem dX7_share_19 : decode cX7_share 19 = .ok (.istore_n 3, 1) := by decide +kernel
theorem dX7_share_20 : decode cX7_share 20 = .ok (.iconst 0, 1) := by decide +kernel
theorem dX7_share_21 : decode cX7_share 21 = .ok (.istore 4, 2) := by decide +kernel
theorem dX7_share_23 : decode cX7_share 23 = .ok (.iload 4, 2) := by decide +kernel
theorem dX7_share_25 : decode cX7_share 25 = .ok (.aload_n 0, 1) := by decide +kernel
theorem dX7_share_26 : decode cX7_share 26 = .ok (.getfield 7, 3) := by decide +kernel
theorem dX7_share_29 : decode cX7_share 29 = .ok (.iconst 0, 1) := by decide +kernel
theorem dX7_share_30 : decode cX7_share 30 = .ok (.iaload, 1) := by decide +kernel
theorem dX7_share_31 : decode cX7_share 31 = .ok (.if_icmp .ge 88, 3) := by decide +kernel
theorem dX7_share_34 : decode cX7_share 34 = .ok (.iload 4, 2) := by decide +kernel
theorem dX7_share_36 : decode cX7_share 36 = .ok (.iload_n 1, 1) := by decide +kernel
theorem dX7_share_37 : decode cX7_share 37 = .ok (.if_icmp .eq 16, 3) := by decide +kernel
theorem dX7_share_40 : decode cX7_share 40 = .ok (.aload_n 0, 1) := by decide +kernel
theorem dX7_share_41 : decode cX7_share 41 = .ok (.getfield 7, 3) := by decide +kernel
theorem dX7_share_44 : decode cX7_share 44 = .ok (.bipush 29, 2) := by decide +kernel
theorem dX7_share_46 : decode cX7_share 46 = .ok (.iload 4, 2) := by decide +kernel
theorem dX7_share_48 : decode cX7_share 48 = .ok (.iadd, 1) := by decide +kernel
theorem dX7_share_49 : decode cX7_share 49 = .ok (.iaload, 1) := by decide +kernel
theorem dX7_share_50 : decode cX7_share 50 = .ok (.ifCond .ne 7, 3) := by decide +kernel
theorem dX7_share_53 : decode cX7_share 53 = .ok (.iconst (-1), 1) := by decide +kernel
theorem dX7_share_54 : decode cX7_share 54 = .ok (.goto 14, 3) := by decide +kernel
theorem dX7_share_57 : decode cX7_share 57 = .ok (.aload_n 0, 1) := by decide +kernel
theorem dX7_share_58 : decode cX7_share 58 = .ok (.aload_n 0, 1) := by decide +kernel
theorem dX7_share_59 : decode cX7_share 59 = .ok (.getfield 7, 3) := by decide +kernel
theorem dX7_share_62 : decode cX7_share 62 = .ok (.iload_n 1, 1) := by decide +kernel
theorem dX7_share_63 : decode cX7_share 63 = .ok (.iload 4, 2) := by decide +kernel
theorem dX7_share_65 : decode cX7_share 65 = .ok (.invokevirtual 177, 3) := by decide +kernel
theorem dX7_share_68 : decode cX7_share 68 = .ok (.istore 5, 2) := by decide +kernel
theorem dX7_share_70 : decode cX7_share 70 = .ok (.iload 5, 2) := by decide +kernel
theorem dX7_share_72 : decode cX7_share 72 = .ok (.iconst (-1), 1) := by decide +kernel
theorem dX7_share_73 : decode cX7_share 73 = .ok (.if_icmp .eq 40, 3) := by decide +kernel
theorem dX7_share_76 : decode cX7_share 76 = .ok (.iload 5, 2) := by decide +kernel
theorem dX7_share_78 : decode cX7_share 78 = .ok (.iload_n 2, 1) := by decide +kernel
theorem dX7_share_79 : decode cX7_share 79 = .ok (.if_icmp .ge 7, 3) := by decide +kernel
theorem dX7_share_82 : decode cX7_share 82 = .ok (.iconst 1, 1) := by decide +kernel
theorem dX7_share_83 : decode cX7_share 83 = .ok (.goto 16, 3) := by decide +kernel
theorem dX7_share_86 : decode cX7_share 86 = .ok (.iload 5, 2) := by decide +kernel
theorem dX7_share_88 : decode cX7_share 88 = .ok (.iload_n 2, 1) := by decide +kernel
theorem dX7_share_89 : decode cX7_share 89 = .ok (.if_icmp .ne 9, 3) := by decide +kernel
theorem dX7_share_92 : decode cX7_share 92 = .ok (.iload_n 3, 1) := by decide +kernel
theorem dX7_share_93 : decode cX7_share 93 = .ok (.iconst 1, 1) := by decide +kernel
theorem dX7_share_94 : decode cX7_share 94 = .ok (.iadd, 1) := by decide +kernel
theorem dX7_share_95 : decode cX7_share 95 = .ok (.goto 4, 3) := by decide +kernel
theorem dX7_share_98 : decode cX7_share 98 = .ok (.iload_n 3, 1) := by decide +kernel
theorem dX7_share_99 : decode cX7_share 99 = .ok (.istore_n 3, 1) := by decide +kernel
theorem dX7_share_100 : decode cX7_share 100 = .ok (.iload 5, 2) := by decide +kernel
theorem dX7_share_102 : decode cX7_share 102 = .ok (.iload_n 2, 1) := by decide +kernel
theorem dX7_share_103 : decode cX7_share 103 = .ok (.if_icmp .ge 8, 3) := by decide +kernel
theorem dX7_share_106 : decode cX7_share 106 = .ok (.iload 5, 2) := by decide +kernel
theorem dX7_share_108 : decode cX7_share 108 = .ok (.goto 4, 3) := by decide +kernel
theorem dX7_share_111 : decode cX7_share 111 = .ok (.iload_n 2, 1) := by decide +kernel
theorem dX7_share_112 : decode cX7_share 112 = .ok (.istore_n 2, 1) := by decide +kernel
theorem dX7_share_113 : decode cX7_share 113 = .ok (.iinc 4 1, 3) := by decide +kernel
theorem dX7_share_116 : decode cX7_share 116 = .ok (.goto (-93), 3) := by decide +kernel
theorem dX7_share_119 : decode cX7_share 119 = .ok (.aload_n 0, 1) := by decide +kernel
theorem dX7_share_120 : decode cX7_share 120 = .ok (.iload_n 3, 1) := by decide +kernel
theorem dX7_share_121 : decode cX7_share 121 = .ok (.ifCond .ne 7, 3) := by decide +kernel
theorem dX7_share_124 : decode cX7_share 124 = .ok (.lconst 0, 1) := by decide +kernel
theorem dX7_share_125 : decode cX7_share 125 = .ok (.goto 13, 3) := by decide +kernel
theorem dX7_share_128 : decode cX7_share 128 = .ok (.aload_n 0, 1) := by decide +kernel
theorem dX7_share_129 : decode cX7_share 129 = .ok (.getfield 7, 3) := by decide +kernel
theorem dX7_share_132 : decode cX7_share 132 = .ok (.bipush 9, 2) := by decide +kernel
theorem dX7_share_134 : decode cX7_share 134 = .ok (.iload_n 1, 1) := by decide +kernel
theorem dX7_share_135 : decode cX7_share 135 = .ok (.iadd, 1) := by decide +kernel
theorem dX7_share_136 : decode cX7_share 136 = .ok (.iaload, 1) := by decide +kernel
theorem dX7_share_137 : decode cX7_share 137 = .ok (.i2l, 1) := by decide +kernel
theorem dX7_share_138 : decode cX7_share 138 = .ok (.iload_n 3, 1) := by decide +kernel
theorem dX7_share_139 : decode cX7_share 139 = .ok (.ifCond .ne 7, 3) := by decide +kernel
theorem dX7_share_142 : decode cX7_share 142 = .ok (.lconst 1, 1) := by decide +kernel
theorem dX7_share_143 : decode cX7_share 143 = .ok (.goto 5, 3) := by decide +kernel
theorem dX7_share_146 : decode cX7_share 146 = .ok (.iload_n 3, 1) := by decide +kernel
theorem dX7_share_147 : decode cX7_share 147 = .ok (.i2l, 1) := by decide +kernel
theorem dX7_share_148 : decode cX7_share 148 = .ok (.invokevirtual 267, 3) := by decide +kernel
theorem dX7_share_151 : decode cX7_share 151 = .ok (.iload_n 3, 1) := by decide +kernel
theorem dX7_share_152 : decode cX7_share 152 = .ok (.ireturn, 1) := by decide +kernel
theorem dX7_parents_0 : decode cX7_parents 0 = .ok (.iconst 0, 1) := by decide +kernel
theorem dX7_parents_1 : decode cX7_parents 1 = .ok (.istore_n 3, 1) := by decide +kernel
theorem dX7_parents_2 : decode cX7_parents 2 = .ok (.iconst 0, 1) := by decide +kernel
theorem dX7_parents_3 : decode cX7_parents 3 = .ok (.istore 4, 2) := by decide +kernel
theorem dX7_parents_5 : decode cX7_parents 5 = .ok (.iload 4, 2) := by decide +kernel
theorem dX7_parents_7 : decode cX7_parents 7 = .ok (.iload_n 1, 1) := by decide +kernel
theorem dX7_parents_8 : decode cX7_parents 8 = .ok (.if_icmp .ge 47, 3) := by decide +kernel
theorem dX7_parents_11 : decode cX7_parents 11 = .ok (.iload_n 3, 1) := by decide +kernel
theorem dX7_parents_12 : decode cX7_parents 12 = .ok (.aload_n 0, 1) := by decide +kernel
theorem dX7_parents_13 : decode cX7_parents 13 = .ok (.getfield 7, 3) := by decide +kernel
theorem dX7_parents_16 : decode cX7_parents 16 = .ok (.bipush 34, 2) := by decide +kernel
theorem dX7_parents_18 : decode cX7_parents 18 = .ok (.iload 4, 2) := by decide +kernel
theorem dX7_parents_20 : decode cX7_parents 20 = .ok (.iadd, 1) := by decide +kernel
theorem dX7_parents_21 : decode cX7_parents 21 = .ok (.iaload, 1) := by decide +kernel
theorem dX7_parents_22 : decode cX7_parents 22 = .ok (.aload_n 0, 1) := by decide +kernel
theorem dX7_parents_23 : decode cX7_parents 23 = .ok (.getfield 7, 3) := by decide +kernel
theorem dX7_parents_26 : decode cX7_parents 26 = .ok (.bipush 34, 2) := by decide +kernel
theorem dX7_parents_28 : decode cX7_parents 28 = .ok (.iload_n 1, 1) := by decide +kernel
theorem dX7_parents_29 : decode cX7_parents 29 = .ok (.iadd, 1) := by decide +kernel
theorem dX7_parents_30 : decode cX7_parents 30 = .ok (.iaload, 1) := by decide +kernel
theorem dX7_parents_31 : decode cX7_parents 31 = .ok (.ixor, 1) := by decide +kernel
theorem dX7_parents_32 : decode cX7_parents 32 = .ok (.invokestatic 185, 3) := by decide +kernel
theorem dX7_parents_35 : decode cX7_parents 35 = .ok (.iload_n 2, 1) := by decide +kernel
theorem dX7_parents_36 : decode cX7_parents 36 = .ok (.if_icmp .gt 10, 3) := by decide +kernel
theorem dX7_parents_39 : decode cX7_parents 39 = .ok (.iconst 1, 1) := by decide +kernel
theorem dX7_parents_40 : decode cX7_parents 40 = .ok (.iload 4, 2) := by decide +kernel
theorem dX7_parents_42 : decode cX7_parents 42 = .ok (.ishl, 1) := by decide +kernel
theorem dX7_parents_43 : decode cX7_parents 43 = .ok (.goto 4, 3) := by decide +kernel
theorem dX7_parents_46 : decode cX7_parents 46 = .ok (.iconst 0, 1) := by decide +kernel
theorem dX7_parents_47 : decode cX7_parents 47 = .ok (.ior, 1) := by decide +kernel
theorem dX7_parents_48 : decode cX7_parents 48 = .ok (.istore_n 3, 1) := by decide +kernel
theorem dX7_parents_49 : decode cX7_parents 49 = .ok (.iinc 4 1, 3) := by decide +kernel
theorem dX7_parents_52 : decode cX7_parents 52 = .ok (.goto (-47), 3) := by decide +kernel
theorem dX7_parents_55 : decode cX7_parents 55 = .ok (.iload_n 3, 1) := by decide +kernel
theorem dX7_parents_56 : decode cX7_parents 56 = .ok (.ireturn, 1) := by decide +kernel
theorem dX7_plaster_0 : decode cX7_plaster 0 = .ok (.iload_n 1, 1) := by decide +kernel
theorem dX7_plaster_1 : decode cX7_plaster 1 = .ok (.i2l, 1) := by decide +kernel
theorem dX7_plaster_2 : decode cX7_plaster 2 = .ok (.lconst 0, 1) := by decide +kernel
theorem dX7_plaster_3 : decode cX7_plaster 3 = .ok (.ldc2_w 271, 3) := by decide +kernel
theorem dX7_plaster_6 : decode cX7_plaster 6 = .ok (.invokestatic 51, 3) := by decide +kernel
theorem dX7_plaster_9 : decode cX7_plaster 9 = .ok (.ifCond .eq 23, 3) := by decide +kernel
theorem dX7_plaster_12 : decode cX7_plaster 12 = .ok (.iload_n 2, 1) := by decide +kernel
theorem dX7_plaster_13 : decode cX7_plaster 13 = .ok (.i2l, 1) := by decide +kernel
theorem dX7_plaster_14 : decode cX7_plaster 14 = .ok (.ldc2_w 65, 3) := by decide +kernel
theorem dX7_plaster_17 : decode cX7_plaster 17 = .ok (.aload_n 0, 1) := by decide +kernel
theorem dX7_plaster_18 : decode cX7_plaster 18 = .ok (.getfield 7, 3) := by decide +kernel
theorem dX7_plaster_21 : decode cX7_plaster 21 = .ok (.iconst 0, 1) := by decide +kernel
theorem dX7_plaster_22 : decode cX7_plaster 22 = .ok (.iaload, 1) := by decide +kernel
theorem dX7_plaster_23 : decode cX7_plaster 23 = .ok (.iconst 1, 1) := by decide +kernel
theorem dX7_plaster_24 : decode cX7_plaster 24 = .ok (.isub, 1) := by decide +kernel
theorem dX7_plaster_25 : decode cX7_plaster 25 = .ok (.i2l, 1) := by decide +kernel
theorem dX7_plaster_26 : decode cX7_plaster 26 = .ok (.invokestatic 51, 3) := by decide +kernel
theorem dX7_plaster_29 : decode cX7_plaster 29 = .ok (.ifCond .ne 10, 3) := by decide +kernel
theorem dX7_plaster_32 : decode cX7_plaster 32 = .ok (.aload_n 0, 1) := by decide +kernel
theorem dX7_plaster_33 : decode cX7_plaster 33 = .ok (.bipush (-10), 2) := by decide +kernel
theorem dX7_plaster_35 : decode cX7_plaster 35 = .ok (.invokevirtual 99, 3) := by decide +kernel
theorem dX7_plaster_38 : decode cX7_plaster 38 = .ok (.ireturn, 1) := by decide +kernel
theorem dX7_plaster_39 : decode cX7_plaster 39 = .ok (.iload_n 2, 1) := by decide +kernel
theorem dX7_plaster_40 : decode cX7_plaster 40 = .ok (.iconst (-1), 1) := by decide +kernel
theorem dX7_plaster_41 : decode cX7_plaster 41 = .ok (.if_icmp .ne 40, 3) := by decide +kernel
theorem dX7_plaster_44 : decode cX7_plaster 44 = .ok (.iconst 1, 1) := by decide +kernel
theorem dX7_plaster_45 : decode cX7_plaster 45 = .ok (.istore_n 3, 1) := by decide +kernel
theorem dX7_plaster_46 : decode cX7_plaster 46 = .ok (.iconst 1, 1) := by decide +kernel
theorem dX7_plaster_47 : decode cX7_plaster 47 = .ok (.istore 4, 2) := by decide +kernel
theorem dX7_plaster_49 : decode cX7_plaster 49 = .ok (.iload 4, 2) := by decide +kernel
theorem dX7_plaster_51 : decode cX7_plaster 51 = .ok (.aload_n 0, 1) := by decide +kernel
theorem dX7_plaster_52 : decode cX7_plaster 52 = .ok (.getfield 7, 3) := by decide +kernel
theorem dX7_plaster_55 : decode cX7_plaster 55 = .ok (.iconst 0, 1) := by decide +kernel
theorem dX7_plaster_56 : decode cX7_plaster 56 = .ok (.iaload, 1) := by decide +kernel
theorem dX7_plaster_57 : decode cX7_plaster 57 = .ok (.if_icmp .ge 22, 3) := by decide +kernel
theorem dX7_plaster_60 : decode cX7_plaster 60 = .ok (.iload_n 3, 1) := by decide +kernel
theorem dX7_plaster_61 : decode cX7_plaster 61 = .ok (.aload_n 0, 1) := by decide +kernel
theorem dX7_plaster_62 : decode cX7_plaster 62 = .ok (.iload 4, 2) := by decide +kernel
theorem dX7_plaster_64 : decode cX7_plaster 64 = .ok (.iload_n 1, 1) := by decide +kernel
theorem dX7_plaster_65 : decode cX7_plaster 65 = .ok (.invokevirtual 273, 3) := by decide +kernel
theorem dX7_plaster_68 : decode cX7_plaster 68 = .ok (.invokestatic 185, 3) := by decide +kernel
theorem dX7_plaster_71 : decode cX7_plaster 71 = .ok (.imul, 1) := by decide +kernel
theorem dX7_plaster_72 : decode cX7_plaster 72 = .ok (.istore_n 3, 1) := by decide +kernel
theorem dX7_plaster_73 : decode cX7_plaster 73 = .ok (.iinc 4 1, 3) := by decide +kernel
theorem dX7_plaster_76 : decode cX7_plaster 76 = .ok (.goto (-27), 3) := by decide +kernel
theorem dX7_plaster_79 : decode cX7_plaster 79 = .ok (.iload_n 3, 1) := by decide +kernel
theorem dX7_plaster_80 : decode cX7_plaster 80 = .ok (.ireturn, 1) := by decide +kernel
theorem dX7_plaster_81 : decode cX7_plaster 81 = .ok (.aload_n 0, 1) := by decide +kernel
theorem dX7_plaster_82 : decode cX7_plaster 82 = .ok (.iload_n 2, 1) := by decide +kernel
theorem dX7_plaster_83 : decode cX7_plaster 83 = .ok (.iload_n 1, 1) := by decide +kernel
theorem dX7_plaster_84 : decode cX7_plaster 84 = .ok (.invokevirtual 273, 3) := by decide +kernel
theorem dX7_plaster_87 : decode cX7_plaster 87 = .ok (.istore_n 3, 1) := by decide +kernel
theorem dX7_plaster_88 : decode cX7_plaster 88 = .ok (.iconst (-1), 1) := by decide +kernel
theorem dX7_plaster_89 : decode cX7_plaster 89 = .ok (.istore 4, 2) := by decide +kernel
theorem dX7_plaster_91 : decode cX7_plaster 91 = .ok (.iconst 0, 1) := by decide +kernel
theorem dX7_plaster_92 : decode cX7_plaster 92 = .ok (.istore 5, 2) := by decide +kernel
theorem dX7_plaster_94 : decode cX7_plaster 94 = .ok (.iload 5, 2) := by decide +kernel
theorem dX7_plaster_96 : decode cX7_plaster 96 = .ok (.iload_n 2, 1) := by decide +kernel
theorem dX7_plaster_97 : decode cX7_plaster 97 = .ok (.if_icmp .ge 26, 3) := by decide +kernel
theorem dX7_plaster_100 : decode cX7_plaster 100 = .ok (.iload_n 3, 1) := by decide +kernel
theorem dX7_plaster_101 : decode cX7_plaster 101 = .ok (.iconst 1, 1) := by decide +kernel
theorem dX7_plaster_102 : decode cX7_plaster 102 = .ok (.iload 5, 2) := by decide +kernel
theorem dX7_plaster_104 : decode cX7_plaster 104 = .ok (.ishl, 1) := by decide +kernel
theorem dX7_plaster_105 : decode cX7_plaster 105 = .ok (.if_icmp .ne 8, 3) := by decide +kernel
theorem dX7_plaster_108 : decode cX7_plaster 108 = .ok (.iload 5, 2) := by decide +kernel
theorem dX7_plaster_110 : decode cX7_plaster 110 = .ok (.goto 5, 3) := by decide +kernel
theorem dX7_plaster_113 : decode cX7_plaster 113 = .ok (.iload 4, 2) := by decide +kernel
theorem dX7_plaster_115 : decode cX7_plaster 115 = .ok (.istore 4, 2) := by decide +kernel
theorem dX7_plaster_117 : decode cX7_plaster 117 = .ok (.iinc 5 1, 3) := by decide +kernel
theorem dX7_plaster_120 : decode cX7_plaster 120 = .ok (.goto (-26), 3) := by decide +kernel
theorem dX7_plaster_123 : decode cX7_plaster 123 = .ok (.iload 4, 2) := by decide +kernel
theorem dX7_plaster_125 : decode cX7_plaster 125 = .ok (.ireturn, 1) := by decide +kernel
theorem dX7_gables_0 : decode cX7_gables 0 = .ok (.iload_n 1, 1) := by decide +kernel
theorem dX7_gables_1 : decode cX7_gables 1 = .ok (.i2l, 1) := by decide +kernel
theorem dX7_gables_2 : decode cX7_gables 2 = .ok (.lconst 0, 1) := by decide +kernel
theorem dX7_gables_3 : decode cX7_gables 3 = .ok (.ldc2_w 271, 3) := by decide +kernel
theorem dX7_gables_6 : decode cX7_gables 6 = .ok (.invokestatic 51, 3) := by decide +kernel
theorem dX7_gables_9 : decode cX7_gables 9 = .ok (.ifCond .ne 10, 3) := by decide +kernel
theorem dX7_gables_12 : decode cX7_gables 12 = .ok (.aload_n 0, 1) := by decide +kernel
theorem dX7_gables_13 : decode cX7_gables 13 = .ok (.bipush (-2), 2) := by decide +kernel
theorem dX7_gables_15 : decode cX7_gables 15 = .ok (.invokevirtual 99, 3) := by decide +kernel
theorem dX7_gables_18 : decode cX7_gables 18 = .ok (.ireturn, 1) := by decide +kernel
theorem dX7_gables_19 : decode cX7_gables 19 = .ok (.iconst 0, 1) := by decide +kernel
theorem dX7_gables_20 : decode cX7_gables 20 = .ok (.istore_n 2, 1) := by decide +kernel
theorem dX7_gables_21 : decode cX7_gables 21 = .ok (.iconst 1, 1) := by decide +kernel
theorem dX7_gables_22 : decode cX7_gables 22 = .ok (.istore_n 3, 1) := by decide +kernel
theorem dX7_gables_23 : decode cX7_gables 23 = .ok (.iload_n 3, 1) := by decide +kernel
theorem dX7_gables_24 : decode cX7_gables 24 = .ok (.aload_n 0, 1) := by decide +kernel
theorem dX7_gables_25 : decode cX7_gables 25 = .ok (.getfield 7, 3) := by decide +kernel
theorem dX7_gables_28 : decode cX7_gables 28 = .ok (.iconst 0, 1) := by decide +kernel
theorem dX7_gables_29 : decode cX7_gables 29 = .ok (.iaload, 1) := by decide +kernel
theorem dX7_gables_30 : decode cX7_gables 30 = .ok (.if_icmp .ge 28, 3) := by decide +kernel
theorem dX7_gables_33 : decode cX7_gables 33 = .ok (.iload_n 2, 1) := by decide +kernel
theorem dX7_gables_34 : decode cX7_gables 34 = .ok (.aload_n 0, 1) := by decide +kernel
theorem dX7_gables_35 : decode cX7_gables 35 = .ok (.iload_n 3, 1) := by decide +kernel
theorem dX7_gables_36 : decode cX7_gables 36 = .ok (.iload_n 1, 1) := by decide +kernel
theorem dX7_gables_37 : decode cX7_gables 37 = .ok (.invokevirtual 273, 3) := by decide +kernel
theorem dX7_gables_40 : decode cX7_gables 40 = .ok (.ifCond .ne 9, 3) := by decide +kernel
theorem dX7_gables_43 : decode cX7_gables 43 = .ok (.iconst 1, 1) := by decide +kernel
theorem dX7_gables_44 : decode cX7_gables 44 = .ok (.iload_n 3, 1) := by decide +kernel
theorem dX7_gables_45 : decode cX7_gables 45 = .ok (.ishl, 1) := by decide +kernel
theorem dX7_gables_46 : decode cX7_gables 46 = .ok (.goto 4, 3) := by decide +kernel
theorem dX7_gables_49 : decode cX7_gables 49 = .ok (.iconst 0, 1) := by decide +kernel
theorem dX7_gables_50 : decode cX7_gables 50 = .ok (.ior, 1) := by decide +kernel
theorem dX7_gables_51 : decode cX7_gables 51 = .ok (.istore_n 2, 1) := by decide +kernel
theorem dX7_gables_52 : decode cX7_gables 52 = .ok (.iinc 3 1, 3) := by decide +kernel
theorem dX7_gables_55 : decode cX7_gables 55 = .ok (.goto (-32), 3) := by decide +kernel
theorem dX7_gables_58 : decode cX7_gables 58 = .ok (.iload_n 2, 1) := by decide +kernel
theorem dX7_gables_59 : decode cX7_gables 59 = .ok (.ireturn, 1) := by decide +kernel
theorem dX7_getsBy_0 : decode cX7_getsBy 0 = .ok (.iconst (-1), 1) := by decide +kernel
theorem dX7_getsBy_1 : decode cX7_getsBy 1 = .ok (.istore 6, 2) := by decide +kernel
theorem dX7_getsBy_3 : decode cX7_getsBy 3 = .ok (.sipush 1000, 3) := by decide +kernel
theorem dX7_getsBy_6 : decode cX7_getsBy 6 = .ok (.istore 7, 2) := by decide +kernel
theorem dX7_getsBy_8 : decode cX7_getsBy 8 = .ok (.iconst 0, 1) := by decide +kernel
theorem dX7_getsBy_9 : decode cX7_getsBy 9 = .ok (.istore 8, 2) := by decide +kernel
theorem dX7_getsBy_11 : decode cX7_getsBy 11 = .ok (.iload 8, 2) := by decide +kernel
theorem dX7_getsBy_13 : decode cX7_getsBy 13 = .ok (.aload_n 0, 1) := by decide +kernel
theorem dX7_getsBy_14 : decode cX7_getsBy 14 = .ok (.getfield 7, 3) := by decide +kernel
theorem dX7_getsBy_17 : decode cX7_getsBy 17 = .ok (.iconst 0, 1) := by decide +kernel
theorem dX7_getsBy_18 : decode cX7_getsBy 18 = .ok (.iaload, 1) := by decide +kernel
theorem dX7_getsBy_19 : decode cX7_getsBy 19 = .ok (.if_icmp .ge 135, 3) := by decide +kernel
theorem dX7_getsBy_22 : decode cX7_getsBy 22 = .ok (.iload 8, 2) := by decide +kernel
theorem dX7_getsBy_24 : decode cX7_getsBy 24 = .ok (.iload_n 3, 1) := by decide +kernel
theorem dX7_getsBy_25 : decode cX7_getsBy 25 = .ok (.if_icmp .ne 9, 3) := by decide +kernel
theorem dX7_getsBy_28 : decode cX7_getsBy 28 = .ok (.sipush 1000, 3) := by decide +kernel
theorem dX7_getsBy_31 : decode cX7_getsBy 31 = .ok (.goto 23, 3) := by decide +kernel
theorem dX7_getsBy_34 : decode cX7_getsBy 34 = .ok (.aload_n 0, 1) := by decide +kernel
theorem dX7_getsBy_35 : decode cX7_getsBy 35 = .ok (.aload_n 0, 1) := by decide +kernel
theorem dX7_getsBy_36 : decode cX7_getsBy 36 = .ok (.getfield 7, 3) := by decide +kernel
theorem dX7_getsBy_39 : decode cX7_getsBy 39 = .ok (.aload_n 0, 1) := by decide +kernel
theorem dX7_getsBy_40 : decode cX7_getsBy 40 = .ok (.getfield 7, 3) := by decide +kernel
theorem dX7_getsBy_43 : decode cX7_getsBy 43 = .ok (.bipush 24, 2) := by decide +kernel
theorem dX7_getsBy_45 : decode cX7_getsBy 45 = .ok (.iload_n 3, 1) := by decide +kernel
theorem dX7_getsBy_46 : decode cX7_getsBy 46 = .ok (.iadd, 1) := by decide +kernel
theorem dX7_getsBy_47 : decode cX7_getsBy 47 = .ok (.iaload, 1) := by decide +kernel
theorem dX7_getsBy_48 : decode cX7_getsBy 48 = .ok (.iload_n 3, 1) := by decide +kernel
theorem dX7_getsBy_49 : decode cX7_getsBy 49 = .ok (.iload 8, 2) := by decide +kernel
theorem dX7_getsBy_51 : decode cX7_getsBy 51 = .ok (.invokevirtual 191, 3) := by decide +kernel
theorem dX7_getsBy_54 : decode cX7_getsBy 54 = .ok (.istore 9, 2) := by decide +kernel
theorem dX7_getsBy_56 : decode cX7_getsBy 56 = .ok (.iload 8, 2) := by decide +kernel
theorem dX7_getsBy_58 : decode cX7_getsBy 58 = .ok (.iload_n 1, 1) := by decide +kernel
theorem dX7_getsBy_59 : decode cX7_getsBy 59 = .ok (.if_icmp .ne 9, 3) := by decide +kernel
theorem dX7_getsBy_62 : decode cX7_getsBy 62 = .ok (.iload 4, 2) := by decide +kernel
theorem dX7_getsBy_64 : decode cX7_getsBy 64 = .ok (.iconst 1, 1) := by decide +kernel
theorem dX7_getsBy_65 : decode cX7_getsBy 65 = .ok (.if_icmp .eq 15, 3) := by decide +kernel
theorem dX7_getsBy_68 : decode cX7_getsBy 68 = .ok (.iload 8, 2) := by decide +kernel
theorem dX7_getsBy_70 : decode cX7_getsBy 70 = .ok (.iload_n 2, 1) := by decide +kernel
theorem dX7_getsBy_71 : decode cX7_getsBy 71 = .ok (.if_icmp .ne 13, 3) := by decide +kernel
theorem dX7_getsBy_74 : decode cX7_getsBy 74 = .ok (.iload 5, 2) := by decide +kernel
theorem dX7_getsBy_76 : decode cX7_getsBy 76 = .ok (.iconst 1, 1) := by decide +kernel
theorem dX7_getsBy_77 : decode cX7_getsBy 77 = .ok (.if_icmp .ne 7, 3) := by decide +kernel
theorem dX7_getsBy_80 : decode cX7_getsBy 80 = .ok (.iconst 1, 1) := by decide +kernel
theorem dX7_getsBy_81 : decode cX7_getsBy 81 = .ok (.goto 4, 3) := by decide +kernel
theorem dX7_getsBy_84 : decode cX7_getsBy 84 = .ok (.iconst 0, 1) := by decide +kernel
theorem dX7_getsBy_85 : decode cX7_getsBy 85 = .ok (.istore 10, 2) := by decide +kernel
theorem dX7_getsBy_87 : decode cX7_getsBy 87 = .ok (.iload 10, 2) := by decide +kernel
theorem dX7_getsBy_89 : decode cX7_getsBy 89 = .ok (.ifCond .ne 8, 3) := by decide +kernel
theorem dX7_getsBy_92 : decode cX7_getsBy 92 = .ok (.iload 9, 2) := by decide +kernel
theorem dX7_getsBy_94 : decode cX7_getsBy 94 = .ok (.goto 20, 3) := by decide +kernel
theorem dX7_getsBy_97 : decode cX7_getsBy 97 = .ok (.iload 9, 2) := by decide +kernel
theorem dX7_getsBy_99 : decode cX7_getsBy 99 = .ok (.sipush 1000, 3) := by decide +kernel
theorem dX7_getsBy_102 : decode cX7_getsBy 102 = .ok (.if_icmp .ne 8, 3) := by decide +kernel
theorem dX7_getsBy_105 : decode cX7_getsBy 105 = .ok (.bipush 6, 2) := by decide +kernel
theorem dX7_getsBy_107 : decode cX7_getsBy 107 = .ok (.goto 7, 3) := by decide +kernel
theorem dX7_getsBy_110 : decode cX7_getsBy 110 = .ok (.iload 9, 2) := by decide +kernel
theorem dX7_getsBy_112 : decode cX7_getsBy 112 = .ok (.iconst 3, 1) := by decide +kernel
theorem dX7_getsBy_113 : decode cX7_getsBy 113 = .ok (.isub, 1) := by decide +kernel
theorem dX7_getsBy_114 : decode cX7_getsBy 114 = .ok (.istore 9, 2) := by decide +kernel
theorem dX7_getsBy_116 : decode cX7_getsBy 116 = .ok (.iload 9, 2) := by decide +kernel
theorem dX7_getsBy_118 : decode cX7_getsBy 118 = .ok (.iload 7, 2) := by decide +kernel
theorem dX7_getsBy_120 : decode cX7_getsBy 120 = .ok (.if_icmp .ge 8, 3) := by decide +kernel
theorem dX7_getsBy_123 : decode cX7_getsBy 123 = .ok (.iload 8, 2) := by decide +kernel
theorem dX7_getsBy_125 : decode cX7_getsBy 125 = .ok (.goto 5, 3) := by decide +kernel
theorem dX7_getsBy_128 : decode cX7_getsBy 128 = .ok (.iload 6, 2) := by decide +kernel
theorem dX7_getsBy_130 : decode cX7_getsBy 130 = .ok (.istore 6, 2) := by decide +kernel
theorem dX7_getsBy_132 : decode cX7_getsBy 132 = .ok (.iload 9, 2) := by decide +kernel
theorem dX7_getsBy_134 : decode cX7_getsBy 134 = .ok (.iload 7, 2) := by decide +kernel
theorem dX7_getsBy_136 : decode cX7_getsBy 136 = .ok (.if_icmp .ge 8, 3) := by decide +kernel
theorem dX7_getsBy_139 : decode cX7_getsBy 139 = .ok (.iload 9, 2) := by decide +kernel
theorem dX7_getsBy_141 : decode cX7_getsBy 141 = .ok (.goto 5, 3) := by decide +kernel
theorem dX7_getsBy_144 : decode cX7_getsBy 144 = .ok (.iload 7, 2) := by decide +kernel
theorem dX7_getsBy_146 : decode cX7_getsBy 146 = .ok (.istore 7, 2) := by decide +kernel
theorem dX7_getsBy_148 : decode cX7_getsBy 148 = .ok (.iinc 8 1, 3) := by decide +kernel
theorem dX7_getsBy_151 : decode cX7_getsBy 151 = .ok (.goto (-140), 3) := by decide +kernel
theorem dX7_getsBy_154 : decode cX7_getsBy 154 = .ok (.iload 6, 2) := by decide +kernel
theorem dX7_getsBy_156 : decode cX7_getsBy 156 = .ok (.iload_n 1, 1) := by decide +kernel
theorem dX7_getsBy_157 : decode cX7_getsBy 157 = .ok (.if_icmp .ne 17, 3) := by decide +kernel
theorem dX7_getsBy_160 : decode cX7_getsBy 160 = .ok (.aload_n 0, 1) := by decide +kernel
theorem dX7_getsBy_161 : decode cX7_getsBy 161 = .ok (.getfield 7, 3) := by decide +kernel
theorem dX7_getsBy_164 : decode cX7_getsBy 164 = .ok (.iload_n 3, 1) := by decide +kernel
theorem dX7_getsBy_165 : decode cX7_getsBy 165 = .ok (.invokestatic 181, 3) := by decide +kernel
theorem dX7_getsBy_168 : decode cX7_getsBy 168 = .ok (.invokestatic 185, 3) := by decide +kernel
theorem dX7_getsBy_171 : decode cX7_getsBy 171 = .ok (.goto 4, 3) := by decide +kernel
theorem dX7_getsBy_174 : decode cX7_getsBy 174 = .ok (.iconst 0, 1) := by decide +kernel
theorem dX7_getsBy_175 : decode cX7_getsBy 175 = .ok (.istore 8, 2) := by decide +kernel
theorem dX7_getsBy_177 : decode cX7_getsBy 177 = .ok (.aload_n 0, 1) := by decide +kernel
theorem dX7_getsBy_178 : decode cX7_getsBy 178 = .ok (.getfield 7, 3) := by decide +kernel
theorem dX7_getsBy_181 : decode cX7_getsBy 181 = .ok (.iload_n 1, 1) := by decide +kernel
theorem dX7_getsBy_182 : decode cX7_getsBy 182 = .ok (.invokestatic 181, 3) := by decide +kernel
theorem dX7_getsBy_185 : decode cX7_getsBy 185 = .ok (.invokestatic 185, 3) := by decide +kernel
theorem dX7_getsBy_188 : decode cX7_getsBy 188 = .ok (.iload 8, 2) := by decide +kernel
theorem dX7_getsBy_190 : decode cX7_getsBy 190 = .ok (.iadd, 1) := by decide +kernel
theorem dX7_getsBy_191 : decode cX7_getsBy 191 = .ok (.aload_n 0, 1) := by decide +kernel
theorem dX7_getsBy_192 : decode cX7_getsBy 192 = .ok (.getfield 7, 3) := by decide +kernel
theorem dX7_getsBy_195 : decode cX7_getsBy 195 = .ok (.iconst 4, 1) := by decide +kernel
theorem dX7_getsBy_196 : decode cX7_getsBy 196 = .ok (.iload_n 1, 1) := by decide +kernel
theorem dX7_getsBy_197 : decode cX7_getsBy 197 = .ok (.iadd, 1) := by decide +kernel
theorem dX7_getsBy_198 : decode cX7_getsBy 198 = .ok (.iaload, 1) := by decide +kernel
theorem dX7_getsBy_199 : decode cX7_getsBy 199 = .ok (.isub, 1) := by decide +kernel
theorem dX7_getsBy_200 : decode cX7_getsBy 200 = .ok (.istore 9, 2) := by decide +kernel
theorem dX7_getsBy_202 : decode cX7_getsBy 202 = .ok (.iconst 2, 1) := by decide +kernel
theorem dX7_getsBy_203 : decode cX7_getsBy 203 = .ok (.iload 8, 2) := by decide +kernel
theorem dX7_getsBy_205 : decode cX7_getsBy 205 = .ok (.imul, 1) := by decide +kernel
theorem dX7_getsBy_206 : decode cX7_getsBy 206 = .ok (.iload 9, 2) := by decide +kernel
theorem dX7_getsBy_208 : decode cX7_getsBy 208 = .ok (.ifCond .le 8, 3) := by decide +kernel
theorem dX7_getsBy_211 : decode cX7_getsBy 211 = .ok (.iload 9, 2) := by decide +kernel
theorem dX7_getsBy_213 : decode cX7_getsBy 213 = .ok (.goto 4, 3) := by decide +kernel
theorem dX7_getsBy_216 : decode cX7_getsBy 216 = .ok (.iconst 0, 1) := by decide +kernel
theorem dX7_getsBy_217 : decode cX7_getsBy 217 = .ok (.isub, 1) := by decide +kernel
theorem dX7_getsBy_218 : decode cX7_getsBy 218 = .ok (.iload 4, 2) := by decide +kernel
theorem dX7_getsBy_220 : decode cX7_getsBy 220 = .ok (.isub, 1) := by decide +kernel
theorem dX7_getsBy_221 : decode cX7_getsBy 221 = .ok (.ireturn, 1) := by decide +kernel
theorem dX7_doors_0 : decode cX7_doors 0 = .ok (.aload_n 0, 1) := by decide +kernel
theorem dX7_doors_1 : decode cX7_doors 1 = .ok (.iload_n 1, 1) := by decide +kernel
theorem dX7_doors_2 : decode cX7_doors 2 = .ok (.invokevirtual 61, 3) := by decide +kernel
theorem dX7_doors_5 : decode cX7_doors 5 = .ok (.ifCond .eq 42, 3) := by decide +kernel
theorem dX7_doors_8 : decode cX7_doors 8 = .ok (.aload_n 0, 1) := by decide +kernel
theorem dX7_doors_9 : decode cX7_doors 9 = .ok (.iload_n 2, 1) := by decide +kernel
theorem dX7_doors_10 : decode cX7_doors 10 = .ok (.invokevirtual 61, 3) := by decide +kernel
theorem dX7_doors_13 : decode cX7_doors 13 = .ok (.ifCond .eq 34, 3) := by decide +kernel
theorem dX7_doors_16 : decode cX7_doors 16 = .ok (.aload_n 0, 1) := by decide +kernel
theorem dX7_doors_17 : decode cX7_doors 17 = .ok (.iload_n 3, 1) := by decide +kernel
theorem dX7_doors_18 : decode cX7_doors 18 = .ok (.invokevirtual 61, 3) := by decide +kernel
theorem dX7_doors_21 : decode cX7_doors 21 = .ok (.ifCond .eq 26, 3) := by decide +kernel
theorem dX7_doors_24 : decode cX7_doors 24 = .ok (.iload_n 1, 1) := by decide +kernel
theorem dX7_doors_25 : decode cX7_doors 25 = .ok (.iload_n 2, 1) := by decide +kernel
theorem dX7_doors_26 : decode cX7_doors 26 = .ok (.if_icmp .eq 21, 3) := by decide +kernel
theorem dX7_doors_29 : decode cX7_doors 29 = .ok (.iload_n 1, 1) := by decide +kernel
theorem dX7_doors_30 : decode cX7_doors 30 = .ok (.iload_n 3, 1) := by decide +kernel
theorem dX7_doors_31 : decode cX7_doors 31 = .ok (.if_icmp .eq 16, 3) := by decide +kernel
theorem dX7_doors_34 : decode cX7_doors 34 = .ok (.iload_n 2, 1) := by decide +kernel
theorem dX7_doors_35 : decode cX7_doors 35 = .ok (.iload_n 3, 1) := by decide +kernel
theorem dX7_doors_36 : decode cX7_doors 36 = .ok (.if_icmp .eq 11, 3) := by decide +kernel
theorem dX7_doors_39 : decode cX7_doors 39 = .ok (.iload 4, 2) := by decide +kernel
theorem dX7_doors_41 : decode cX7_doors 41 = .ok (.invokestatic 226, 3) := by decide +kernel
theorem dX7_doors_44 : decode cX7_doors 44 = .ok (.ifCond .ne 10, 3) := by decide +kernel
theorem dX7_doors_47 : decode cX7_doors 47 = .ok (.aload_n 0, 1) := by decide +kernel
theorem dX7_doors_48 : decode cX7_doors 48 = .ok (.bipush (-10), 2) := by decide +kernel
theorem dX7_doors_50 : decode cX7_doors 50 = .ok (.invokevirtual 99, 3) := by decide +kernel
theorem dX7_doors_53 : decode cX7_doors 53 = .ok (.ireturn, 1) := by decide +kernel
theorem dX7_doors_54 : decode cX7_doors 54 = .ok (.aload_n 0, 1) := by decide +kernel
theorem dX7_doors_55 : decode cX7_doors 55 = .ok (.getfield 7, 3) := by decide +kernel
theorem dX7_doors_58 : decode cX7_doors 58 = .ok (.bipush 29, 2) := by decide +kernel
theorem dX7_doors_60 : decode cX7_doors 60 = .ok (.iload_n 1, 1) := by decide +kernel
theorem dX7_doors_61 : decode cX7_doors 61 = .ok (.iadd, 1) := by decide +kernel
theorem dX7_doors_62 : decode cX7_doors 62 = .ok (.iaload, 1) := by decide +kernel
theorem dX7_doors_63 : decode cX7_doors 63 = .ok (.ifCond .eq 27, 3) := by decide +kernel
theorem dX7_doors_66 : decode cX7_doors 66 = .ok (.aload_n 0, 1) := by decide +kernel
theorem dX7_doors_67 : decode cX7_doors 67 = .ok (.getfield 7, 3) := by decide +kernel
theorem dX7_doors_70 : decode cX7_doors 70 = .ok (.bipush 29, 2) := by decide +kernel
theorem dX7_doors_72 : decode cX7_doors 72 = .ok (.iload_n 2, 1) := by decide +kernel
theorem dX7_doors_73 : decode cX7_doors 73 = .ok (.iadd, 1) := by decide +kernel
theorem dX7_doors_74 : decode cX7_doors 74 = .ok (.iaload, 1) := by decide +kernel
theorem dX7_doors_75 : decode cX7_doors 75 = .ok (.ifCond .eq 15, 3) := by decide +kernel
theorem dX7_doors_78 : decode cX7_doors 78 = .ok (.aload_n 0, 1) := by decide +kernel
theorem dX7_doors_79 : decode cX7_doors 79 = .ok (.getfield 7, 3) := by decide +kernel
theorem dX7_doors_82 : decode cX7_doors 82 = .ok (.bipush 29, 2) := by decide +kernel
theorem dX7_doors_84 : decode cX7_doors 84 = .ok (.iload_n 3, 1) := by decide +kernel
theorem dX7_doors_85 : decode cX7_doors 85 = .ok (.iadd, 1) := by decide +kernel
theorem dX7_doors_86 : decode cX7_doors 86 = .ok (.iaload, 1) := by decide +kernel
theorem dX7_doors_87 : decode cX7_doors 87 = .ok (.ifCond .ne 10, 3) := by decide +kernel
theorem dX7_doors_90 : decode cX7_doors 90 = .ok (.aload_n 0, 1) := by decide +kernel
theorem dX7_doors_91 : decode cX7_doors 91 = .ok (.bipush (-20), 2) := by decide +kernel
theorem dX7_doors_93 : decode cX7_doors 93 = .ok (.invokevirtual 205, 3) := by decide +kernel
theorem dX7_doors_96 : decode cX7_doors 96 = .ok (.ireturn, 1) := by decide +kernel
theorem dX7_doors_97 : decode cX7_doors 97 = .ok (.iconst 0, 1) := by decide +kernel
theorem dX7_doors_98 : decode cX7_doors 98 = .ok (.istore 5, 2) := by decide +kernel
theorem dX7_doors_100 : decode cX7_doors 100 = .ok (.iconst (-1), 1) := by decide +kernel
theorem dX7_doors_101 : decode cX7_doors 101 = .ok (.istore 6, 2) := by decide +kernel
theorem dX7_doors_103 : decode cX7_doors 103 = .ok (.iconst 3, 1) := by decide +kernel
theorem dX7_doors_104 : decode cX7_doors 104 = .ok (.istore 7, 2) := by decide +kernel
theorem dX7_doors_106 : decode cX7_doors 106 = .ok (.iload 7, 2) := by decide +kernel
theorem dX7_doors_108 : decode cX7_doors 108 = .ok (.ifCond .lt 117, 3) := by decide +kernel
theorem dX7_doors_111 : decode cX7_doors 111 = .ok (.iload 7, 2) := by decide +kernel
theorem dX7_doors_113 : decode cX7_doors 113 = .ok (.iconst 2, 1) := by decide +kernel
theorem dX7_doors_114 : decode cX7_doors 114 = .ok (.idiv, 1) := by decide +kernel
theorem dX7_doors_115 : decode cX7_doors 115 = .ok (.istore 8, 2) := by decide +kernel
theorem dX7_doors_117 : decode cX7_doors 117 = .ok (.iload 7, 2) := by decide +kernel
theorem dX7_doors_119 : decode cX7_doors 119 = .ok (.iconst 2, 1) := by decide +kernel
theorem dX7_doors_120 : decode cX7_doors 120 = .ok (.irem, 1) := by decide +kernel
theorem dX7_doors_121 : decode cX7_doors 121 = .ok (.istore 9, 2) := by decide +kernel
theorem dX7_doors_123 : decode cX7_doors 123 = .ok (.aload_n 0, 1) := by decide +kernel
theorem dX7_doors_124 : decode cX7_doors 124 = .ok (.iload_n 1, 1) := by decide +kernel
theorem dX7_doors_125 : decode cX7_doors 125 = .ok (.iload_n 2, 1) := by decide +kernel
theorem dX7_doors_126 : decode cX7_doors 126 = .ok (.iload_n 3, 1) := by decide +kernel
theorem dX7_doors_127 : decode cX7_doors 127 = .ok (.iload 8, 2) := by decide +kernel
theorem dX7_doors_129 : decode cX7_doors 129 = .ok (.iload 9, 2) := by decide +kernel
theorem dX7_doors_131 : decode cX7_doors 131 = .ok (.invokevirtual 276, 3) := by decide +kernel
theorem dX7_doors_134 : decode cX7_doors 134 = .ok (.aload_n 0, 1) := by decide +kernel
theorem dX7_doors_135 : decode cX7_doors 135 = .ok (.iload_n 1, 1) := by decide +kernel
theorem dX7_doors_136 : decode cX7_doors 136 = .ok (.iload_n 2, 1) := by decide +kernel
theorem dX7_doors_137 : decode cX7_doors 137 = .ok (.iload_n 3, 1) := by decide +kernel
theorem dX7_doors_138 : decode cX7_doors 138 = .ok (.iconst 1, 1) := by decide +kernel
theorem dX7_doors_139 : decode cX7_doors 139 = .ok (.iload 8, 2) := by decide +kernel
theorem dX7_doors_141 : decode cX7_doors 141 = .ok (.isub, 1) := by decide +kernel
theorem dX7_doors_142 : decode cX7_doors 142 = .ok (.iload 9, 2) := by decide +kernel
theorem dX7_doors_144 : decode cX7_doors 144 = .ok (.invokevirtual 276, 3) := by decide +kernel
theorem dX7_doors_147 : decode cX7_doors 147 = .ok (.if_icmp .lt 34, 3) := by decide +kernel
theorem dX7_doors_150 : decode cX7_doors 150 = .ok (.aload_n 0, 1) := by decide +kernel
theorem dX7_doors_151 : decode cX7_doors 151 = .ok (.iload_n 2, 1) := by decide +kernel
theorem dX7_doors_152 : decode cX7_doors 152 = .ok (.iload_n 1, 1) := by decide +kernel
theorem dX7_doors_153 : decode cX7_doors 153 = .ok (.iload_n 3, 1) := by decide +kernel
theorem dX7_doors_154 : decode cX7_doors 154 = .ok (.iload 9, 2) := by decide +kernel
theorem dX7_doors_156 : decode cX7_doors 156 = .ok (.iload 8, 2) := by decide +kernel
theorem dX7_doors_158 : decode cX7_doors 158 = .ok (.invokevirtual 276, 3) := by decide +kernel
theorem dX7_doors_161 : decode cX7_doors 161 = .ok (.aload_n 0, 1) := by decide +kernel
theorem dX7_doors_162 : decode cX7_doors 162 = .ok (.iload_n 2, 1) := by decide +kernel
theorem dX7_doors_163 : decode cX7_doors 163 = .ok (.iload_n 1, 1) := by decide +kernel
theorem dX7_doors_164 : decode cX7_doors 164 = .ok (.iload_n 3, 1) := by decide +kernel
theorem dX7_doors_165 : decode cX7_doors 165 = .ok (.iconst 1, 1) := by decide +kernel
theorem dX7_doors_166 : decode cX7_doors 166 = .ok (.iload 9, 2) := by decide +kernel
theorem dX7_doors_168 : decode cX7_doors 168 = .ok (.isub, 1) := by decide +kernel
theorem dX7_doors_169 : decode cX7_doors 169 = .ok (.iload 8, 2) := by decide +kernel
theorem dX7_doors_171 : decode cX7_doors 171 = .ok (.invokevirtual 276, 3) := by decide +kernel
theorem dX7_doors_174 : decode cX7_doors 174 = .ok (.if_icmp .lt 7, 3) := by decide +kernel
theorem dX7_doors_177 : decode cX7_doors 177 = .ok (.iconst 1, 1) := by decide +kernel
theorem dX7_doors_178 : decode cX7_doors 178 = .ok (.goto 4, 3) := by decide +kernel
theorem dX7_doors_181 : decode cX7_doors 181 = .ok (.iconst 0, 1) := by decide +kernel
theorem dX7_doors_182 : decode cX7_doors 182 = .ok (.istore 10, 2) := by decide +kernel
theorem dX7_doors_184 : decode cX7_doors 184 = .ok (.iload 5, 2) := by decide +kernel
theorem dX7_doors_186 : decode cX7_doors 186 = .ok (.iload 10, 2) := by decide +kernel
theorem dX7_doors_188 : decode cX7_doors 188 = .ok (.ifCond .eq 7, 3) := by decide +kernel
theorem dX7_doors_191 : decode cX7_doors 191 = .ok (.iconst 1, 1) := by decide +kernel
theorem dX7_doors_192 : decode cX7_doors 192 = .ok (.goto 4, 3) := by decide +kernel
theorem dX7_doors_195 : decode cX7_doors 195 = .ok (.iconst 0, 1) := by decide +kernel
theorem dX7_doors_196 : decode cX7_doors 196 = .ok (.iadd, 1) := by decide +kernel
theorem dX7_doors_197 : decode cX7_doors 197 = .ok (.istore 5, 2) := by decide +kernel
theorem dX7_doors_199 : decode cX7_doors 199 = .ok (.iload 10, 2) := by decide +kernel
theorem dX7_doors_201 : decode cX7_doors 201 = .ok (.ifCond .eq 14, 3) := by decide +kernel
theorem dX7_doors_204 : decode cX7_doors 204 = .ok (.bipush 10, 2) := by decide +kernel
theorem dX7_doors_206 : decode cX7_doors 206 = .ok (.iload 8, 2) := by decide +kernel
theorem dX7_doors_208 : decode cX7_doors 208 = .ok (.imul, 1) := by decide +kernel
theorem dX7_doors_209 : decode cX7_doors 209 = .ok (.iload 9, 2) := by decide +kernel
theorem dX7_doors_211 : decode cX7_doors 211 = .ok (.iadd, 1) := by decide +kernel
theorem dX7_doors_212 : decode cX7_doors 212 = .ok (.goto 5, 3) := by decide +kernel
theorem dX7_doors_215 : decode cX7_doors 215 = .ok (.iload 6, 2) := by decide +kernel
theorem dX7_doors_217 : decode cX7_doors 217 = .ok (.istore 6, 2) := by decide +kernel
theorem dX7_doors_219 : decode cX7_doors 219 = .ok (.iinc 7 (-1), 3) := by decide +kernel
theorem dX7_doors_222 : decode cX7_doors 222 = .ok (.goto (-116), 3) := by decide +kernel
theorem dX7_doors_225 : decode cX7_doors 225 = .ok (.iload 4, 2) := by decide +kernel
theorem dX7_doors_227 : decode cX7_doors 227 = .ok (.ifCond .ne 8, 3) := by decide +kernel
theorem dX7_doors_230 : decode cX7_doors 230 = .ok (.iload 5, 2) := by decide +kernel
theorem dX7_doors_232 : decode cX7_doors 232 = .ok (.goto 5, 3) := by decide +kernel
theorem dX7_doors_235 : decode cX7_doors 235 = .ok (.iload 6, 2) := by decide +kernel
theorem dX7_doors_237 : decode cX7_doors 237 = .ok (.ireturn, 1) := by decide +kernel
theorem dX7_drawn_0 : decode cX7_drawn 0 = .ok (.iload_n 1, 1) := by decide +kernel
theorem dX7_drawn_1 : decode cX7_drawn 1 = .ok (.i2l, 1) := by decide +kernel
theorem dX7_drawn_2 : decode cX7_drawn 2 = .ok (.lconst 0, 1) := by decide +kernel
theorem dX7_drawn_3 : decode cX7_drawn 3 = .ok (.ldc2_w 280, 3) := by decide +kernel
theorem dX7_drawn_6 : decode cX7_drawn 6 = .ok (.invokestatic 51, 3) := by decide +kernel
theorem dX7_drawn_9 : decode cX7_drawn 9 = .ok (.ifCond .eq 15, 3) := by decide +kernel
theorem dX7_drawn_12 : decode cX7_drawn 12 = .ok (.iload_n 2, 1) := by decide +kernel
theorem dX7_drawn_13 : decode cX7_drawn 13 = .ok (.i2l, 1) := by decide +kernel
theorem dX7_drawn_14 : decode cX7_drawn 14 = .ok (.lconst 0, 1) := by decide +kernel
theorem dX7_drawn_15 : decode cX7_drawn 15 = .ok (.ldc2_w 67, 3) := by decide +kernel
theorem dX7_drawn_18 : decode cX7_drawn 18 = .ok (.invokestatic 51, 3) := by decide +kernel
theorem dX7_drawn_21 : decode cX7_drawn 21 = .ok (.ifCond .ne 10, 3) := by decide +kernel
theorem dX7_drawn_24 : decode cX7_drawn 24 = .ok (.aload_n 0, 1) := by decide +kernel
theorem dX7_drawn_25 : decode cX7_drawn 25 = .ok (.bipush (-2), 2) := by decide +kernel
theorem dX7_drawn_27 : decode cX7_drawn 27 = .ok (.invokevirtual 99, 3) := by decide +kernel
theorem dX7_drawn_30 : decode cX7_drawn 30 = .ok (.ireturn, 1) := by decide +kernel
theorem dX7_drawn_31 : decode cX7_drawn 31 = .ok (.aload_n 0, 1) := by decide +kernel
theorem dX7_drawn_32 : decode cX7_drawn 32 = .ok (.invokevirtual 229, 3) := by decide +kernel
theorem dX7_drawn_35 : decode cX7_drawn 35 = .ok (.iload_n 1, 1) := by decide +kernel
theorem dX7_drawn_36 : decode cX7_drawn 36 = .ok (.i2l, 1) := by decide +kernel
theorem dX7_drawn_37 : decode cX7_drawn 37 = .ok (.lstore_n 3, 1) := by decide +kernel
theorem dX7_drawn_38 : decode cX7_drawn 38 = .ok (.iconst 0, 1) := by decide +kernel
theorem dX7_drawn_39 : decode cX7_drawn 39 = .ok (.istore 5, 2) := by decide +kernel
theorem dX7_drawn_41 : decode cX7_drawn 41 = .ok (.iload 5, 2) := by decide +kernel
theorem dX7_drawn_43 : decode cX7_drawn 43 = .ok (.iload_n 2, 1) := by decide +kernel
theorem dX7_drawn_44 : decode cX7_drawn 44 = .ok (.if_icmp .ge 106, 3) := by decide +kernel
theorem dX7_drawn_47 : decode cX7_drawn 47 = .ok (.aload_n 0, 1) := by decide +kernel
theorem dX7_drawn_48 : decode cX7_drawn 48 = .ok (.getfield 39, 3) := by decide +kernel
theorem dX7_drawn_51 : decode cX7_drawn 51 = .ok (.invokestatic 217, 3) := by decide +kernel
theorem dX7_drawn_54 : decode cX7_drawn 54 = .ok (.ifCond .eq 96, 3) := by decide +kernel
theorem dX7_drawn_57 : decode cX7_drawn 57 = .ok (.lload_n 3, 1) := by decide +kernel
theorem dX7_drawn_58 : decode cX7_drawn 58 = .ok (.ldc2_w 282, 3) := by decide +kernel
theorem dX7_drawn_61 : decode cX7_drawn 61 = .ok (.lmul, 1) := by decide +kernel
theorem dX7_drawn_62 : decode cX7_drawn 62 = .ok (.ldc2_w 284, 3) := by decide +kernel
theorem dX7_drawn_65 : decode cX7_drawn 65 = .ok (.ladd, 1) := by decide +kernel
theorem dX7_drawn_66 : decode cX7_drawn 66 = .ok (.ldc2_w 286, 3) := by decide +kernel
theorem dX7_drawn_69 : decode cX7_drawn 69 = .ok (.lrem, 1) := by decide +kernel
theorem dX7_drawn_70 : decode cX7_drawn 70 = .ok (.lstore_n 3, 1) := by decide +kernel
theorem dX7_drawn_71 : decode cX7_drawn 71 = .ok (.lload_n 3, 1) := by decide +kernel
theorem dX7_drawn_72 : decode cX7_drawn 72 = .ok (.ldc2_w 288, 3) := by decide +kernel
theorem dX7_drawn_75 : decode cX7_drawn 75 = .ok (.ldiv, 1) := by decide +kernel
theorem dX7_drawn_76 : decode cX7_drawn 76 = .ok (.aload_n 0, 1) := by decide +kernel
theorem dX7_drawn_77 : decode cX7_drawn 77 = .ok (.getfield 39, 3) := by decide +kernel
theorem dX7_drawn_80 : decode cX7_drawn 80 = .ok (.invokestatic 217, 3) := by decide +kernel
theorem dX7_drawn_83 : decode cX7_drawn 83 = .ok (.invokestatic 185, 3) := by decide +kernel
theorem dX7_drawn_86 : decode cX7_drawn 86 = .ok (.i2l, 1) := by decide +kernel
theorem dX7_drawn_87 : decode cX7_drawn 87 = .ok (.lrem, 1) := by decide +kernel
theorem dX7_drawn_88 : decode cX7_drawn 88 = .ok (.l2i, 1) := by decide +kernel
theorem dX7_drawn_89 : decode cX7_drawn 89 = .ok (.istore 6, 2) := by decide +kernel
theorem dX7_drawn_91 : decode cX7_drawn 91 = .ok (.iconst 0, 1) := by decide +kernel
theorem dX7_drawn_92 : decode cX7_drawn 92 = .ok (.istore 7, 2) := by decide +kernel
theorem dX7_drawn_94 : decode cX7_drawn 94 = .ok (.aload_n 0, 1) := by decide +kernel
theorem dX7_drawn_95 : decode cX7_drawn 95 = .ok (.getfield 39, 3) := by decide +kernel
theorem dX7_drawn_98 : decode cX7_drawn 98 = .ok (.bipush 29, 2) := by decide +kernel
theorem dX7_drawn_100 : decode cX7_drawn 100 = .ok (.iload 7, 2) := by decide +kernel
theorem dX7_drawn_102 : decode cX7_drawn 102 = .ok (.iadd, 1) := by decide +kernel
theorem dX7_drawn_103 : decode cX7_drawn 103 = .ok (.iaload, 1) := by decide +kernel
theorem dX7_drawn_104 : decode cX7_drawn 104 = .ok (.ifCond .eq 8, 3) := by decide +kernel
theorem dX7_drawn_107 : decode cX7_drawn 107 = .ok (.iload 6, 2) := by decide +kernel
theorem dX7_drawn_109 : decode cX7_drawn 109 = .ok (.ifCond .le 24, 3) := by decide +kernel
theorem dX7_drawn_112 : decode cX7_drawn 112 = .ok (.iload 6, 2) := by decide +kernel
theorem dX7_drawn_114 : decode cX7_drawn 114 = .ok (.aload_n 0, 1) := by decide +kernel
theorem dX7_drawn_115 : decode cX7_drawn 115 = .ok (.getfield 39, 3) := by decide +kernel
theorem dX7_drawn_118 : decode cX7_drawn 118 = .ok (.bipush 29, 2) := by decide +kernel
theorem dX7_drawn_120 : decode cX7_drawn 120 = .ok (.iload 7, 2) := by decide +kernel
theorem dX7_drawn_122 : decode cX7_drawn 122 = .ok (.iadd, 1) := by decide +kernel
theorem dX7_drawn_123 : decode cX7_drawn 123 = .ok (.iaload, 1) := by decide +kernel
theorem dX7_drawn_124 : decode cX7_drawn 124 = .ok (.isub, 1) := by decide +kernel
theorem dX7_drawn_125 : decode cX7_drawn 125 = .ok (.istore 6, 2) := by decide +kernel
theorem dX7_drawn_127 : decode cX7_drawn 127 = .ok (.iinc 7 1, 3) := by decide +kernel
theorem dX7_drawn_130 : decode cX7_drawn 130 = .ok (.goto (-36), 3) := by decide +kernel
theorem dX7_drawn_133 : decode cX7_drawn 133 = .ok (.aload_n 0, 1) := by decide +kernel
theorem dX7_drawn_134 : decode cX7_drawn 134 = .ok (.aload_n 0, 1) := by decide +kernel
theorem dX7_drawn_135 : decode cX7_drawn 135 = .ok (.getfield 39, 3) := by decide +kernel
theorem dX7_drawn_138 : decode cX7_drawn 138 = .ok (.iload 7, 2) := by decide +kernel
theorem dX7_drawn_140 : decode cX7_drawn 140 = .ok (.invokevirtual 202, 3) := by decide +kernel
theorem dX7_drawn_143 : decode cX7_drawn 143 = .ok (.pop, 1) := by decide +kernel
theorem dX7_drawn_144 : decode cX7_drawn 144 = .ok (.iinc 5 1, 3) := by decide +kernel
theorem dX7_drawn_147 : decode cX7_drawn 147 = .ok (.goto (-106), 3) := by decide +kernel
theorem dX7_drawn_150 : decode cX7_drawn 150 = .ok (.aload_n 0, 1) := by decide +kernel
theorem dX7_drawn_151 : decode cX7_drawn 151 = .ok (.getfield 39, 3) := by decide +kernel
theorem dX7_drawn_154 : decode cX7_drawn 154 = .ok (.iconst (-1), 1) := by decide +kernel
theorem dX7_drawn_155 : decode cX7_drawn 155 = .ok (.invokestatic 181, 3) := by decide +kernel
theorem dX7_drawn_158 : decode cX7_drawn 158 = .ok (.invokestatic 185, 3) := by decide +kernel
theorem dX7_drawn_161 : decode cX7_drawn 161 = .ok (.ireturn, 1) := by decide +kernel
theorem dX7_part_0 : decode cX7_part 0 = .ok (.iload_n 1, 1) := by decide +kernel
theorem dX7_part_1 : decode cX7_part 1 = .ok (.ifCond .ne 10, 3) := by decide +kernel
theorem dX7_part_4 : decode cX7_part 4 = .ok (.aload_n 0, 1) := by decide +kernel
theorem dX7_part_5 : decode cX7_part 5 = .ok (.getfield 264, 3) := by decide +kernel
theorem dX7_part_8 : decode cX7_part 8 = .ok (.goto 22, 3) := by decide +kernel
theorem dX7_part_11 : decode cX7_part 11 = .ok (.iload_n 1, 1) := by decide +kernel
theorem dX7_part_12 : decode cX7_part 12 = .ok (.iconst 1, 1) := by decide +kernel
theorem dX7_part_13 : decode cX7_part 13 = .ok (.if_icmp .ne 10, 3) := by decide +kernel
theorem dX7_part_16 : decode cX7_part 16 = .ok (.aload_n 0, 1) := by decide +kernel
theorem dX7_part_17 : decode cX7_part 17 = .ok (.getfield 23, 3) := by decide +kernel
theorem dX7_part_20 : decode cX7_part 20 = .ok (.goto 10, 3) := by decide +kernel
theorem dX7_part_23 : decode cX7_part 23 = .ok (.aload_n 0, 1) := by decide +kernel
theorem dX7_part_24 : decode cX7_part 24 = .ok (.bipush (-2), 2) := by decide +kernel
theorem dX7_part_26 : decode cX7_part 26 = .ok (.invokevirtual 99, 3) := by decide +kernel
theorem dX7_part_29 : decode cX7_part 29 = .ok (.i2l, 1) := by decide +kernel
theorem dX7_part_30 : decode cX7_part 30 = .ok (.lreturn, 1) := by decide +kernel
theorem dX7_image_0 : decode cX7_image 0 = .ok (.iload_n 1, 1) := by decide +kernel
theorem dX7_image_1 : decode cX7_image 1 = .ok (.invokestatic 226, 3) := by decide +kernel
theorem dX7_image_4 : decode cX7_image 4 = .ok (.ifCond .ne 10, 3) := by decide +kernel
theorem dX7_image_7 : decode cX7_image 7 = .ok (.aload_n 0, 1) := by decide +kernel
theorem dX7_image_8 : decode cX7_image 8 = .ok (.bipush (-2), 2) := by decide +kernel
theorem dX7_image_10 : decode cX7_image 10 = .ok (.invokevirtual 99, 3) := by decide +kernel
theorem dX7_image_13 : decode cX7_image 13 = .ok (.ireturn, 1) := by decide +kernel
theorem dX7_image_14 : decode cX7_image 14 = .ok (.aload_n 0, 1) := by decide +kernel
theorem dX7_image_15 : decode cX7_image 15 = .ok (.getfield 7, 3) := by decide +kernel
theorem dX7_image_18 : decode cX7_image 18 = .ok (.iconst 0, 1) := by decide +kernel
theorem dX7_image_19 : decode cX7_image 19 = .ok (.aload_n 0, 1) := by decide +kernel
theorem dX7_image_20 : decode cX7_image 20 = .ok (.getfield 13, 3) := by decide +kernel
theorem dX7_image_23 : decode cX7_image 23 = .ok (.sipush 228, 3) := by decide +kernel
theorem dX7_image_26 : decode cX7_image 26 = .ok (.iload_n 1, 1) := by decide +kernel
theorem dX7_image_27 : decode cX7_image 27 = .ok (.imul, 1) := by decide +kernel
theorem dX7_image_28 : decode cX7_image 28 = .ok (.sipush 228, 3) := by decide +kernel
theorem dX7_image_31 : decode cX7_image 31 = .ok (.invokestatic 161, 3) := by decide +kernel
theorem dX7_image_34 : decode cX7_image 34 = .ok (.aload_n 0, 1) := by decide +kernel
theorem dX7_image_35 : decode cX7_image 35 = .ok (.getfield 16, 3) := by decide +kernel
theorem dX7_image_38 : decode cX7_image 38 = .ok (.iload_n 1, 1) := by decide +kernel
theorem dX7_image_39 : decode cX7_image 39 = .ok (.iconst 1, 1) := by decide +kernel
theorem dX7_image_40 : decode cX7_image 40 = .ok (.bastore, 1) := by decide +kernel
theorem dX7_image_41 : decode cX7_image 41 = .ok (.iconst 1, 1) := by decide +kernel
theorem dX7_image_42 : decode cX7_image 42 = .ok (.ireturn, 1) := by decide +kernel
theorem dX7_from_0 : decode cX7_from 0 = .ok (.iload_n 1, 1) := by decide +kernel
theorem dX7_from_1 : decode cX7_from 1 = .ok (.invokestatic 226, 3) := by decide +kernel
theorem dX7_from_4 : decode cX7_from 4 = .ok (.ifCond .ne 10, 3) := by decide +kernel
theorem dX7_from_7 : decode cX7_from 7 = .ok (.aload_n 0, 1) := by decide +kernel
theorem dX7_from_8 : decode cX7_from 8 = .ok (.bipush (-2), 2) := by decide +kernel
theorem dX7_from_10 : decode cX7_from 10 = .ok (.invokevirtual 99, 3) := by decide +kernel
theorem dX7_from_13 : decode cX7_from 13 = .ok (.ireturn, 1) := by decide +kernel
theorem dX7_from_14 : decode cX7_from 14 = .ok (.aload_n 0, 1) := by decide +kernel
theorem dX7_from_15 : decode cX7_from 15 = .ok (.getfield 16, 3) := by decide +kernel
theorem dX7_from_18 : decode cX7_from 18 = .ok (.iload_n 1, 1) := by decide +kernel
theorem dX7_from_19 : decode cX7_from 19 = .ok (.baload, 1) := by decide +kernel
theorem dX7_from_20 : decode cX7_from 20 = .ok (.ifCond .ne 10, 3) := by decide +kernel
theorem dX7_from_23 : decode cX7_from 23 = .ok (.aload_n 0, 1) := by decide +kernel
theorem dX7_from_24 : decode cX7_from 24 = .ok (.bipush (-3), 2) := by decide +kernel
theorem dX7_from_26 : decode cX7_from 26 = .ok (.invokevirtual 205, 3) := by decide +kernel
theorem dX7_from_29 : decode cX7_from 29 = .ok (.ireturn, 1) := by decide +kernel
theorem dX7_from_30 : decode cX7_from 30 = .ok (.aload_n 0, 1) := by decide +kernel
theorem dX7_from_31 : decode cX7_from 31 = .ok (.getfield 13, 3) := by decide +kernel
theorem dX7_from_34 : decode cX7_from 34 = .ok (.sipush 228, 3) := by decide +kernel
theorem dX7_from_37 : decode cX7_from 37 = .ok (.iload_n 1, 1) := by decide +kernel
theorem dX7_from_38 : decode cX7_from 38 = .ok (.imul, 1) := by decide +kernel
theorem dX7_from_39 : decode cX7_from 39 = .ok (.aload_n 0, 1) := by decide +kernel
theorem dX7_from_40 : decode cX7_from 40 = .ok (.getfield 7, 3) := by decide +kernel
theorem dX7_from_43 : decode cX7_from 43 = .ok (.iconst 0, 1) := by decide +kernel
theorem dX7_from_44 : decode cX7_from 44 = .ok (.sipush 228, 3) := by decide +kernel
theorem dX7_from_47 : decode cX7_from 47 = .ok (.invokestatic 161, 3) := by decide +kernel
theorem dX7_from_50 : decode cX7_from 50 = .ok (.iconst 1, 1) := by decide +kernel
theorem dX7_from_51 : decode cX7_from 51 = .ok (.ireturn, 1) := by decide +kernel
theorem dX7_status_0 : decode cX7_status 0 = .ok (.iload_n 1, 1) := by decide +kernel
theorem dX7_status_1 : decode cX7_status 1 = .ok (.i2l, 1) := by decide +kernel
theorem dX7_status_2 : decode cX7_status 2 = .ok (.lconst 0, 1) := by decide +kernel
theorem dX7_status_3 : decode cX7_status 3 = .ok (.ldc2_w 290, 3) := by decide +kernel
theorem dX7_status_6 : decode cX7_status 6 = .ok (.invokestatic 51, 3) := by decide +kernel
theorem dX7_status_9 : decode cX7_status 9 = .ok (.ifCond .eq 12, 3) := by decide +kernel
theorem dX7_status_12 : decode cX7_status 12 = .ok (.aload_n 0, 1) := by decide +kernel
theorem dX7_status_13 : decode cX7_status 13 = .ok (.getfield 27, 3) := by decide +kernel
theorem dX7_status_16 : decode cX7_status 16 = .ok (.iload_n 1, 1) := by decide +kernel
theorem dX7_status_17 : decode cX7_status 17 = .ok (.iaload, 1) := by decide +kernel
theorem dX7_status_18 : decode cX7_status 18 = .ok (.goto 8, 3) := by decide +kernel
theorem dX7_status_21 : decode cX7_status 21 = .ok (.aload_n 0, 1) := by decide +kernel
theorem dX7_status_22 : decode cX7_status 22 = .ok (.iconst (-1), 1) := by decide +kernel
theorem dX7_status_23 : decode cX7_status 23 = .ok (.invokevirtual 99, 3) := by decide +kernel
theorem dX7_status_26 : decode cX7_status 26 = .ok (.ireturn, 1) := by decide +kernel
theorem dX7_sumOf_0 : decode cX7_sumOf 0 = .ok (.iconst 0, 1) := by decide +kernel
theorem dX7_sumOf_1 : decode cX7_sumOf 1 = .ok (.istore_n 3, 1) := by decide +kernel
theorem dX7_sumOf_2 : decode cX7_sumOf 2 = .ok (.iconst 0, 1) := by decide +kernel
theorem dX7_sumOf_3 : decode cX7_sumOf 3 = .ok (.istore 4, 2) := by decide +kernel
theorem dX7_sumOf_5 : decode cX7_sumOf 5 = .ok (.iload 4, 2) := by decide +kernel
theorem dX7_sumOf_7 : decode cX7_sumOf 7 = .ok (.iload_n 2, 1) := by decide +kernel
theorem dX7_sumOf_8 : decode cX7_sumOf 8 = .ok (.if_icmp .ge 21, 3) := by decide +kernel
theorem dX7_sumOf_11 : decode cX7_sumOf 11 = .ok (.iload_n 3, 1) := by decide +kernel
theorem dX7_sumOf_12 : decode cX7_sumOf 12 = .ok (.aload_n 0, 1) := by decide +kernel
theorem dX7_sumOf_13 : decode cX7_sumOf 13 = .ok (.getfield 7, 3) := by decide +kernel
theorem dX7_sumOf_16 : decode cX7_sumOf 16 = .ok (.iload_n 1, 1) := by decide +kernel
theorem dX7_sumOf_17 : decode cX7_sumOf 17 = .ok (.iload 4, 2) := by decide +kernel
theorem dX7_sumOf_19 : decode cX7_sumOf 19 = .ok (.iadd, 1) := by decide +kernel
theorem dX7_sumOf_20 : decode cX7_sumOf 20 = .ok (.iaload, 1) := by decide +kernel
theorem dX7_sumOf_21 : decode cX7_sumOf 21 = .ok (.iadd, 1) := by decide +kernel
theorem dX7_sumOf_22 : decode cX7_sumOf 22 = .ok (.istore_n 3, 1) := by decide +kernel
theorem dX7_sumOf_23 : decode cX7_sumOf 23 = .ok (.iinc 4 1, 3) := by decide +kernel
theorem dX7_sumOf_26 : decode cX7_sumOf 26 = .ok (.goto (-21), 3) := by decide +kernel
theorem dX7_sumOf_29 : decode cX7_sumOf 29 = .ok (.iload_n 3, 1) := by decide +kernel
theorem dX7_sumOf_30 : decode cX7_sumOf 30 = .ok (.ireturn, 1) := by decide +kernel
theorem dX7_counted_0 : decode cX7_counted 0 = .ok (.iload_n 1, 1) := by decide +kernel
theorem dX7_counted_1 : decode cX7_counted 1 = .ok (.tableswitch 120 0 7 #[47, 54, 65, 72, 84, 95, 106, 113], 47) := by decide +kernel
theorem dX7_counted_48 : decode cX7_counted 48 = .ok (.aload_n 0, 1) := by decide +kernel
theorem dX7_counted_49 : decode cX7_counted 49 = .ok (.getfield 7, 3) := by decide +kernel
theorem dX7_counted_52 : decode cX7_counted 52 = .ok (.iconst 0, 1) := by decide +kernel
theorem dX7_counted_53 : decode cX7_counted 53 = .ok (.iaload, 1) := by decide +kernel
theorem dX7_counted_54 : decode cX7_counted 54 = .ok (.ireturn, 1) := by decide +kernel
theorem dX7_counted_55 : decode cX7_counted 55 = .ok (.aload_n 0, 1) := by decide +kernel
theorem dX7_counted_56 : decode cX7_counted 56 = .ok (.getfield 7, 3) := by decide +kernel
theorem dX7_counted_59 : decode cX7_counted 59 = .ok (.invokestatic 217, 3) := by decide +kernel
theorem dX7_counted_62 : decode cX7_counted 62 = .ok (.invokestatic 185, 3) := by decide +kernel
theorem dX7_counted_65 : decode cX7_counted 65 = .ok (.ireturn, 1) := by decide +kernel
theorem dX7_counted_66 : decode cX7_counted 66 = .ok (.aload_n 0, 1) := by decide +kernel
theorem dX7_counted_67 : decode cX7_counted 67 = .ok (.getfield 7, 3) := by decide +kernel
theorem dX7_counted_70 : decode cX7_counted 70 = .ok (.iconst 1, 1) := by decide +kernel
theorem dX7_counted_71 : decode cX7_counted 71 = .ok (.iaload, 1) := by decide +kernel
theorem dX7_counted_72 : decode cX7_counted 72 = .ok (.ireturn, 1) := by decide +kernel
theorem dX7_counted_73 : decode cX7_counted 73 = .ok (.aload_n 0, 1) := by decide +kernel
theorem dX7_counted_74 : decode cX7_counted 74 = .ok (.getfield 7, 3) := by decide +kernel
theorem dX7_counted_77 : decode cX7_counted 77 = .ok (.iconst (-1), 1) := by decide +kernel
theorem dX7_counted_78 : decode cX7_counted 78 = .ok (.invokestatic 181, 3) := by decide +kernel
theorem dX7_counted_81 : decode cX7_counted 81 = .ok (.invokestatic 185, 3) := by decide +kernel
theorem dX7_counted_84 : decode cX7_counted 84 = .ok (.ireturn, 1) := by decide +kernel
theorem dX7_counted_85 : decode cX7_counted 85 = .ok (.aload_n 0, 1) := by decide +kernel
theorem dX7_counted_86 : decode cX7_counted 86 = .ok (.bipush 39, 2) := by decide +kernel
theorem dX7_counted_88 : decode cX7_counted 88 = .ok (.bipush 25, 2) := by decide +kernel
theorem dX7_counted_90 : decode cX7_counted 90 = .ok (.invokevirtual 292, 3) := by decide +kernel
theorem dX7_counted_93 : decode cX7_counted 93 = .ok (.iconst 2, 1) := by decide +kernel
theorem dX7_counted_94 : decode cX7_counted 94 = .ok (.idiv, 1) := by decide +kernel
theorem dX7_counted_95 : decode cX7_counted 95 = .ok (.ireturn, 1) := by decide +kernel
theorem dX7_counted_96 : decode cX7_counted 96 = .ok (.aload_n 0, 1) := by decide +kernel
theorem dX7_counted_97 : decode cX7_counted 97 = .ok (.bipush 76, 2) := by decide +kernel
theorem dX7_counted_99 : decode cX7_counted 99 = .ok (.bipush 16, 2) := by decide +kernel
theorem dX7_counted_101 : decode cX7_counted 101 = .ok (.invokevirtual 292, 3) := by decide +kernel
theorem dX7_counted_104 : decode cX7_counted 104 = .ok (.iconst 2, 1) := by decide +kernel
theorem dX7_counted_105 : decode cX7_counted 105 = .ok (.idiv, 1) := by decide +kernel
theorem dX7_counted_106 : decode cX7_counted 106 = .ok (.ireturn, 1) := by decide +kernel
theorem dX7_counted_107 : decode cX7_counted 107 = .ok (.aload_n 0, 1) := by decide +kernel
theorem dX7_counted_108 : decode cX7_counted 108 = .ok (.getfield 7, 3) := by decide +kernel
theorem dX7_counted_111 : decode cX7_counted 111 = .ok (.iconst 2, 1) := by decide +kernel
theorem dX7_counted_112 : decode cX7_counted 112 = .ok (.iaload, 1) := by decide +kernel
theorem dX7_counted_113 : decode cX7_counted 113 = .ok (.ireturn, 1) := by decide +kernel
theorem dX7_counted_114 : decode cX7_counted 114 = .ok (.aload_n 0, 1) := by decide +kernel
theorem dX7_counted_115 : decode cX7_counted 115 = .ok (.getfield 7, 3) := by decide +kernel
theorem dX7_counted_118 : decode cX7_counted 118 = .ok (.iconst 3, 1) := by decide +kernel
theorem dX7_counted_119 : decode cX7_counted 119 = .ok (.iaload, 1) := by decide +kernel
theorem dX7_counted_120 : decode cX7_counted 120 = .ok (.ireturn, 1) := by decide +kernel
theorem dX7_counted_121 : decode cX7_counted 121 = .ok (.aload_n 0, 1) := by decide +kernel
theorem dX7_counted_122 : decode cX7_counted 122 = .ok (.getfield 104, 3) := by decide +kernel
theorem dX7_counted_125 : decode cX7_counted 125 = .ok (.ireturn, 1) := by decide +kernel
theorem dX7_count_0 : decode cX7_count 0 = .ok (.iload_n 1, 1) := by decide +kernel
theorem dX7_count_1 : decode cX7_count 1 = .ok (.i2l, 1) := by decide +kernel
theorem dX7_count_2 : decode cX7_count 2 = .ok (.lconst 0, 1) := by decide +kernel
theorem dX7_count_3 : decode cX7_count 3 = .ok (.ldc2_w 271, 3) := by decide +kernel
theorem dX7_count_6 : decode cX7_count 6 = .ok (.invokestatic 51, 3) := by decide +kernel
theorem dX7_count_9 : decode cX7_count 9 = .ok (.ifCond .eq 11, 3) := by decide +kernel
theorem dX7_count_12 : decode cX7_count 12 = .ok (.aload_n 0, 1) := by decide +kernel
theorem dX7_count_13 : decode cX7_count 13 = .ok (.iload_n 1, 1) := by decide +kernel
theorem dX7_count_14 : decode cX7_count 14 = .ok (.invokevirtual 295, 3) := by decide +kernel
theorem dX7_count_17 : decode cX7_count 17 = .ok (.goto 9, 3) := by decide +kernel
theorem dX7_count_20 : decode cX7_count 20 = .ok (.aload_n 0, 1) := by decide +kernel
theorem dX7_count_21 : decode cX7_count 21 = .ok (.bipush (-2), 2) := by decide +kernel
theorem dX7_count_23 : decode cX7_count 23 = .ok (.invokevirtual 99, 3) := by decide +kernel
theorem dX7_count_26 : decode cX7_count 26 = .ok (.ireturn, 1) := by decide +kernel
theorem dX7_digest_0 : decode cX7_digest 0 = .ok (.ldc2_w 298, 3) := by decide +kernel
theorem dX7_digest_3 : decode cX7_digest 3 = .ok (.lstore_n 1, 1) := by decide +kernel
theorem dX7_digest_4 : decode cX7_digest 4 = .ok (.iconst 0, 1) := by decide +kernel
theorem dX7_digest_5 : decode cX7_digest 5 = .ok (.istore_n 3, 1) := by decide +kernel
theorem dX7_digest_6 : decode cX7_digest 6 = .ok (.iload_n 3, 1) := by decide +kernel
theorem dX7_digest_7 : decode cX7_digest 7 = .ok (.bipush 9, 2) := by decide +kernel
theorem dX7_digest_9 : decode cX7_digest 9 = .ok (.if_icmp .ge 22, 3) := by decide +kernel
theorem dX7_digest_12 : decode cX7_digest 12 = .ok (.ldc2_w 300, 3) := by decide +kernel
theorem dX7_digest_15 : decode cX7_digest 15 = .ok (.lload_n 1, 1) := by decide +kernel
theorem dX7_digest_16 : decode cX7_digest 16 = .ok (.lmul, 1) := by decide +kernel
theorem dX7_digest_17 : decode cX7_digest 17 = .ok (.aload_n 0, 1) := by decide +kernel
theorem dX7_digest_18 : decode cX7_digest 18 = .ok (.iload_n 3, 1) := by decide +kernel
theorem dX7_digest_19 : decode cX7_digest 19 = .ok (.invokevirtual 295, 3) := by decide +kernel
theorem dX7_digest_22 : decode cX7_digest 22 = .ok (.i2l, 1) := by decide +kernel
theorem dX7_digest_23 : decode cX7_digest 23 = .ok (.ladd, 1) := by decide +kernel
theorem dX7_digest_24 : decode cX7_digest 24 = .ok (.lstore_n 1, 1) := by decide +kernel
theorem dX7_digest_25 : decode cX7_digest 25 = .ok (.iinc 3 1, 3) := by decide +kernel
theorem dX7_digest_28 : decode cX7_digest 28 = .ok (.goto (-22), 3) := by decide +kernel
theorem dX7_digest_31 : decode cX7_digest 31 = .ok (.iconst 0, 1) := by decide +kernel
theorem dX7_digest_32 : decode cX7_digest 32 = .ok (.istore_n 3, 1) := by decide +kernel
theorem dX7_digest_33 : decode cX7_digest 33 = .ok (.iload_n 3, 1) := by decide +kernel
theorem dX7_digest_34 : decode cX7_digest 34 = .ok (.aload_n 0, 1) := by decide +kernel
theorem dX7_digest_35 : decode cX7_digest 35 = .ok (.getfield 7, 3) := by decide +kernel
theorem dX7_digest_38 : decode cX7_digest 38 = .ok (.iconst 0, 1) := by decide +kernel
theorem dX7_digest_39 : decode cX7_digest 39 = .ok (.iaload, 1) := by decide +kernel
theorem dX7_digest_40 : decode cX7_digest 40 = .ok (.if_icmp .ge 46, 3) := by decide +kernel
theorem dX7_digest_43 : decode cX7_digest 43 = .ok (.iconst 0, 1) := by decide +kernel
theorem dX7_digest_44 : decode cX7_digest 44 = .ok (.istore 4, 2) := by decide +kernel
theorem dX7_digest_46 : decode cX7_digest 46 = .ok (.iload 4, 2) := by decide +kernel
theorem dX7_digest_48 : decode cX7_digest 48 = .ok (.bipush 7, 2) := by decide +kernel
theorem dX7_digest_50 : decode cX7_digest 50 = .ok (.if_icmp .ge 30, 3) := by decide +kernel
theorem dX7_digest_53 : decode cX7_digest 53 = .ok (.ldc2_w 300, 3) := by decide +kernel
theorem dX7_digest_56 : decode cX7_digest 56 = .ok (.lload_n 1, 1) := by decide +kernel
theorem dX7_digest_57 : decode cX7_digest 57 = .ok (.lmul, 1) := by decide +kernel
theorem dX7_digest_58 : decode cX7_digest 58 = .ok (.aload_n 0, 1) := by decide +kernel
theorem dX7_digest_59 : decode cX7_digest 59 = .ok (.getfield 7, 3) := by decide +kernel
theorem dX7_digest_62 : decode cX7_digest 62 = .ok (.iconst 4, 1) := by decide +kernel
theorem dX7_digest_63 : decode cX7_digest 63 = .ok (.iconst 5, 1) := by decide +kernel
theorem dX7_digest_64 : decode cX7_digest 64 = .ok (.iload 4, 2) := by decide +kernel
theorem dX7_digest_66 : decode cX7_digest 66 = .ok (.imul, 1) := by decide +kernel
theorem dX7_digest_67 : decode cX7_digest 67 = .ok (.iadd, 1) := by decide +kernel
theorem dX7_digest_68 : decode cX7_digest 68 = .ok (.iload_n 3, 1) := by decide +kernel
theorem dX7_digest_69 : decode cX7_digest 69 = .ok (.iadd, 1) := by decide +kernel
theorem dX7_digest_70 : decode cX7_digest 70 = .ok (.iaload, 1) := by decide +kernel
theorem dX7_digest_71 : decode cX7_digest 71 = .ok (.i2l, 1) := by decide +kernel
theorem dX7_digest_72 : decode cX7_digest 72 = .ok (.ladd, 1) := by decide +kernel
theorem dX7_digest_73 : decode cX7_digest 73 = .ok (.lstore_n 1, 1) := by decide +kernel
theorem dX7_digest_74 : decode cX7_digest 74 = .ok (.iinc 4 1, 3) := by decide +kernel
theorem dX7_digest_77 : decode cX7_digest 77 = .ok (.goto (-31), 3) := by decide +kernel
theorem dX7_digest_80 : decode cX7_digest 80 = .ok (.iinc 3 1, 3) := by decide +kernel
theorem dX7_digest_83 : decode cX7_digest 83 = .ok (.goto (-50), 3) := by decide +kernel
theorem dX7_digest_86 : decode cX7_digest 86 = .ok (.iconst 0, 1) := by decide +kernel
theorem dX7_digest_87 : decode cX7_digest 87 = .ok (.istore_n 3, 1) := by decide +kernel
theorem dX7_digest_88 : decode cX7_digest 88 = .ok (.iload_n 3, 1) := by decide +kernel
theorem dX7_digest_89 : decode cX7_digest 89 = .ok (.aload_n 0, 1) := by decide +kernel
theorem dX7_digest_90 : decode cX7_digest 90 = .ok (.getfield 7, 3) := by decide +kernel
theorem dX7_digest_93 : decode cX7_digest 93 = .ok (.iconst 0, 1) := by decide +kernel
theorem dX7_digest_94 : decode cX7_digest 94 = .ok (.iaload, 1) := by decide +kernel
theorem dX7_digest_95 : decode cX7_digest 95 = .ok (.if_icmp .ge 53, 3) := by decide +kernel
theorem dX7_digest_98 : decode cX7_digest 98 = .ok (.iload_n 3, 1) := by decide +kernel
theorem dX7_digest_99 : decode cX7_digest 99 = .ok (.iconst 1, 1) := by decide +kernel
theorem dX7_digest_100 : decode cX7_digest 100 = .ok (.iadd, 1) := by decide +kernel
theorem dX7_digest_101 : decode cX7_digest 101 = .ok (.istore 4, 2) := by decide +kernel
theorem dX7_digest_103 : decode cX7_digest 103 = .ok (.iload 4, 2) := by decide +kernel
theorem dX7_digest_105 : decode cX7_digest 105 = .ok (.aload_n 0, 1) := by decide +kernel
theorem dX7_digest_106 : decode cX7_digest 106 = .ok (.getfield 7, 3) := by decide +kernel
theorem dX7_digest_109 : decode cX7_digest 109 = .ok (.iconst 0, 1) := by decide +kernel
theorem dX7_digest_110 : decode cX7_digest 110 = .ok (.iaload, 1) := by decide +kernel
theorem dX7_digest_111 : decode cX7_digest 111 = .ok (.if_icmp .ge 31, 3) := by decide +kernel
theorem dX7_digest_114 : decode cX7_digest 114 = .ok (.ldc2_w 300, 3) := by decide +kernel
theorem dX7_digest_117 : decode cX7_digest 117 = .ok (.lload_n 1, 1) := by decide +kernel
theorem dX7_digest_118 : decode cX7_digest 118 = .ok (.lmul, 1) := by decide +kernel
theorem dX7_digest_119 : decode cX7_digest 119 = .ok (.aload_n 0, 1) := by decide +kernel
theorem dX7_digest_120 : decode cX7_digest 120 = .ok (.getfield 7, 3) := by decide +kernel
theorem dX7_digest_123 : decode cX7_digest 123 = .ok (.bipush 39, 2) := by decide +kernel
theorem dX7_digest_125 : decode cX7_digest 125 = .ok (.iconst 5, 1) := by decide +kernel
theorem dX7_digest_126 : decode cX7_digest 126 = .ok (.iload_n 3, 1) := by decide +kernel
theorem dX7_digest_127 : decode cX7_digest 127 = .ok (.imul, 1) := by decide +kernel
theorem dX7_digest_128 : decode cX7_digest 128 = .ok (.iadd, 1) := by decide +kernel
theorem dX7_digest_129 : decode cX7_digest 129 = .ok (.iload 4, 2) := by decide +kernel
theorem dX7_digest_131 : decode cX7_digest 131 = .ok (.iadd, 1) := by decide +kernel
theorem dX7_digest_132 : decode cX7_digest 132 = .ok (.iaload, 1) := by decide +kernel
theorem dX7_digest_133 : decode cX7_digest 133 = .ok (.i2l, 1) := by decide +kernel
theorem dX7_digest_134 : decode cX7_digest 134 = .ok (.ladd, 1) := by decide +kernel
theorem dX7_digest_135 : decode cX7_digest 135 = .ok (.lstore_n 1, 1) := by decide +kernel
theorem dX7_digest_136 : decode cX7_digest 136 = .ok (.iinc 4 1, 3) := by decide +kernel
theorem dX7_digest_139 : decode cX7_digest 139 = .ok (.goto (-36), 3) := by decide +kernel
theorem dX7_digest_142 : decode cX7_digest 142 = .ok (.iinc 3 1, 3) := by decide +kernel
theorem dX7_digest_145 : decode cX7_digest 145 = .ok (.goto (-57), 3) := by decide +kernel
theorem dX7_digest_148 : decode cX7_digest 148 = .ok (.iconst 0, 1) := by decide +kernel
theorem dX7_digest_149 : decode cX7_digest 149 = .ok (.istore_n 3, 1) := by decide +kernel
theorem dX7_digest_150 : decode cX7_digest 150 = .ok (.iload_n 3, 1) := by decide +kernel
theorem dX7_digest_151 : decode cX7_digest 151 = .ok (.aload_n 0, 1) := by decide +kernel
theorem dX7_digest_152 : decode cX7_digest 152 = .ok (.getfield 7, 3) := by decide +kernel
theorem dX7_digest_155 : decode cX7_digest 155 = .ok (.iconst 1, 1) := by decide +kernel
theorem dX7_digest_156 : decode cX7_digest 156 = .ok (.iaload, 1) := by decide +kernel
theorem dX7_digest_157 : decode cX7_digest 157 = .ok (.if_icmp .ge 41, 3) := by decide +kernel
theorem dX7_digest_160 : decode cX7_digest 160 = .ok (.ldc2_w 300, 3) := by decide +kernel
theorem dX7_digest_163 : decode cX7_digest 163 = .ok (.ldc2_w 300, 3) := by decide +kernel
theorem dX7_digest_166 : decode cX7_digest 166 = .ok (.lload_n 1, 1) := by decide +kernel
theorem dX7_digest_167 : decode cX7_digest 167 = .ok (.lmul, 1) := by decide +kernel
theorem dX7_digest_168 : decode cX7_digest 168 = .ok (.aload_n 0, 1) := by decide +kernel
theorem dX7_digest_169 : decode cX7_digest 169 = .ok (.getfield 7, 3) := by decide +kernel
theorem dX7_digest_172 : decode cX7_digest 172 = .ok (.bipush 64, 2) := by decide +kernel
theorem dX7_digest_174 : decode cX7_digest 174 = .ok (.iload_n 3, 1) := by decide +kernel
theorem dX7_digest_175 : decode cX7_digest 175 = .ok (.iadd, 1) := by decide +kernel
theorem dX7_digest_176 : decode cX7_digest 176 = .ok (.iaload, 1) := by decide +kernel
theorem dX7_digest_177 : decode cX7_digest 177 = .ok (.i2l, 1) := by decide +kernel
theorem dX7_digest_178 : decode cX7_digest 178 = .ok (.ladd, 1) := by decide +kernel
theorem dX7_digest_179 : decode cX7_digest 179 = .ok (.lmul, 1) := by decide +kernel
theorem dX7_digest_180 : decode cX7_digest 180 = .ok (.aload_n 0, 1) := by decide +kernel
theorem dX7_digest_181 : decode cX7_digest 181 = .ok (.getfield 7, 3) := by decide +kernel
theorem dX7_digest_184 : decode cX7_digest 184 = .ok (.bipush 70, 2) := by decide +kernel
theorem dX7_digest_186 : decode cX7_digest 186 = .ok (.iload_n 3, 1) := by decide +kernel
theorem dX7_digest_187 : decode cX7_digest 187 = .ok (.iadd, 1) := by decide +kernel
theorem dX7_digest_188 : decode cX7_digest 188 = .ok (.iaload, 1) := by decide +kernel
theorem dX7_digest_189 : decode cX7_digest 189 = .ok (.i2l, 1) := by decide +kernel
theorem dX7_digest_190 : decode cX7_digest 190 = .ok (.ladd, 1) := by decide +kernel
theorem dX7_digest_191 : decode cX7_digest 191 = .ok (.lstore_n 1, 1) := by decide +kernel
theorem dX7_digest_192 : decode cX7_digest 192 = .ok (.iinc 3 1, 3) := by decide +kernel
theorem dX7_digest_195 : decode cX7_digest 195 = .ok (.goto (-45), 3) := by decide +kernel
theorem dX7_digest_198 : decode cX7_digest 198 = .ok (.iconst 0, 1) := by decide +kernel
theorem dX7_digest_199 : decode cX7_digest 199 = .ok (.istore_n 3, 1) := by decide +kernel
theorem dX7_digest_200 : decode cX7_digest 200 = .ok (.iload_n 3, 1) := by decide +kernel
theorem dX7_digest_201 : decode cX7_digest 201 = .ok (.iconst 4, 1) := by decide +kernel
theorem dX7_digest_202 : decode cX7_digest 202 = .ok (.if_icmp .ge 48, 3) := by decide +kernel
theorem dX7_digest_205 : decode cX7_digest 205 = .ok (.iload_n 3, 1) := by decide +kernel
theorem dX7_digest_206 : decode cX7_digest 206 = .ok (.iconst 1, 1) := by decide +kernel
theorem dX7_digest_207 : decode cX7_digest 207 = .ok (.iadd, 1) := by decide +kernel
theorem dX7_digest_208 : decode cX7_digest 208 = .ok (.istore 4, 2) := by decide +kernel
theorem dX7_digest_210 : decode cX7_digest 210 = .ok (.iload 4, 2) := by decide +kernel
theorem dX7_digest_212 : decode cX7_digest 212 = .ok (.iconst 4, 1) := by decide +kernel
theorem dX7_digest_213 : decode cX7_digest 213 = .ok (.if_icmp .ge 31, 3) := by decide +kernel
theorem dX7_digest_216 : decode cX7_digest 216 = .ok (.ldc2_w 300, 3) := by decide +kernel
theorem dX7_digest_219 : decode cX7_digest 219 = .ok (.lload_n 1, 1) := by decide +kernel
theorem dX7_digest_220 : decode cX7_digest 220 = .ok (.lmul, 1) := by decide +kernel
theorem dX7_digest_221 : decode cX7_digest 221 = .ok (.aload_n 0, 1) := by decide +kernel
theorem dX7_digest_222 : decode cX7_digest 222 = .ok (.getfield 7, 3) := by decide +kernel
theorem dX7_digest_225 : decode cX7_digest 225 = .ok (.bipush 76, 2) := by decide +kernel
theorem dX7_digest_227 : decode cX7_digest 227 = .ok (.iconst 4, 1) := by decide +kernel
theorem dX7_digest_228 : decode cX7_digest 228 = .ok (.iload_n 3, 1) := by decide +kernel
theorem dX7_digest_229 : decode cX7_digest 229 = .ok (.imul, 1) := by decide +kernel
theorem dX7_digest_230 : decode cX7_digest 230 = .ok (.iadd, 1) := by decide +kernel
theorem dX7_digest_231 : decode cX7_digest 231 = .ok (.iload 4, 2) := by decide +kernel
theorem dX7_digest_233 : decode cX7_digest 233 = .ok (.iadd, 1) := by decide +kernel
theorem dX7_digest_234 : decode cX7_digest 234 = .ok (.iaload, 1) := by decide +kernel
theorem dX7_digest_235 : decode cX7_digest 235 = .ok (.i2l, 1) := by decide +kernel
theorem dX7_digest_236 : decode cX7_digest 236 = .ok (.ladd, 1) := by decide +kernel
theorem dX7_digest_237 : decode cX7_digest 237 = .ok (.lstore_n 1, 1) := by decide +kernel
theorem dX7_digest_238 : decode cX7_digest 238 = .ok (.iinc 4 1, 3) := by decide +kernel
theorem dX7_digest_241 : decode cX7_digest 241 = .ok (.goto (-31), 3) := by decide +kernel
theorem dX7_digest_244 : decode cX7_digest 244 = .ok (.iinc 3 1, 3) := by decide +kernel
theorem dX7_digest_247 : decode cX7_digest 247 = .ok (.goto (-47), 3) := by decide +kernel
theorem dX7_digest_250 : decode cX7_digest 250 = .ok (.ldc2_w 300, 3) := by decide +kernel
theorem dX7_digest_253 : decode cX7_digest 253 = .ok (.ldc2_w 300, 3) := by decide +kernel
theorem dX7_digest_256 : decode cX7_digest 256 = .ok (.lload_n 1, 1) := by decide +kernel
theorem dX7_digest_257 : decode cX7_digest 257 = .ok (.lmul, 1) := by decide +kernel
theorem dX7_digest_258 : decode cX7_digest 258 = .ok (.aload_n 0, 1) := by decide +kernel
theorem dX7_digest_259 : decode cX7_digest 259 = .ok (.getfield 264, 3) := by decide +kernel
theorem dX7_digest_262 : decode cX7_digest 262 = .ok (.ladd, 1) := by decide +kernel
theorem dX7_digest_263 : decode cX7_digest 263 = .ok (.lmul, 1) := by decide +kernel
theorem dX7_digest_264 : decode cX7_digest 264 = .ok (.aload_n 0, 1) := by decide +kernel
theorem dX7_digest_265 : decode cX7_digest 265 = .ok (.getfield 23, 3) := by decide +kernel
theorem dX7_digest_268 : decode cX7_digest 268 = .ok (.ladd, 1) := by decide +kernel
theorem dX7_digest_269 : decode cX7_digest 269 = .ok (.lreturn, 1) := by decide +kernel
