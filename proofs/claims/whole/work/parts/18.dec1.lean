theorem dX0_keep_0 : decode cX0_keep 0 = .ok (.aload_n 0, 1) := by decide +kernel
theorem dX0_keep_1 : decode cX0_keep 1 = .ok (.getfield 16, 3) := by decide +kernel
theorem dX0_keep_4 : decode cX0_keep 4 = .ok (.aload_n 1, 1) := by decide +kernel
theorem dX0_keep_5 : decode cX0_keep 5 = .ok (.invokevirtual 27, 3) := by decide +kernel
theorem dX0_keep_8 : decode cX0_keep 8 = .ok (.aload_n 0, 1) := by decide +kernel
theorem dX0_keep_9 : decode cX0_keep 9 = .ok (.getfield 23, 3) := by decide +kernel
theorem dX0_keep_12 : decode cX0_keep 12 = .ok (.aload_n 2, 1) := by decide +kernel
theorem dX0_keep_13 : decode cX0_keep 13 = .ok (.invokevirtual 31, 3) := by decide +kernel
theorem dX0_keep_16 : decode cX0_keep 16 = .ok (.aload_n 0, 1) := by decide +kernel
theorem dX0_keep_17 : decode cX0_keep 17 = .ok (.iconst 1, 1) := by decide +kernel
theorem dX0_keep_18 : decode cX0_keep 18 = .ok (.putfield 7, 3) := by decide +kernel
theorem dX0_keep_21 : decode cX0_keep 21 = .ok (.return_, 1) := by decide +kernel
theorem dX0_giveBack_0 : decode cX0_giveBack 0 = .ok (.aload_n 1, 1) := by decide +kernel
theorem dX0_giveBack_1 : decode cX0_giveBack 1 = .ok (.aload_n 0, 1) := by decide +kernel
theorem dX0_giveBack_2 : decode cX0_giveBack 2 = .ok (.getfield 16, 3) := by decide +kernel
theorem dX0_giveBack_5 : decode cX0_giveBack 5 = .ok (.invokevirtual 27, 3) := by decide +kernel
theorem dX0_giveBack_8 : decode cX0_giveBack 8 = .ok (.aload_n 2, 1) := by decide +kernel
theorem dX0_giveBack_9 : decode cX0_giveBack 9 = .ok (.aload_n 0, 1) := by decide +kernel
theorem dX0_giveBack_10 : decode cX0_giveBack 10 = .ok (.getfield 23, 3) := by decide +kernel
theorem dX0_giveBack_13 : decode cX0_giveBack 13 = .ok (.invokevirtual 31, 3) := by decide +kernel
theorem dX0_giveBack_16 : decode cX0_giveBack 16 = .ok (.return_, 1) := by decide +kernel
theorem dX1_seek_0 : decode cX1_seek 0 = .ok (.iconst 0, 1) := by decide +kernel
theorem dX1_seek_1 : decode cX1_seek 1 = .ok (.istore_n 2, 1) := by decide +kernel
theorem dX1_seek_2 : decode cX1_seek 2 = .ok (.iload_n 2, 1) := by decide +kernel
theorem dX1_seek_3 : decode cX1_seek 3 = .ok (.iconst 5, 1) := by decide +kernel
theorem dX1_seek_4 : decode cX1_seek 4 = .ok (.if_icmp .ge 23, 3) := by decide +kernel
theorem dX1_seek_7 : decode cX1_seek 7 = .ok (.aload_n 0, 1) := by decide +kernel
theorem dX1_seek_8 : decode cX1_seek 8 = .ok (.getfield 9, 3) := by decide +kernel
theorem dX1_seek_11 : decode cX1_seek 11 = .ok (.iload_n 2, 1) := by decide +kernel
theorem dX1_seek_12 : decode cX1_seek 12 = .ok (.iconst 0, 1) := by decide +kernel
theorem dX1_seek_13 : decode cX1_seek 13 = .ok (.iastore, 1) := by decide +kernel
theorem dX1_seek_14 : decode cX1_seek 14 = .ok (.aload_n 0, 1) := by decide +kernel
theorem dX1_seek_15 : decode cX1_seek 15 = .ok (.getfield 15, 3) := by decide +kernel
theorem dX1_seek_18 : decode cX1_seek 18 = .ok (.iload_n 2, 1) := by decide +kernel
theorem dX1_seek_19 : decode cX1_seek 19 = .ok (.iconst 0, 1) := by decide +kernel
theorem dX1_seek_20 : decode cX1_seek 20 = .ok (.iastore, 1) := by decide +kernel
theorem dX1_seek_21 : decode cX1_seek 21 = .ok (.iinc 2 1, 3) := by decide +kernel
theorem dX1_seek_24 : decode cX1_seek 24 = .ok (.goto (-22), 3) := by decide +kernel
theorem dX1_seek_27 : decode cX1_seek 27 = .ok (.iconst 0, 1) := by decide +kernel
theorem dX1_seek_28 : decode cX1_seek 28 = .ok (.istore_n 2, 1) := by decide +kernel
theorem dX1_seek_29 : decode cX1_seek 29 = .ok (.iload_n 2, 1) := by decide +kernel
theorem dX1_seek_30 : decode cX1_seek 30 = .ok (.aload_n 1, 1) := by decide +kernel
theorem dX1_seek_31 : decode cX1_seek 31 = .ok (.getfield 21, 3) := by decide +kernel
theorem dX1_seek_34 : decode cX1_seek 34 = .ok (.if_icmp .gt 21, 3) := by decide +kernel
theorem dX1_seek_37 : decode cX1_seek 37 = .ok (.aload_n 0, 1) := by decide +kernel
theorem dX1_seek_38 : decode cX1_seek 38 = .ok (.aload_n 1, 1) := by decide +kernel
theorem dX1_seek_39 : decode cX1_seek 39 = .ok (.iconst 0, 1) := by decide +kernel
theorem dX1_seek_40 : decode cX1_seek 40 = .ok (.iload_n 2, 1) := by decide +kernel
theorem dX1_seek_41 : decode cX1_seek 41 = .ok (.invokestatic 27, 3) := by decide +kernel
theorem dX1_seek_44 : decode cX1_seek 44 = .ok (.ifCond .eq 5, 3) := by decide +kernel
theorem dX1_seek_47 : decode cX1_seek 47 = .ok (.iload_n 2, 1) := by decide +kernel
theorem dX1_seek_48 : decode cX1_seek 48 = .ok (.ireturn, 1) := by decide +kernel
theorem dX1_seek_49 : decode cX1_seek 49 = .ok (.iinc 2 1, 3) := by decide +kernel
theorem dX1_seek_52 : decode cX1_seek 52 = .ok (.goto (-23), 3) := by decide +kernel
theorem dX1_seek_55 : decode cX1_seek 55 = .ok (.iconst (-1), 1) := by decide +kernel
theorem dX1_seek_56 : decode cX1_seek 56 = .ok (.ireturn, 1) := by decide +kernel
theorem dX1_lodge_0 : decode cX1_lodge 0 = .ok (.iload_n 3, 1) := by decide +kernel
theorem dX1_lodge_1 : decode cX1_lodge 1 = .ok (.ifCond .ge 5, 3) := by decide +kernel
theorem dX1_lodge_4 : decode cX1_lodge 4 = .ok (.iconst 0, 1) := by decide +kernel
theorem dX1_lodge_5 : decode cX1_lodge 5 = .ok (.ireturn, 1) := by decide +kernel
theorem dX1_lodge_6 : decode cX1_lodge 6 = .ok (.iload_n 2, 1) := by decide +kernel
theorem dX1_lodge_7 : decode cX1_lodge 7 = .ok (.aload_n 1, 1) := by decide +kernel
theorem dX1_lodge_8 : decode cX1_lodge 8 = .ok (.getfield 21, 3) := by decide +kernel
theorem dX1_lodge_11 : decode cX1_lodge 11 = .ok (.if_icmp .ge 9, 3) := by decide +kernel
theorem dX1_lodge_14 : decode cX1_lodge 14 = .ok (.iload_n 2, 1) := by decide +kernel
theorem dX1_lodge_15 : decode cX1_lodge 15 = .ok (.bipush 6, 2) := by decide +kernel
theorem dX1_lodge_17 : decode cX1_lodge 17 = .ok (.if_icmp .lt 5, 3) := by decide +kernel
theorem dX1_lodge_20 : decode cX1_lodge 20 = .ok (.iconst 1, 1) := by decide +kernel
theorem dX1_lodge_21 : decode cX1_lodge 21 = .ok (.ireturn, 1) := by decide +kernel
theorem dX1_lodge_22 : decode cX1_lodge 22 = .ok (.iconst 0, 1) := by decide +kernel
theorem dX1_lodge_23 : decode cX1_lodge 23 = .ok (.istore 4, 2) := by decide +kernel
theorem dX1_lodge_25 : decode cX1_lodge 25 = .ok (.iload 4, 2) := by decide +kernel
theorem dX1_lodge_27 : decode cX1_lodge 27 = .ok (.aload_n 1, 1) := by decide +kernel
theorem dX1_lodge_28 : decode cX1_lodge 28 = .ok (.getfield 31, 3) := by decide +kernel
theorem dX1_lodge_31 : decode cX1_lodge 31 = .ok (.if_icmp .ge 117, 3) := by decide +kernel
theorem dX1_lodge_34 : decode cX1_lodge 34 = .ok (.aload_n 0, 1) := by decide +kernel
theorem dX1_lodge_35 : decode cX1_lodge 35 = .ok (.aload_n 1, 1) := by decide +kernel
theorem dX1_lodge_36 : decode cX1_lodge 36 = .ok (.iload_n 2, 1) := by decide +kernel
theorem dX1_lodge_37 : decode cX1_lodge 37 = .ok (.iload 4, 2) := by decide +kernel
theorem dX1_lodge_39 : decode cX1_lodge 39 = .ok (.invokevirtual 34, 3) := by decide +kernel
theorem dX1_lodge_42 : decode cX1_lodge 42 = .ok (.ifCond .eq 100, 3) := by decide +kernel
theorem dX1_lodge_45 : decode cX1_lodge 45 = .ok (.aload_n 0, 1) := by decide +kernel
theorem dX1_lodge_46 : decode cX1_lodge 46 = .ok (.getfield 15, 3) := by decide +kernel
theorem dX1_lodge_49 : decode cX1_lodge 49 = .ok (.iload 4, 2) := by decide +kernel
theorem dX1_lodge_51 : decode cX1_lodge 51 = .ok (.iaload, 1) := by decide +kernel
theorem dX1_lodge_52 : decode cX1_lodge 52 = .ok (.istore 5, 2) := by decide +kernel
theorem dX1_lodge_54 : decode cX1_lodge 54 = .ok (.aload_n 0, 1) := by decide +kernel
theorem dX1_lodge_55 : decode cX1_lodge 55 = .ok (.getfield 15, 3) := by decide +kernel
theorem dX1_lodge_58 : decode cX1_lodge 58 = .ok (.iload 4, 2) := by decide +kernel
theorem dX1_lodge_60 : decode cX1_lodge 60 = .ok (.dup2, 1) := by decide +kernel
theorem dX1_lodge_61 : decode cX1_lodge 61 = .ok (.iaload, 1) := by decide +kernel
theorem dX1_lodge_62 : decode cX1_lodge 62 = .ok (.iconst 1, 1) := by decide +kernel
theorem dX1_lodge_63 : decode cX1_lodge 63 = .ok (.aload_n 1, 1) := by decide +kernel
theorem dX1_lodge_64 : decode cX1_lodge 64 = .ok (.getfield 38, 3) := by decide +kernel
theorem dX1_lodge_67 : decode cX1_lodge 67 = .ok (.iload_n 2, 1) := by decide +kernel
theorem dX1_lodge_68 : decode cX1_lodge 68 = .ok (.iaload, 1) := by decide +kernel
theorem dX1_lodge_69 : decode cX1_lodge 69 = .ok (.ishl, 1) := by decide +kernel
theorem dX1_lodge_70 : decode cX1_lodge 70 = .ok (.ior, 1) := by decide +kernel
theorem dX1_lodge_71 : decode cX1_lodge 71 = .ok (.iastore, 1) := by decide +kernel
theorem dX1_lodge_72 : decode cX1_lodge 72 = .ok (.aload_n 0, 1) := by decide +kernel
theorem dX1_lodge_73 : decode cX1_lodge 73 = .ok (.getfield 9, 3) := by decide +kernel
theorem dX1_lodge_76 : decode cX1_lodge 76 = .ok (.iload 4, 2) := by decide +kernel
theorem dX1_lodge_78 : decode cX1_lodge 78 = .ok (.dup2, 1) := by decide +kernel
theorem dX1_lodge_79 : decode cX1_lodge 79 = .ok (.iaload, 1) := by decide +kernel
theorem dX1_lodge_80 : decode cX1_lodge 80 = .ok (.iconst 1, 1) := by decide +kernel
theorem dX1_lodge_81 : decode cX1_lodge 81 = .ok (.iadd, 1) := by decide +kernel
theorem dX1_lodge_82 : decode cX1_lodge 82 = .ok (.iastore, 1) := by decide +kernel
theorem dX1_lodge_83 : decode cX1_lodge 83 = .ok (.aload_n 0, 1) := by decide +kernel
theorem dX1_lodge_84 : decode cX1_lodge 84 = .ok (.getfield 18, 3) := by decide +kernel
theorem dX1_lodge_87 : decode cX1_lodge 87 = .ok (.iload_n 2, 1) := by decide +kernel
theorem dX1_lodge_88 : decode cX1_lodge 88 = .ok (.iload 4, 2) := by decide +kernel
theorem dX1_lodge_90 : decode cX1_lodge 90 = .ok (.iastore, 1) := by decide +kernel
theorem dX1_lodge_91 : decode cX1_lodge 91 = .ok (.aload_n 0, 1) := by decide +kernel
theorem dX1_lodge_92 : decode cX1_lodge 92 = .ok (.aload_n 1, 1) := by decide +kernel
theorem dX1_lodge_93 : decode cX1_lodge 93 = .ok (.iload_n 2, 1) := by decide +kernel
theorem dX1_lodge_94 : decode cX1_lodge 94 = .ok (.iconst 1, 1) := by decide +kernel
theorem dX1_lodge_95 : decode cX1_lodge 95 = .ok (.iadd, 1) := by decide +kernel
theorem dX1_lodge_96 : decode cX1_lodge 96 = .ok (.iload_n 3, 1) := by decide +kernel
theorem dX1_lodge_97 : decode cX1_lodge 97 = .ok (.aload_n 1, 1) := by decide +kernel
theorem dX1_lodge_98 : decode cX1_lodge 98 = .ok (.getfield 41, 3) := by decide +kernel
theorem dX1_lodge_101 : decode cX1_lodge 101 = .ok (.iload_n 2, 1) := by decide +kernel
theorem dX1_lodge_102 : decode cX1_lodge 102 = .ok (.iaload, 1) := by decide +kernel
theorem dX1_lodge_103 : decode cX1_lodge 103 = .ok (.iload 4, 2) := by decide +kernel
theorem dX1_lodge_105 : decode cX1_lodge 105 = .ok (.if_icmp .ne 7, 3) := by decide +kernel
theorem dX1_lodge_108 : decode cX1_lodge 108 = .ok (.iconst 0, 1) := by decide +kernel
theorem dX1_lodge_109 : decode cX1_lodge 109 = .ok (.goto 4, 3) := by decide +kernel
theorem dX1_lodge_112 : decode cX1_lodge 112 = .ok (.iconst 1, 1) := by decide +kernel
theorem dX1_lodge_113 : decode cX1_lodge 113 = .ok (.isub, 1) := by decide +kernel
theorem dX1_lodge_114 : decode cX1_lodge 114 = .ok (.invokestatic 27, 3) := by decide +kernel
theorem dX1_lodge_117 : decode cX1_lodge 117 = .ok (.ifCond .eq 5, 3) := by decide +kernel
theorem dX1_lodge_120 : decode cX1_lodge 120 = .ok (.iconst 1, 1) := by decide +kernel
theorem dX1_lodge_121 : decode cX1_lodge 121 = .ok (.ireturn, 1) := by decide +kernel
theorem dX1_lodge_122 : decode cX1_lodge 122 = .ok (.aload_n 0, 1) := by decide +kernel
theorem dX1_lodge_123 : decode cX1_lodge 123 = .ok (.getfield 9, 3) := by decide +kernel
theorem dX1_lodge_126 : decode cX1_lodge 126 = .ok (.iload 4, 2) := by decide +kernel
theorem dX1_lodge_128 : decode cX1_lodge 128 = .ok (.dup2, 1) := by decide +kernel
theorem dX1_lodge_129 : decode cX1_lodge 129 = .ok (.iaload, 1) := by decide +kernel
theorem dX1_lodge_130 : decode cX1_lodge 130 = .ok (.iconst 1, 1) := by decide +kernel
theorem dX1_lodge_131 : decode cX1_lodge 131 = .ok (.isub, 1) := by decide +kernel
theorem dX1_lodge_132 : decode cX1_lodge 132 = .ok (.iastore, 1) := by decide +kernel
theorem dX1_lodge_133 : decode cX1_lodge 133 = .ok (.aload_n 0, 1) := by decide +kernel
theorem dX1_lodge_134 : decode cX1_lodge 134 = .ok (.getfield 15, 3) := by decide +kernel
theorem dX1_lodge_137 : decode cX1_lodge 137 = .ok (.iload 4, 2) := by decide +kernel
theorem dX1_lodge_139 : decode cX1_lodge 139 = .ok (.iload 5, 2) := by decide +kernel
theorem dX1_lodge_141 : decode cX1_lodge 141 = .ok (.iastore, 1) := by decide +kernel
theorem dX1_lodge_142 : decode cX1_lodge 142 = .ok (.iinc 4 1, 3) := by decide +kernel
theorem dX1_lodge_145 : decode cX1_lodge 145 = .ok (.goto (-120), 3) := by decide +kernel
theorem dX1_lodge_148 : decode cX1_lodge 148 = .ok (.iconst 0, 1) := by decide +kernel
theorem dX1_lodge_149 : decode cX1_lodge 149 = .ok (.ireturn, 1) := by decide +kernel
theorem dX1_mayLive_0 : decode cX1_mayLive 0 = .ok (.aload_n 1, 1) := by decide +kernel
theorem dX1_mayLive_1 : decode cX1_mayLive 1 = .ok (.iload_n 3, 1) := by decide +kernel
theorem dX1_mayLive_2 : decode cX1_mayLive 2 = .ok (.invokevirtual 44, 3) := by decide +kernel
theorem dX1_mayLive_5 : decode cX1_mayLive 5 = .ok (.ifCond .eq 43, 3) := by decide +kernel
theorem dX1_mayLive_8 : decode cX1_mayLive 8 = .ok (.aload_n 0, 1) := by decide +kernel
theorem dX1_mayLive_9 : decode cX1_mayLive 9 = .ok (.getfield 9, 3) := by decide +kernel
theorem dX1_mayLive_12 : decode cX1_mayLive 12 = .ok (.iload_n 3, 1) := by decide +kernel
theorem dX1_mayLive_13 : decode cX1_mayLive 13 = .ok (.iaload, 1) := by decide +kernel
theorem dX1_mayLive_14 : decode cX1_mayLive 14 = .ok (.aload_n 1, 1) := by decide +kernel
theorem dX1_mayLive_15 : decode cX1_mayLive 15 = .ok (.getfield 48, 3) := by decide +kernel
theorem dX1_mayLive_18 : decode cX1_mayLive 18 = .ok (.iload_n 3, 1) := by decide +kernel
theorem dX1_mayLive_19 : decode cX1_mayLive 19 = .ok (.iaload, 1) := by decide +kernel
theorem dX1_mayLive_20 : decode cX1_mayLive 20 = .ok (.if_icmp .ge 28, 3) := by decide +kernel
theorem dX1_mayLive_23 : decode cX1_mayLive 23 = .ok (.aload_n 1, 1) := by decide +kernel
theorem dX1_mayLive_24 : decode cX1_mayLive 24 = .ok (.iconst 1, 1) := by decide +kernel
theorem dX1_mayLive_25 : decode cX1_mayLive 25 = .ok (.aload_n 1, 1) := by decide +kernel
theorem dX1_mayLive_26 : decode cX1_mayLive 26 = .ok (.getfield 38, 3) := by decide +kernel
theorem dX1_mayLive_29 : decode cX1_mayLive 29 = .ok (.iload_n 2, 1) := by decide +kernel
theorem dX1_mayLive_30 : decode cX1_mayLive 30 = .ok (.iaload, 1) := by decide +kernel
theorem dX1_mayLive_31 : decode cX1_mayLive 31 = .ok (.ishl, 1) := by decide +kernel
theorem dX1_mayLive_32 : decode cX1_mayLive 32 = .ok (.aload_n 0, 1) := by decide +kernel
theorem dX1_mayLive_33 : decode cX1_mayLive 33 = .ok (.getfield 15, 3) := by decide +kernel
theorem dX1_mayLive_36 : decode cX1_mayLive 36 = .ok (.iload_n 3, 1) := by decide +kernel
theorem dX1_mayLive_37 : decode cX1_mayLive 37 = .ok (.iaload, 1) := by decide +kernel
theorem dX1_mayLive_38 : decode cX1_mayLive 38 = .ok (.invokevirtual 51, 3) := by decide +kernel
theorem dX1_mayLive_41 : decode cX1_mayLive 41 = .ok (.ifCond .eq 7, 3) := by decide +kernel
theorem dX1_mayLive_44 : decode cX1_mayLive 44 = .ok (.iconst 1, 1) := by decide +kernel
theorem dX1_mayLive_45 : decode cX1_mayLive 45 = .ok (.goto 4, 3) := by decide +kernel
theorem dX1_mayLive_48 : decode cX1_mayLive 48 = .ok (.iconst 0, 1) := by decide +kernel
theorem dX1_mayLive_49 : decode cX1_mayLive 49 = .ok (.ireturn, 1) := by decide +kernel
theorem dX2_seek_0 : decode cX2_seek 0 = .ok (.aload_n 0, 1) := by decide +kernel
theorem dX2_seek_1 : decode cX2_seek 1 = .ok (.getfield 12, 3) := by decide +kernel
theorem dX2_seek_4 : decode cX2_seek 4 = .ok (.aload_n 1, 1) := by decide +kernel
theorem dX2_seek_5 : decode cX2_seek 5 = .ok (.invokevirtual 37, 3) := by decide +kernel
theorem dX2_seek_8 : decode cX2_seek 8 = .ok (.aload_n 0, 1) := by decide +kernel
theorem dX2_seek_9 : decode cX2_seek 9 = .ok (.iconst 0, 1) := by decide +kernel
theorem dX2_seek_10 : decode cX2_seek 10 = .ok (.putfield 33, 3) := by decide +kernel
theorem dX2_seek_13 : decode cX2_seek 13 = .ok (.aload_n 0, 1) := by decide +kernel
theorem dX2_seek_14 : decode cX2_seek 14 = .ok (.getfield 12, 3) := by decide +kernel
theorem dX2_seek_17 : decode cX2_seek 17 = .ok (.iload_n 3, 1) := by decide +kernel
theorem dX2_seek_18 : decode cX2_seek 18 = .ok (.invokevirtual 41, 3) := by decide +kernel
theorem dX2_seek_21 : decode cX2_seek 21 = .ok (.ifCond .eq 12, 3) := by decide +kernel
theorem dX2_seek_24 : decode cX2_seek 24 = .ok (.aload_n 0, 1) := by decide +kernel
theorem dX2_seek_25 : decode cX2_seek 25 = .ok (.iconst 0, 1) := by decide +kernel
theorem dX2_seek_26 : decode cX2_seek 26 = .ok (.iload_n 2, 1) := by decide +kernel
theorem dX2_seek_27 : decode cX2_seek 27 = .ok (.iload_n 3, 1) := by decide +kernel
theorem dX2_seek_28 : decode cX2_seek 28 = .ok (.iload 4, 2) := by decide +kernel
theorem dX2_seek_30 : decode cX2_seek 30 = .ok (.invokestatic 45, 3) := by decide +kernel
theorem dX2_seek_33 : decode cX2_seek 33 = .ok (.return_, 1) := by decide +kernel
theorem dX2_tryOrders_0 : decode cX2_tryOrders 0 = .ok (.iload_n 2, 1) := by decide +kernel
theorem dX2_tryOrders_1 : decode cX2_tryOrders 1 = .ok (.ifCond .ne 11, 3) := by decide +kernel
theorem dX2_tryOrders_4 : decode cX2_tryOrders 4 = .ok (.aload_n 0, 1) := by decide +kernel
theorem dX2_tryOrders_5 : decode cX2_tryOrders 5 = .ok (.iload_n 3, 1) := by decide +kernel
theorem dX2_tryOrders_6 : decode cX2_tryOrders 6 = .ok (.iload 4, 2) := by decide +kernel
theorem dX2_tryOrders_8 : decode cX2_tryOrders 8 = .ok (.invokevirtual 49, 3) := by decide +kernel
theorem dX2_tryOrders_11 : decode cX2_tryOrders 11 = .ok (.return_, 1) := by decide +kernel
theorem dX2_tryOrders_12 : decode cX2_tryOrders 12 = .ok (.iload_n 1, 1) := by decide +kernel
theorem dX2_tryOrders_13 : decode cX2_tryOrders 13 = .ok (.iconst 5, 1) := by decide +kernel
theorem dX2_tryOrders_14 : decode cX2_tryOrders 14 = .ok (.if_icmp .lt 4, 3) := by decide +kernel
theorem dX2_tryOrders_17 : decode cX2_tryOrders 17 = .ok (.return_, 1) := by decide +kernel
theorem dX2_tryOrders_18 : decode cX2_tryOrders 18 = .ok (.aload_n 0, 1) := by decide +kernel
theorem dX2_tryOrders_19 : decode cX2_tryOrders 19 = .ok (.iload_n 1, 1) := by decide +kernel
theorem dX2_tryOrders_20 : decode cX2_tryOrders 20 = .ok (.invokevirtual 53, 3) := by decide +kernel
theorem dX2_tryOrders_23 : decode cX2_tryOrders 23 = .ok (.iconst 0, 1) := by decide +kernel
theorem dX2_tryOrders_24 : decode cX2_tryOrders 24 = .ok (.istore 5, 2) := by decide +kernel
theorem dX2_tryOrders_26 : decode cX2_tryOrders 26 = .ok (.iload 5, 2) := by decide +kernel
theorem dX2_tryOrders_28 : decode cX2_tryOrders 28 = .ok (.iconst 5, 1) := by decide +kernel
theorem dX2_tryOrders_29 : decode cX2_tryOrders 29 = .ok (.if_icmp .ge 60, 3) := by decide +kernel
theorem dX2_tryOrders_32 : decode cX2_tryOrders 32 = .ok (.iload_n 2, 1) := by decide +kernel
theorem dX2_tryOrders_33 : decode cX2_tryOrders 33 = .ok (.iload 5, 2) := by decide +kernel
theorem dX2_tryOrders_35 : decode cX2_tryOrders 35 = .ok (.ishr, 1) := by decide +kernel
theorem dX2_tryOrders_36 : decode cX2_tryOrders 36 = .ok (.iconst 1, 1) := by decide +kernel
theorem dX2_tryOrders_37 : decode cX2_tryOrders 37 = .ok (.iand, 1) := by decide +kernel
theorem dX2_tryOrders_38 : decode cX2_tryOrders 38 = .ok (.iconst 1, 1) := by decide +kernel
theorem dX2_tryOrders_39 : decode cX2_tryOrders 39 = .ok (.if_icmp .ne 44, 3) := by decide +kernel
theorem dX2_tryOrders_42 : decode cX2_tryOrders 42 = .ok (.aload_n 0, 1) := by decide +kernel
theorem dX2_tryOrders_43 : decode cX2_tryOrders 43 = .ok (.getfield 27, 3) := by decide +kernel
theorem dX2_tryOrders_46 : decode cX2_tryOrders 46 = .ok (.iload_n 1, 1) := by decide +kernel
theorem dX2_tryOrders_47 : decode cX2_tryOrders 47 = .ok (.iload 5, 2) := by decide +kernel
theorem dX2_tryOrders_49 : decode cX2_tryOrders 49 = .ok (.iastore, 1) := by decide +kernel
theorem dX2_tryOrders_50 : decode cX2_tryOrders 50 = .ok (.aload_n 0, 1) := by decide +kernel
theorem dX2_tryOrders_51 : decode cX2_tryOrders 51 = .ok (.getfield 12, 3) := by decide +kernel
theorem dX2_tryOrders_54 : decode cX2_tryOrders 54 = .ok (.iload 5, 2) := by decide +kernel
theorem dX2_tryOrders_56 : decode cX2_tryOrders 56 = .ok (.invokevirtual 57, 3) := by decide +kernel
theorem dX2_tryOrders_59 : decode cX2_tryOrders 59 = .ok (.pop, 1) := by decide +kernel
theorem dX2_tryOrders_60 : decode cX2_tryOrders 60 = .ok (.aload_n 0, 1) := by decide +kernel
theorem dX2_tryOrders_61 : decode cX2_tryOrders 61 = .ok (.iload_n 1, 1) := by decide +kernel
theorem dX2_tryOrders_62 : decode cX2_tryOrders 62 = .ok (.iconst 1, 1) := by decide +kernel
theorem dX2_tryOrders_63 : decode cX2_tryOrders 63 = .ok (.iadd, 1) := by decide +kernel
theorem dX2_tryOrders_64 : decode cX2_tryOrders 64 = .ok (.iload_n 2, 1) := by decide +kernel
theorem dX2_tryOrders_65 : decode cX2_tryOrders 65 = .ok (.iconst 1, 1) := by decide +kernel
theorem dX2_tryOrders_66 : decode cX2_tryOrders 66 = .ok (.iload 5, 2) := by decide +kernel
theorem dX2_tryOrders_68 : decode cX2_tryOrders 68 = .ok (.ishl, 1) := by decide +kernel
theorem dX2_tryOrders_69 : decode cX2_tryOrders 69 = .ok (.iconst (-1), 1) := by decide +kernel
theorem dX2_tryOrders_70 : decode cX2_tryOrders 70 = .ok (.ixor, 1) := by decide +kernel
theorem dX2_tryOrders_71 : decode cX2_tryOrders 71 = .ok (.iand, 1) := by decide +kernel
theorem dX2_tryOrders_72 : decode cX2_tryOrders 72 = .ok (.iload_n 3, 1) := by decide +kernel
theorem dX2_tryOrders_73 : decode cX2_tryOrders 73 = .ok (.iload 4, 2) := by decide +kernel
theorem dX2_tryOrders_75 : decode cX2_tryOrders 75 = .ok (.invokestatic 45, 3) := by decide +kernel
theorem dX2_tryOrders_78 : decode cX2_tryOrders 78 = .ok (.aload_n 0, 1) := by decide +kernel
theorem dX2_tryOrders_79 : decode cX2_tryOrders 79 = .ok (.iload_n 1, 1) := by decide +kernel
theorem dX2_tryOrders_80 : decode cX2_tryOrders 80 = .ok (.invokevirtual 61, 3) := by decide +kernel
theorem dX2_tryOrders_83 : decode cX2_tryOrders 83 = .ok (.iinc 5 1, 3) := by decide +kernel
theorem dX2_tryOrders_86 : decode cX2_tryOrders 86 = .ok (.goto (-60), 3) := by decide +kernel
theorem dX2_tryOrders_89 : decode cX2_tryOrders 89 = .ok (.return_, 1) := by decide +kernel
theorem dX2_atLast_0 : decode cX2_atLast 0 = .ok (.aload_n 0, 1) := by decide +kernel
theorem dX2_atLast_1 : decode cX2_atLast 1 = .ok (.getfield 12, 3) := by decide +kernel
theorem dX2_atLast_4 : decode cX2_atLast 4 = .ok (.getfield 64, 3) := by decide +kernel
theorem dX2_atLast_7 : decode cX2_atLast 7 = .ok (.iload_n 1, 1) := by decide +kernel
theorem dX2_atLast_8 : decode cX2_atLast 8 = .ok (.iaload, 1) := by decide +kernel
theorem dX2_atLast_9 : decode cX2_atLast 9 = .ok (.iload_n 2, 1) := by decide +kernel
theorem dX2_atLast_10 : decode cX2_atLast 10 = .ok (.if_icmp .ne 31, 3) := by decide +kernel
theorem dX2_atLast_13 : decode cX2_atLast 13 = .ok (.aload_n 0, 1) := by decide +kernel
theorem dX2_atLast_14 : decode cX2_atLast 14 = .ok (.getfield 33, 3) := by decide +kernel
theorem dX2_atLast_17 : decode cX2_atLast 17 = .ok (.ifCond .ne 14, 3) := by decide +kernel
theorem dX2_atLast_20 : decode cX2_atLast 20 = .ok (.aload_n 0, 1) := by decide +kernel
theorem dX2_atLast_21 : decode cX2_atLast 21 = .ok (.getfield 27, 3) := by decide +kernel
theorem dX2_atLast_24 : decode cX2_atLast 24 = .ok (.aload_n 0, 1) := by decide +kernel
theorem dX2_atLast_25 : decode cX2_atLast 25 = .ok (.getfield 30, 3) := by decide +kernel
theorem dX2_atLast_28 : decode cX2_atLast 28 = .ok (.invokestatic 67, 3) := by decide +kernel
theorem dX2_atLast_31 : decode cX2_atLast 31 = .ok (.aload_n 0, 1) := by decide +kernel
theorem dX2_atLast_32 : decode cX2_atLast 32 = .ok (.dup, 1) := by decide +kernel
theorem dX2_atLast_33 : decode cX2_atLast 33 = .ok (.getfield 33, 3) := by decide +kernel
theorem dX2_atLast_36 : decode cX2_atLast 36 = .ok (.iconst 1, 1) := by decide +kernel
theorem dX2_atLast_37 : decode cX2_atLast 37 = .ok (.iadd, 1) := by decide +kernel
theorem dX2_atLast_38 : decode cX2_atLast 38 = .ok (.putfield 33, 3) := by decide +kernel
theorem dX2_atLast_41 : decode cX2_atLast 41 = .ok (.return_, 1) := by decide +kernel
theorem dX2_isSafe_0 : decode cX2_isSafe 0 = .ok (.aload_n 0, 1) := by decide +kernel
theorem dX2_isSafe_1 : decode cX2_isSafe 1 = .ok (.getfield 12, 3) := by decide +kernel
theorem dX2_isSafe_4 : decode cX2_isSafe 4 = .ok (.aload_n 1, 1) := by decide +kernel
theorem dX2_isSafe_5 : decode cX2_isSafe 5 = .ok (.invokevirtual 37, 3) := by decide +kernel
theorem dX2_isSafe_8 : decode cX2_isSafe 8 = .ok (.iconst 0, 1) := by decide +kernel
theorem dX2_isSafe_9 : decode cX2_isSafe 9 = .ok (.istore 4, 2) := by decide +kernel
theorem dX2_isSafe_11 : decode cX2_isSafe 11 = .ok (.iload 4, 2) := by decide +kernel
theorem dX2_isSafe_13 : decode cX2_isSafe 13 = .ok (.iconst 5, 1) := by decide +kernel
theorem dX2_isSafe_14 : decode cX2_isSafe 14 = .ok (.if_icmp .ge 20, 3) := by decide +kernel
theorem dX2_isSafe_17 : decode cX2_isSafe 17 = .ok (.aload_n 0, 1) := by decide +kernel
theorem dX2_isSafe_18 : decode cX2_isSafe 18 = .ok (.getfield 12, 3) := by decide +kernel
theorem dX2_isSafe_21 : decode cX2_isSafe 21 = .ok (.getfield 71, 3) := by decide +kernel
theorem dX2_isSafe_24 : decode cX2_isSafe 24 = .ok (.iload 4, 2) := by decide +kernel
theorem dX2_isSafe_26 : decode cX2_isSafe 26 = .ok (.iload_n 2, 1) := by decide +kernel
theorem dX2_isSafe_27 : decode cX2_isSafe 27 = .ok (.iastore, 1) := by decide +kernel
theorem dX2_isSafe_28 : decode cX2_isSafe 28 = .ok (.iinc 4 1, 3) := by decide +kernel
theorem dX2_isSafe_31 : decode cX2_isSafe 31 = .ok (.goto (-20), 3) := by decide +kernel
theorem dX2_isSafe_34 : decode cX2_isSafe 34 = .ok (.aload_n 0, 1) := by decide +kernel
theorem dX2_isSafe_35 : decode cX2_isSafe 35 = .ok (.getfield 12, 3) := by decide +kernel
theorem dX2_isSafe_38 : decode cX2_isSafe 38 = .ok (.iload_n 3, 1) := by decide +kernel
theorem dX2_isSafe_39 : decode cX2_isSafe 39 = .ok (.invokevirtual 41, 3) := by decide +kernel
theorem dX2_isSafe_42 : decode cX2_isSafe 42 = .ok (.ifCond .eq 23, 3) := by decide +kernel
theorem dX2_isSafe_45 : decode cX2_isSafe 45 = .ok (.aload_n 0, 1) := by decide +kernel
theorem dX2_isSafe_46 : decode cX2_isSafe 46 = .ok (.iconst 0, 1) := by decide +kernel
theorem dX2_isSafe_47 : decode cX2_isSafe 47 = .ok (.aload_n 0, 1) := by decide +kernel
theorem dX2_isSafe_48 : decode cX2_isSafe 48 = .ok (.getfield 12, 3) := by decide +kernel
theorem dX2_isSafe_51 : decode cX2_isSafe 51 = .ok (.getfield 74, 3) := by decide +kernel
theorem dX2_isSafe_54 : decode cX2_isSafe 54 = .ok (.iload_n 3, 1) := by decide +kernel
theorem dX2_isSafe_55 : decode cX2_isSafe 55 = .ok (.invokestatic 77, 3) := by decide +kernel
theorem dX2_isSafe_58 : decode cX2_isSafe 58 = .ok (.ifCond .eq 7, 3) := by decide +kernel
theorem dX2_isSafe_61 : decode cX2_isSafe 61 = .ok (.iconst 1, 1) := by decide +kernel
theorem dX2_isSafe_62 : decode cX2_isSafe 62 = .ok (.goto 4, 3) := by decide +kernel
theorem dX2_isSafe_65 : decode cX2_isSafe 65 = .ok (.iconst 0, 1) := by decide +kernel
theorem dX2_isSafe_66 : decode cX2_isSafe 66 = .ok (.ireturn, 1) := by decide +kernel
theorem dX2_neverOut_0 : decode cX2_neverOut 0 = .ok (.aload_n 0, 1) := by decide +kernel
theorem dX2_neverOut_1 : decode cX2_neverOut 1 = .ok (.getfield 12, 3) := by decide +kernel
theorem dX2_neverOut_4 : decode cX2_neverOut 4 = .ok (.getfield 64, 3) := by decide +kernel
theorem dX2_neverOut_7 : decode cX2_neverOut 7 = .ok (.iload_n 3, 1) := by decide +kernel
theorem dX2_neverOut_8 : decode cX2_neverOut 8 = .ok (.iaload, 1) := by decide +kernel
theorem dX2_neverOut_9 : decode cX2_neverOut 9 = .ok (.iconst (-1), 1) := by decide +kernel
theorem dX2_neverOut_10 : decode cX2_neverOut 10 = .ok (.if_icmp .ne 5, 3) := by decide +kernel
theorem dX2_neverOut_13 : decode cX2_neverOut 13 = .ok (.iconst 0, 1) := by decide +kernel
theorem dX2_neverOut_14 : decode cX2_neverOut 14 = .ok (.ireturn, 1) := by decide +kernel
theorem dX2_neverOut_15 : decode cX2_neverOut 15 = .ok (.iload_n 2, 1) := by decide +kernel
theorem dX2_neverOut_16 : decode cX2_neverOut 16 = .ok (.invokestatic 81, 3) := by decide +kernel
theorem dX2_neverOut_19 : decode cX2_neverOut 19 = .ok (.iconst 1, 1) := by decide +kernel
theorem dX2_neverOut_20 : decode cX2_neverOut 20 = .ok (.if_icmp .le 8, 3) := by decide +kernel
theorem dX2_neverOut_23 : decode cX2_neverOut 23 = .ok (.iload_n 1, 1) := by decide +kernel
theorem dX2_neverOut_24 : decode cX2_neverOut 24 = .ok (.iconst 5, 1) := by decide +kernel
theorem dX2_neverOut_25 : decode cX2_neverOut 25 = .ok (.if_icmp .lt 5, 3) := by decide +kernel
theorem dX2_neverOut_28 : decode cX2_neverOut 28 = .ok (.iconst 1, 1) := by decide +kernel
theorem dX2_neverOut_29 : decode cX2_neverOut 29 = .ok (.ireturn, 1) := by decide +kernel
theorem dX2_neverOut_30 : decode cX2_neverOut 30 = .ok (.aload_n 0, 1) := by decide +kernel
theorem dX2_neverOut_31 : decode cX2_neverOut 31 = .ok (.iload_n 1, 1) := by decide +kernel
theorem dX2_neverOut_32 : decode cX2_neverOut 32 = .ok (.invokevirtual 53, 3) := by decide +kernel
theorem dX2_neverOut_35 : decode cX2_neverOut 35 = .ok (.iconst 0, 1) := by decide +kernel
theorem dX2_neverOut_36 : decode cX2_neverOut 36 = .ok (.istore 4, 2) := by decide +kernel
theorem dX2_neverOut_38 : decode cX2_neverOut 38 = .ok (.iload 4, 2) := by decide +kernel
theorem dX2_neverOut_40 : decode cX2_neverOut 40 = .ok (.iconst 5, 1) := by decide +kernel
theorem dX2_neverOut_41 : decode cX2_neverOut 41 = .ok (.if_icmp .ge 55, 3) := by decide +kernel
theorem dX2_neverOut_44 : decode cX2_neverOut 44 = .ok (.iload_n 2, 1) := by decide +kernel
theorem dX2_neverOut_45 : decode cX2_neverOut 45 = .ok (.iload 4, 2) := by decide +kernel
theorem dX2_neverOut_47 : decode cX2_neverOut 47 = .ok (.ishr, 1) := by decide +kernel
theorem dX2_neverOut_48 : decode cX2_neverOut 48 = .ok (.iconst 1, 1) := by decide +kernel
theorem dX2_neverOut_49 : decode cX2_neverOut 49 = .ok (.iand, 1) := by decide +kernel
theorem dX2_neverOut_50 : decode cX2_neverOut 50 = .ok (.iconst 1, 1) := by decide +kernel
theorem dX2_neverOut_51 : decode cX2_neverOut 51 = .ok (.if_icmp .ne 39, 3) := by decide +kernel
theorem dX2_neverOut_54 : decode cX2_neverOut 54 = .ok (.aload_n 0, 1) := by decide +kernel
theorem dX2_neverOut_55 : decode cX2_neverOut 55 = .ok (.getfield 12, 3) := by decide +kernel
theorem dX2_neverOut_58 : decode cX2_neverOut 58 = .ok (.iload 4, 2) := by decide +kernel
theorem dX2_neverOut_60 : decode cX2_neverOut 60 = .ok (.invokevirtual 57, 3) := by decide +kernel
theorem dX2_neverOut_63 : decode cX2_neverOut 63 = .ok (.pop, 1) := by decide +kernel
theorem dX2_neverOut_64 : decode cX2_neverOut 64 = .ok (.aload_n 0, 1) := by decide +kernel
theorem dX2_neverOut_65 : decode cX2_neverOut 65 = .ok (.iload_n 1, 1) := by decide +kernel
theorem dX2_neverOut_66 : decode cX2_neverOut 66 = .ok (.iconst 1, 1) := by decide +kernel
theorem dX2_neverOut_67 : decode cX2_neverOut 67 = .ok (.iadd, 1) := by decide +kernel
theorem dX2_neverOut_68 : decode cX2_neverOut 68 = .ok (.iload_n 2, 1) := by decide +kernel
theorem dX2_neverOut_69 : decode cX2_neverOut 69 = .ok (.iconst 1, 1) := by decide +kernel
theorem dX2_neverOut_70 : decode cX2_neverOut 70 = .ok (.iload 4, 2) := by decide +kernel
theorem dX2_neverOut_72 : decode cX2_neverOut 72 = .ok (.ishl, 1) := by decide +kernel
theorem dX2_neverOut_73 : decode cX2_neverOut 73 = .ok (.iconst (-1), 1) := by decide +kernel
theorem dX2_neverOut_74 : decode cX2_neverOut 74 = .ok (.ixor, 1) := by decide +kernel
theorem dX2_neverOut_75 : decode cX2_neverOut 75 = .ok (.iand, 1) := by decide +kernel
theorem dX2_neverOut_76 : decode cX2_neverOut 76 = .ok (.iload_n 3, 1) := by decide +kernel
theorem dX2_neverOut_77 : decode cX2_neverOut 77 = .ok (.invokestatic 77, 3) := by decide +kernel
theorem dX2_neverOut_80 : decode cX2_neverOut 80 = .ok (.ifCond .ne 5, 3) := by decide +kernel
theorem dX2_neverOut_83 : decode cX2_neverOut 83 = .ok (.iconst 0, 1) := by decide +kernel
theorem dX2_neverOut_84 : decode cX2_neverOut 84 = .ok (.ireturn, 1) := by decide +kernel
theorem dX2_neverOut_85 : decode cX2_neverOut 85 = .ok (.aload_n 0, 1) := by decide +kernel
theorem dX2_neverOut_86 : decode cX2_neverOut 86 = .ok (.iload_n 1, 1) := by decide +kernel
theorem dX2_neverOut_87 : decode cX2_neverOut 87 = .ok (.invokevirtual 61, 3) := by decide +kernel
theorem dX2_neverOut_90 : decode cX2_neverOut 90 = .ok (.iinc 4 1, 3) := by decide +kernel
theorem dX2_neverOut_93 : decode cX2_neverOut 93 = .ok (.goto (-55), 3) := by decide +kernel
theorem dX2_neverOut_96 : decode cX2_neverOut 96 = .ok (.iconst 1, 1) := by decide +kernel
theorem dX2_neverOut_97 : decode cX2_neverOut 97 = .ok (.ireturn, 1) := by decide +kernel
theorem dX2_keep_0 : decode cX2_keep 0 = .ok (.aload_n 0, 1) := by decide +kernel
theorem dX2_keep_1 : decode cX2_keep 1 = .ok (.getfield 18, 3) := by decide +kernel
theorem dX2_keep_4 : decode cX2_keep 4 = .ok (.iload_n 1, 1) := by decide +kernel
theorem dX2_keep_5 : decode cX2_keep 5 = .ok (.aload_n 0, 1) := by decide +kernel
theorem dX2_keep_6 : decode cX2_keep 6 = .ok (.getfield 12, 3) := by decide +kernel
theorem dX2_keep_9 : decode cX2_keep 9 = .ok (.getfield 74, 3) := by decide +kernel
theorem dX2_keep_12 : decode cX2_keep 12 = .ok (.iastore, 1) := by decide +kernel
theorem dX2_keep_13 : decode cX2_keep 13 = .ok (.aload_n 0, 1) := by decide +kernel
theorem dX2_keep_14 : decode cX2_keep 14 = .ok (.getfield 12, 3) := by decide +kernel
theorem dX2_keep_17 : decode cX2_keep 17 = .ok (.getfield 64, 3) := by decide +kernel
theorem dX2_keep_20 : decode cX2_keep 20 = .ok (.aload_n 0, 1) := by decide +kernel
theorem dX2_keep_21 : decode cX2_keep 21 = .ok (.getfield 24, 3) := by decide +kernel
theorem dX2_keep_24 : decode cX2_keep 24 = .ok (.iload_n 1, 1) := by decide +kernel
theorem dX2_keep_25 : decode cX2_keep 25 = .ok (.aaload, 1) := by decide +kernel
theorem dX2_keep_26 : decode cX2_keep 26 = .ok (.invokestatic 67, 3) := by decide +kernel
theorem dX2_keep_29 : decode cX2_keep 29 = .ok (.return_, 1) := by decide +kernel
theorem dX2_bringBack_0 : decode cX2_bringBack 0 = .ok (.aload_n 0, 1) := by decide +kernel
theorem dX2_bringBack_1 : decode cX2_bringBack 1 = .ok (.getfield 12, 3) := by decide +kernel
theorem dX2_bringBack_4 : decode cX2_bringBack 4 = .ok (.aload_n 0, 1) := by decide +kernel
theorem dX2_bringBack_5 : decode cX2_bringBack 5 = .ok (.getfield 18, 3) := by decide +kernel
theorem dX2_bringBack_8 : decode cX2_bringBack 8 = .ok (.iload_n 1, 1) := by decide +kernel
theorem dX2_bringBack_9 : decode cX2_bringBack 9 = .ok (.iaload, 1) := by decide +kernel
theorem dX2_bringBack_10 : decode cX2_bringBack 10 = .ok (.putfield 74, 3) := by decide +kernel
theorem dX2_bringBack_13 : decode cX2_bringBack 13 = .ok (.aload_n 0, 1) := by decide +kernel
theorem dX2_bringBack_14 : decode cX2_bringBack 14 = .ok (.getfield 24, 3) := by decide +kernel
theorem dX2_bringBack_17 : decode cX2_bringBack 17 = .ok (.iload_n 1, 1) := by decide +kernel
theorem dX2_bringBack_18 : decode cX2_bringBack 18 = .ok (.aaload, 1) := by decide +kernel
theorem dX2_bringBack_19 : decode cX2_bringBack 19 = .ok (.aload_n 0, 1) := by decide +kernel
theorem dX2_bringBack_20 : decode cX2_bringBack 20 = .ok (.getfield 12, 3) := by decide +kernel
theorem dX2_bringBack_23 : decode cX2_bringBack 23 = .ok (.getfield 64, 3) := by decide +kernel
theorem dX2_bringBack_26 : decode cX2_bringBack 26 = .ok (.invokestatic 67, 3) := by decide +kernel
theorem dX2_bringBack_29 : decode cX2_bringBack 29 = .ok (.return_, 1) := by decide +kernel
theorem dX3_forget_0 : decode cX3_forget 0 = .ok (.aload_n 0, 1) := by decide +kernel
theorem dX3_forget_1 : decode cX3_forget 1 = .ok (.iconst 0, 1) := by decide +kernel
theorem dX3_forget_2 : decode cX3_forget 2 = .ok (.putfield 9, 3) := by decide +kernel
theorem dX3_forget_5 : decode cX3_forget 5 = .ok (.aload_n 0, 1) := by decide +kernel
theorem dX3_forget_6 : decode cX3_forget 6 = .ok (.iconst 0, 1) := by decide +kernel
theorem dX3_forget_7 : decode cX3_forget 7 = .ok (.putfield 15, 3) := by decide +kernel
theorem dX3_forget_10 : decode cX3_forget 10 = .ok (.return_, 1) := by decide +kernel
theorem dX3_keep_0 : decode cX3_keep 0 = .ok (.aload_n 0, 1) := by decide +kernel
theorem dX3_keep_1 : decode cX3_keep 1 = .ok (.getfield 15, 3) := by decide +kernel
theorem dX3_keep_4 : decode cX3_keep 4 = .ok (.bipush 8, 2) := by decide +kernel
theorem dX3_keep_6 : decode cX3_keep 6 = .ok (.invokestatic 33, 3) := by decide +kernel
theorem dX3_keep_9 : decode cX3_keep 9 = .ok (.istore_n 2, 1) := by decide +kernel
theorem dX3_keep_10 : decode cX3_keep 10 = .ok (.aload_n 0, 1) := by decide +kernel
theorem dX3_keep_11 : decode cX3_keep 11 = .ok (.getfield 18, 3) := by decide +kernel
theorem dX3_keep_14 : decode cX3_keep 14 = .ok (.iload_n 2, 1) := by decide +kernel
theorem dX3_keep_15 : decode cX3_keep 15 = .ok (.aload_n 1, 1) := by decide +kernel
theorem dX3_keep_16 : decode cX3_keep 16 = .ok (.getfield 39, 3) := by decide +kernel
theorem dX3_keep_19 : decode cX3_keep 19 = .ok (.iastore, 1) := by decide +kernel
theorem dX3_keep_20 : decode cX3_keep 20 = .ok (.aload_n 0, 1) := by decide +kernel
theorem dX3_keep_21 : decode cX3_keep 21 = .ok (.getfield 22, 3) := by decide +kernel
theorem dX3_keep_24 : decode cX3_keep 24 = .ok (.iload_n 2, 1) := by decide +kernel
theorem dX3_keep_25 : decode cX3_keep 25 = .ok (.aload_n 1, 1) := by decide +kernel
theorem dX3_keep_26 : decode cX3_keep 26 = .ok (.getfield 43, 3) := by decide +kernel
theorem dX3_keep_29 : decode cX3_keep 29 = .ok (.iastore, 1) := by decide +kernel
theorem dX3_keep_30 : decode cX3_keep 30 = .ok (.aload_n 1, 1) := by decide +kernel
theorem dX3_keep_31 : decode cX3_keep 31 = .ok (.getfield 45, 3) := by decide +kernel
theorem dX3_keep_34 : decode cX3_keep 34 = .ok (.aload_n 0, 1) := by decide +kernel
theorem dX3_keep_35 : decode cX3_keep 35 = .ok (.getfield 27, 3) := by decide +kernel
theorem dX3_keep_38 : decode cX3_keep 38 = .ok (.iload_n 2, 1) := by decide +kernel
theorem dX3_keep_39 : decode cX3_keep 39 = .ok (.aaload, 1) := by decide +kernel
theorem dX3_keep_40 : decode cX3_keep 40 = .ok (.invokestatic 47, 3) := by decide +kernel
theorem dX3_keep_43 : decode cX3_keep 43 = .ok (.aload_n 1, 1) := by decide +kernel
theorem dX3_keep_44 : decode cX3_keep 44 = .ok (.getfield 51, 3) := by decide +kernel
theorem dX3_keep_47 : decode cX3_keep 47 = .ok (.aload_n 0, 1) := by decide +kernel
theorem dX3_keep_48 : decode cX3_keep 48 = .ok (.getfield 30, 3) := by decide +kernel
theorem dX3_keep_51 : decode cX3_keep 51 = .ok (.iload_n 2, 1) := by decide +kernel
theorem dX3_keep_52 : decode cX3_keep 52 = .ok (.aaload, 1) := by decide +kernel
theorem dX3_keep_53 : decode cX3_keep 53 = .ok (.invokestatic 47, 3) := by decide +kernel
theorem dX3_keep_56 : decode cX3_keep 56 = .ok (.aload_n 0, 1) := by decide +kernel
theorem dX3_keep_57 : decode cX3_keep 57 = .ok (.iload_n 2, 1) := by decide +kernel
theorem dX3_keep_58 : decode cX3_keep 58 = .ok (.iconst 1, 1) := by decide +kernel
theorem dX3_keep_59 : decode cX3_keep 59 = .ok (.iadd, 1) := by decide +kernel
theorem dX3_keep_60 : decode cX3_keep 60 = .ok (.bipush 8, 2) := by decide +kernel
theorem dX3_keep_62 : decode cX3_keep 62 = .ok (.invokestatic 33, 3) := by decide +kernel
theorem dX3_keep_65 : decode cX3_keep 65 = .ok (.putfield 15, 3) := by decide +kernel
theorem dX3_keep_68 : decode cX3_keep 68 = .ok (.aload_n 0, 1) := by decide +kernel
theorem dX3_keep_69 : decode cX3_keep 69 = .ok (.aload_n 0, 1) := by decide +kernel
theorem dX3_keep_70 : decode cX3_keep 70 = .ok (.getfield 9, 3) := by decide +kernel
theorem dX3_keep_73 : decode cX3_keep 73 = .ok (.iconst 1, 1) := by decide +kernel
theorem dX3_keep_74 : decode cX3_keep 74 = .ok (.iadd, 1) := by decide +kernel
theorem dX3_keep_75 : decode cX3_keep 75 = .ok (.bipush 8, 2) := by decide +kernel
theorem dX3_keep_77 : decode cX3_keep 77 = .ok (.invokestatic 53, 3) := by decide +kernel
theorem dX3_keep_80 : decode cX3_keep 80 = .ok (.putfield 9, 3) := by decide +kernel
theorem dX3_keep_83 : decode cX3_keep 83 = .ok (.return_, 1) := by decide +kernel
theorem dX3_bringBack_0 : decode cX3_bringBack 0 = .ok (.aload_n 0, 1) := by decide +kernel
theorem dX3_bringBack_1 : decode cX3_bringBack 1 = .ok (.getfield 9, 3) := by decide +kernel
theorem dX3_bringBack_4 : decode cX3_bringBack 4 = .ok (.ifCond .ne 4, 3) := by decide +kernel
theorem dX3_bringBack_7 : decode cX3_bringBack 7 = .ok (.return_, 1) := by decide +kernel
theorem dX3_bringBack_8 : decode cX3_bringBack 8 = .ok (.aload_n 0, 1) := by decide +kernel
theorem dX3_bringBack_9 : decode cX3_bringBack 9 = .ok (.getfield 15, 3) := by decide +kernel
theorem dX3_bringBack_12 : decode cX3_bringBack 12 = .ok (.iconst 1, 1) := by decide +kernel
theorem dX3_bringBack_13 : decode cX3_bringBack 13 = .ok (.isub, 1) := by decide +kernel
theorem dX3_bringBack_14 : decode cX3_bringBack 14 = .ok (.bipush 8, 2) := by decide +kernel
theorem dX3_bringBack_16 : decode cX3_bringBack 16 = .ok (.invokestatic 33, 3) := by decide +kernel
theorem dX3_bringBack_19 : decode cX3_bringBack 19 = .ok (.istore_n 2, 1) := by decide +kernel
theorem dX3_bringBack_20 : decode cX3_bringBack 20 = .ok (.aload_n 1, 1) := by decide +kernel
theorem dX3_bringBack_21 : decode cX3_bringBack 21 = .ok (.aload_n 0, 1) := by decide +kernel
theorem dX3_bringBack_22 : decode cX3_bringBack 22 = .ok (.getfield 18, 3) := by decide +kernel
theorem dX3_bringBack_25 : decode cX3_bringBack 25 = .ok (.iload_n 2, 1) := by decide +kernel
theorem dX3_bringBack_26 : decode cX3_bringBack 26 = .ok (.iaload, 1) := by decide +kernel
theorem dX3_bringBack_27 : decode cX3_bringBack 27 = .ok (.putfield 39, 3) := by decide +kernel
theorem dX3_bringBack_30 : decode cX3_bringBack 30 = .ok (.aload_n 1, 1) := by decide +kernel
theorem dX3_bringBack_31 : decode cX3_bringBack 31 = .ok (.aload_n 0, 1) := by decide +kernel
theorem dX3_bringBack_32 : decode cX3_bringBack 32 = .ok (.getfield 22, 3) := by decide +kernel
theorem dX3_bringBack_35 : decode cX3_bringBack 35 = .ok (.iload_n 2, 1) := by decide +kernel
theorem dX3_bringBack_36 : decode cX3_bringBack 36 = .ok (.iaload, 1) := by decide +kernel
theorem dX3_bringBack_37 : decode cX3_bringBack 37 = .ok (.putfield 43, 3) := by decide +kernel
theorem dX3_bringBack_40 : decode cX3_bringBack 40 = .ok (.aload_n 0, 1) := by decide +kernel
theorem dX3_bringBack_41 : decode cX3_bringBack 41 = .ok (.getfield 27, 3) := by decide +kernel
theorem dX3_bringBack_44 : decode cX3_bringBack 44 = .ok (.iload_n 2, 1) := by decide +kernel
theorem dX3_bringBack_45 : decode cX3_bringBack 45 = .ok (.aaload, 1) := by decide +kernel
theorem dX3_bringBack_46 : decode cX3_bringBack 46 = .ok (.aload_n 1, 1) := by decide +kernel
theorem dX3_bringBack_47 : decode cX3_bringBack 47 = .ok (.getfield 45, 3) := by decide +kernel
theorem dX3_bringBack_50 : decode cX3_bringBack 50 = .ok (.invokestatic 47, 3) := by decide +kernel
theorem dX3_bringBack_53 : decode cX3_bringBack 53 = .ok (.aload_n 0, 1) := by decide +kernel
theorem dX3_bringBack_54 : decode cX3_bringBack 54 = .ok (.getfield 30, 3) := by decide +kernel
theorem dX3_bringBack_57 : decode cX3_bringBack 57 = .ok (.iload_n 2, 1) := by decide +kernel
theorem dX3_bringBack_58 : decode cX3_bringBack 58 = .ok (.aaload, 1) := by decide +kernel
theorem dX3_bringBack_59 : decode cX3_bringBack 59 = .ok (.aload_n 1, 1) := by decide +kernel
theorem dX3_bringBack_60 : decode cX3_bringBack 60 = .ok (.getfield 51, 3) := by decide +kernel
theorem dX3_bringBack_63 : decode cX3_bringBack 63 = .ok (.invokestatic 47, 3) := by decide +kernel
theorem dX3_bringBack_66 : decode cX3_bringBack 66 = .ok (.aload_n 0, 1) := by decide +kernel
theorem dX3_bringBack_67 : decode cX3_bringBack 67 = .ok (.iload_n 2, 1) := by decide +kernel
theorem dX3_bringBack_68 : decode cX3_bringBack 68 = .ok (.putfield 15, 3) := by decide +kernel
theorem dX3_bringBack_71 : decode cX3_bringBack 71 = .ok (.aload_n 0, 1) := by decide +kernel
theorem dX3_bringBack_72 : decode cX3_bringBack 72 = .ok (.dup, 1) := by decide +kernel
theorem dX3_bringBack_73 : decode cX3_bringBack 73 = .ok (.getfield 9, 3) := by decide +kernel
theorem dX3_bringBack_76 : decode cX3_bringBack 76 = .ok (.iconst 1, 1) := by decide +kernel
theorem dX3_bringBack_77 : decode cX3_bringBack 77 = .ok (.isub, 1) := by decide +kernel
theorem dX3_bringBack_78 : decode cX3_bringBack 78 = .ok (.putfield 9, 3) := by decide +kernel
theorem dX3_bringBack_81 : decode cX3_bringBack 81 = .ok (.return_, 1) := by decide +kernel
theorem dX3_takeFrom_0 : decode cX3_takeFrom 0 = .ok (.aload_n 0, 1) := by decide +kernel
theorem dX3_takeFrom_1 : decode cX3_takeFrom 1 = .ok (.aload_n 1, 1) := by decide +kernel
theorem dX3_takeFrom_2 : decode cX3_takeFrom 2 = .ok (.getfield 9, 3) := by decide +kernel
theorem dX3_takeFrom_5 : decode cX3_takeFrom 5 = .ok (.putfield 9, 3) := by decide +kernel
theorem dX3_takeFrom_8 : decode cX3_takeFrom 8 = .ok (.aload_n 0, 1) := by decide +kernel
theorem dX3_takeFrom_9 : decode cX3_takeFrom 9 = .ok (.aload_n 1, 1) := by decide +kernel
theorem dX3_takeFrom_10 : decode cX3_takeFrom 10 = .ok (.getfield 15, 3) := by decide +kernel
theorem dX3_takeFrom_13 : decode cX3_takeFrom 13 = .ok (.putfield 15, 3) := by decide +kernel
theorem dX3_takeFrom_16 : decode cX3_takeFrom 16 = .ok (.aload_n 1, 1) := by decide +kernel
theorem dX3_takeFrom_17 : decode cX3_takeFrom 17 = .ok (.getfield 18, 3) := by decide +kernel
theorem dX3_takeFrom_20 : decode cX3_takeFrom 20 = .ok (.aload_n 0, 1) := by decide +kernel
theorem dX3_takeFrom_21 : decode cX3_takeFrom 21 = .ok (.getfield 18, 3) := by decide +kernel
theorem dX3_takeFrom_24 : decode cX3_takeFrom 24 = .ok (.invokestatic 47, 3) := by decide +kernel
theorem dX3_takeFrom_27 : decode cX3_takeFrom 27 = .ok (.aload_n 1, 1) := by decide +kernel
theorem dX3_takeFrom_28 : decode cX3_takeFrom 28 = .ok (.getfield 22, 3) := by decide +kernel
theorem dX3_takeFrom_31 : decode cX3_takeFrom 31 = .ok (.aload_n 0, 1) := by decide +kernel
theorem dX3_takeFrom_32 : decode cX3_takeFrom 32 = .ok (.getfield 22, 3) := by decide +kernel
theorem dX3_takeFrom_35 : decode cX3_takeFrom 35 = .ok (.invokestatic 47, 3) := by decide +kernel
theorem dX3_takeFrom_38 : decode cX3_takeFrom 38 = .ok (.iconst 0, 1) := by decide +kernel
theorem dX3_takeFrom_39 : decode cX3_takeFrom 39 = .ok (.istore_n 2, 1) := by decide +kernel
theorem dX3_takeFrom_40 : decode cX3_takeFrom 40 = .ok (.iload_n 2, 1) := by decide +kernel
theorem dX3_takeFrom_41 : decode cX3_takeFrom 41 = .ok (.bipush 8, 2) := by decide +kernel
theorem dX3_takeFrom_43 : decode cX3_takeFrom 43 = .ok (.if_icmp .ge 39, 3) := by decide +kernel
theorem dX3_takeFrom_46 : decode cX3_takeFrom 46 = .ok (.aload_n 1, 1) := by decide +kernel
theorem dX3_takeFrom_47 : decode cX3_takeFrom 47 = .ok (.getfield 27, 3) := by decide +kernel
theorem dX3_takeFrom_50 : decode cX3_takeFrom 50 = .ok (.iload_n 2, 1) := by decide +kernel
theorem dX3_takeFrom_51 : decode cX3_takeFrom 51 = .ok (.aaload, 1) := by decide +kernel
theorem dX3_takeFrom_52 : decode cX3_takeFrom 52 = .ok (.aload_n 0, 1) := by decide +kernel
theorem dX3_takeFrom_53 : decode cX3_takeFrom 53 = .ok (.getfield 27, 3) := by decide +kernel
theorem dX3_takeFrom_56 : decode cX3_takeFrom 56 = .ok (.iload_n 2, 1) := by decide +kernel
theorem dX3_takeFrom_57 : decode cX3_takeFrom 57 = .ok (.aaload, 1) := by decide +kernel
theorem dX3_takeFrom_58 : decode cX3_takeFrom 58 = .ok (.invokestatic 47, 3) := by decide +kernel
theorem dX3_takeFrom_61 : decode cX3_takeFrom 61 = .ok (.aload_n 1, 1) := by decide +kernel
theorem dX3_takeFrom_62 : decode cX3_takeFrom 62 = .ok (.getfield 30, 3) := by decide +kernel
theorem dX3_takeFrom_65 : decode cX3_takeFrom 65 = .ok (.iload_n 2, 1) := by decide +kernel
theorem dX3_takeFrom_66 : decode cX3_takeFrom 66 = .ok (.aaload, 1) := by decide +kernel
theorem dX3_takeFrom_67 : decode cX3_takeFrom 67 = .ok (.aload_n 0, 1) := by decide +kernel
theorem dX3_takeFrom_68 : decode cX3_takeFrom 68 = .ok (.getfield 30, 3) := by decide +kernel
theorem dX3_takeFrom_71 : decode cX3_takeFrom 71 = .ok (.iload_n 2, 1) := by decide +kernel
theorem dX3_takeFrom_72 : decode cX3_takeFrom 72 = .ok (.aaload, 1) := by decide +kernel
theorem dX3_takeFrom_73 : decode cX3_takeFrom 73 = .ok (.invokestatic 47, 3) := by decide +kernel
theorem dX3_takeFrom_76 : decode cX3_takeFrom 76 = .ok (.iinc 2 1, 3) := by decide +kernel
theorem dX3_takeFrom_79 : decode cX3_takeFrom 79 = .ok (.goto (-39), 3) := by decide +kernel
theorem dX3_takeFrom_82 : decode cX3_takeFrom 82 = .ok (.return_, 1) := by decide +kernel
theorem dX5_append_0 : decode cX5_append 0 = .ok (.aload_n 0, 1) := by decide +kernel
theorem dX5_append_1 : decode cX5_append 1 = .ok (.getfield 15, 3) := by decide +kernel
theorem dX5_append_4 : decode cX5_append 4 = .ok (.sipush 150, 3) := by decide +kernel
theorem dX5_append_7 : decode cX5_append 7 = .ok (.if_icmp .lt 6, 3) := by decide +kernel
theorem dX5_append_10 : decode cX5_append 10 = .ok (.bipush (-4), 2) := by decide +kernel
theorem dX5_append_12 : decode cX5_append 12 = .ok (.ireturn, 1) := by decide +kernel
theorem dX5_append_13 : decode cX5_append 13 = .ok (.aload_n 0, 1) := by decide +kernel
theorem dX5_append_14 : decode cX5_append 14 = .ok (.getfield 9, 3) := by decide +kernel
theorem dX5_append_17 : decode cX5_append 17 = .ok (.aload_n 0, 1) := by decide +kernel
theorem dX5_append_18 : decode cX5_append 18 = .ok (.getfield 15, 3) := by decide +kernel
theorem dX5_append_21 : decode cX5_append 21 = .ok (.iload_n 1, 1) := by decide +kernel
theorem dX5_append_22 : decode cX5_append 22 = .ok (.iastore, 1) := by decide +kernel
theorem dX5_append_23 : decode cX5_append 23 = .ok (.aload_n 0, 1) := by decide +kernel
theorem dX5_append_24 : decode cX5_append 24 = .ok (.dup, 1) := by decide +kernel
theorem dX5_append_25 : decode cX5_append 25 = .ok (.getfield 15, 3) := by decide +kernel
theorem dX5_append_28 : decode cX5_append 28 = .ok (.iconst 1, 1) := by decide +kernel
theorem dX5_append_29 : decode cX5_append 29 = .ok (.iadd, 1) := by decide +kernel
theorem dX5_append_30 : decode cX5_append 30 = .ok (.putfield 15, 3) := by decide +kernel
theorem dX5_append_33 : decode cX5_append 33 = .ok (.aload_n 0, 1) := by decide +kernel
theorem dX5_append_34 : decode cX5_append 34 = .ok (.getfield 15, 3) := by decide +kernel
theorem dX5_append_37 : decode cX5_append 37 = .ok (.ireturn, 1) := by decide +kernel
theorem dX5_parse_0 : decode cX5_parse 0 = .ok (.aload_n 0, 1) := by decide +kernel
theorem dX5_parse_1 : decode cX5_parse 1 = .ok (.iconst 0, 1) := by decide +kernel
theorem dX5_parse_2 : decode cX5_parse 2 = .ok (.putfield 27, 3) := by decide +kernel
theorem dX5_parse_5 : decode cX5_parse 5 = .ok (.aload_n 0, 1) := by decide +kernel
theorem dX5_parse_6 : decode cX5_parse 6 = .ok (.iconst 0, 1) := by decide +kernel
theorem dX5_parse_7 : decode cX5_parse 7 = .ok (.putfield 36, 3) := by decide +kernel
theorem dX5_parse_10 : decode cX5_parse 10 = .ok (.aload_n 0, 1) := by decide +kernel
theorem dX5_parse_11 : decode cX5_parse 11 = .ok (.invokevirtual 39, 3) := by decide +kernel
theorem dX5_parse_14 : decode cX5_parse 14 = .ok (.iconst 0, 1) := by decide +kernel
theorem dX5_parse_15 : decode cX5_parse 15 = .ok (.istore_n 1, 1) := by decide +kernel
theorem dX5_parse_16 : decode cX5_parse 16 = .ok (.iload_n 1, 1) := by decide +kernel
theorem dX5_parse_17 : decode cX5_parse 17 = .ok (.bipush 24, 2) := by decide +kernel
theorem dX5_parse_19 : decode cX5_parse 19 = .ok (.if_icmp .ge 48, 3) := by decide +kernel
theorem dX5_parse_22 : decode cX5_parse 22 = .ok (.aload_n 0, 1) := by decide +kernel
theorem dX5_parse_23 : decode cX5_parse 23 = .ok (.getfield 30, 3) := by decide +kernel
theorem dX5_parse_26 : decode cX5_parse 26 = .ok (.ifCond .ne 12, 3) := by decide +kernel
theorem dX5_parse_29 : decode cX5_parse 29 = .ok (.aload_n 0, 1) := by decide +kernel
theorem dX5_parse_30 : decode cX5_parse 30 = .ok (.getfield 27, 3) := by decide +kernel
theorem dX5_parse_33 : decode cX5_parse 33 = .ok (.ifCond .le 5, 3) := by decide +kernel
theorem dX5_parse_36 : decode cX5_parse 36 = .ok (.iconst (-1), 1) := by decide +kernel
theorem dX5_parse_37 : decode cX5_parse 37 = .ok (.ireturn, 1) := by decide +kernel
theorem dX5_parse_38 : decode cX5_parse 38 = .ok (.aload_n 0, 1) := by decide +kernel
theorem dX5_parse_39 : decode cX5_parse 39 = .ok (.iload_n 1, 1) := by decide +kernel
theorem dX5_parse_40 : decode cX5_parse 40 = .ok (.invokevirtual 42, 3) := by decide +kernel
theorem dX5_parse_43 : decode cX5_parse 43 = .ok (.ifCond .ne 8, 3) := by decide +kernel
theorem dX5_parse_46 : decode cX5_parse 46 = .ok (.aload_n 0, 1) := by decide +kernel
theorem dX5_parse_47 : decode cX5_parse 47 = .ok (.getfield 33, 3) := by decide +kernel
theorem dX5_parse_50 : decode cX5_parse 50 = .ok (.ireturn, 1) := by decide +kernel
theorem dX5_parse_51 : decode cX5_parse 51 = .ok (.aload_n 0, 1) := by decide +kernel
theorem dX5_parse_52 : decode cX5_parse 52 = .ok (.dup, 1) := by decide +kernel
theorem dX5_parse_53 : decode cX5_parse 53 = .ok (.getfield 27, 3) := by decide +kernel
theorem dX5_parse_56 : decode cX5_parse 56 = .ok (.iconst 1, 1) := by decide +kernel
theorem dX5_parse_57 : decode cX5_parse 57 = .ok (.iadd, 1) := by decide +kernel
theorem dX5_parse_58 : decode cX5_parse 58 = .ok (.putfield 27, 3) := by decide +kernel
theorem dX5_parse_61 : decode cX5_parse 61 = .ok (.iinc 1 1, 3) := by decide +kernel
theorem dX5_parse_64 : decode cX5_parse 64 = .ok (.goto (-48), 3) := by decide +kernel
theorem dX5_parse_67 : decode cX5_parse 67 = .ok (.aload_n 0, 1) := by decide +kernel
theorem dX5_parse_68 : decode cX5_parse 68 = .ok (.getfield 30, 3) := by decide +kernel
theorem dX5_parse_71 : decode cX5_parse 71 = .ok (.ifCond .ne 7, 3) := by decide +kernel
theorem dX5_parse_74 : decode cX5_parse 74 = .ok (.iconst (-1), 1) := by decide +kernel
theorem dX5_parse_75 : decode cX5_parse 75 = .ok (.goto 7, 3) := by decide +kernel
theorem dX5_parse_78 : decode cX5_parse 78 = .ok (.aload_n 0, 1) := by decide +kernel
theorem dX5_parse_79 : decode cX5_parse 79 = .ok (.getfield 33, 3) := by decide +kernel
theorem dX5_parse_82 : decode cX5_parse 82 = .ok (.ireturn, 1) := by decide +kernel
theorem dX5_parseItem_0 : decode cX5_parseItem 0 = .ok (.aload_n 0, 1) := by decide +kernel
theorem dX5_parseItem_1 : decode cX5_parseItem 1 = .ok (.getfield 30, 3) := by decide +kernel
theorem dX5_parseItem_4 : decode cX5_parseItem 4 = .ok (.iconst 1, 1) := by decide +kernel
theorem dX5_parseItem_5 : decode cX5_parseItem 5 = .ok (.if_icmp .ne 10, 3) := by decide +kernel
theorem dX5_parseItem_8 : decode cX5_parseItem 8 = .ok (.aload_n 0, 1) := by decide +kernel
theorem dX5_parseItem_9 : decode cX5_parseItem 9 = .ok (.invokevirtual 46, 3) := by decide +kernel
theorem dX5_parseItem_12 : decode cX5_parseItem 12 = .ok (.goto 4, 3) := by decide +kernel
theorem dX5_parseItem_15 : decode cX5_parseItem 15 = .ok (.iconst (-1), 1) := by decide +kernel
theorem dX5_parseItem_16 : decode cX5_parseItem 16 = .ok (.istore_n 2, 1) := by decide +kernel
theorem dX5_parseItem_17 : decode cX5_parseItem 17 = .ok (.iload_n 1, 1) := by decide +kernel
theorem dX5_parseItem_18 : decode cX5_parseItem 18 = .ok (.ifCond .ne 15, 3) := by decide +kernel
theorem dX5_parseItem_21 : decode cX5_parseItem 21 = .ok (.iload_n 2, 1) := by decide +kernel
theorem dX5_parseItem_22 : decode cX5_parseItem 22 = .ok (.ifCond .ne 7, 3) := by decide +kernel
theorem dX5_parseItem_25 : decode cX5_parseItem 25 = .ok (.iconst 1, 1) := by decide +kernel
theorem dX5_parseItem_26 : decode cX5_parseItem 26 = .ok (.goto 16, 3) := by decide +kernel
theorem dX5_parseItem_29 : decode cX5_parseItem 29 = .ok (.iconst 0, 1) := by decide +kernel
theorem dX5_parseItem_30 : decode cX5_parseItem 30 = .ok (.goto 12, 3) := by decide +kernel
theorem dX5_parseItem_33 : decode cX5_parseItem 33 = .ok (.iload_n 2, 1) := by decide +kernel
theorem dX5_parseItem_34 : decode cX5_parseItem 34 = .ok (.ifCond .le 7, 3) := by decide +kernel
theorem dX5_parseItem_37 : decode cX5_parseItem 37 = .ok (.iconst 1, 1) := by decide +kernel
theorem dX5_parseItem_38 : decode cX5_parseItem 38 = .ok (.goto 4, 3) := by decide +kernel
theorem dX5_parseItem_41 : decode cX5_parseItem 41 = .ok (.iconst 0, 1) := by decide +kernel
theorem dX5_parseItem_42 : decode cX5_parseItem 42 = .ok (.istore_n 3, 1) := by decide +kernel
theorem dX5_parseItem_43 : decode cX5_parseItem 43 = .ok (.iload_n 3, 1) := by decide +kernel
theorem dX5_parseItem_44 : decode cX5_parseItem 44 = .ok (.ifCond .ne 5, 3) := by decide +kernel
theorem dX5_parseItem_47 : decode cX5_parseItem 47 = .ok (.iconst 0, 1) := by decide +kernel
theorem dX5_parseItem_48 : decode cX5_parseItem 48 = .ok (.ireturn, 1) := by decide +kernel
theorem dX5_parseItem_49 : decode cX5_parseItem 49 = .ok (.aload_n 0, 1) := by decide +kernel
theorem dX5_parseItem_50 : decode cX5_parseItem 50 = .ok (.getfield 19, 3) := by decide +kernel
theorem dX5_parseItem_53 : decode cX5_parseItem 53 = .ok (.iload_n 1, 1) := by decide +kernel
theorem dX5_parseItem_54 : decode cX5_parseItem 54 = .ok (.iload_n 2, 1) := by decide +kernel
theorem dX5_parseItem_55 : decode cX5_parseItem 55 = .ok (.iastore, 1) := by decide +kernel
theorem dX5_parseItem_56 : decode cX5_parseItem 56 = .ok (.aload_n 0, 1) := by decide +kernel
theorem dX5_parseItem_57 : decode cX5_parseItem 57 = .ok (.invokevirtual 39, 3) := by decide +kernel
theorem dX5_parseItem_60 : decode cX5_parseItem 60 = .ok (.iload_n 2, 1) := by decide +kernel
theorem dX5_parseItem_61 : decode cX5_parseItem 61 = .ok (.invokestatic 50, 3) := by decide +kernel
theorem dX5_parseItem_64 : decode cX5_parseItem 64 = .ok (.istore 4, 2) := by decide +kernel
theorem dX5_parseItem_66 : decode cX5_parseItem 66 = .ok (.iconst 0, 1) := by decide +kernel
theorem dX5_parseItem_67 : decode cX5_parseItem 67 = .ok (.istore 5, 2) := by decide +kernel
theorem dX5_parseItem_69 : decode cX5_parseItem 69 = .ok (.iload 5, 2) := by decide +kernel
theorem dX5_parseItem_71 : decode cX5_parseItem 71 = .ok (.iload 4, 2) := by decide +kernel
theorem dX5_parseItem_73 : decode cX5_parseItem 73 = .ok (.if_icmp .ge 36, 3) := by decide +kernel
theorem dX5_parseItem_76 : decode cX5_parseItem 76 = .ok (.aload_n 0, 1) := by decide +kernel
theorem dX5_parseItem_77 : decode cX5_parseItem 77 = .ok (.getfield 30, 3) := by decide +kernel
theorem dX5_parseItem_80 : decode cX5_parseItem 80 = .ok (.iconst 2, 1) := by decide +kernel
theorem dX5_parseItem_81 : decode cX5_parseItem 81 = .ok (.if_icmp .eq 5, 3) := by decide +kernel
theorem dX5_parseItem_84 : decode cX5_parseItem 84 = .ok (.iconst 0, 1) := by decide +kernel
theorem dX5_parseItem_85 : decode cX5_parseItem 85 = .ok (.ireturn, 1) := by decide +kernel
theorem dX5_parseItem_86 : decode cX5_parseItem 86 = .ok (.aload_n 0, 1) := by decide +kernel
theorem dX5_parseItem_87 : decode cX5_parseItem 87 = .ok (.getfield 24, 3) := by decide +kernel
theorem dX5_parseItem_90 : decode cX5_parseItem 90 = .ok (.iload_n 1, 1) := by decide +kernel
theorem dX5_parseItem_91 : decode cX5_parseItem 91 = .ok (.aaload, 1) := by decide +kernel
theorem dX5_parseItem_92 : decode cX5_parseItem 92 = .ok (.iload 5, 2) := by decide +kernel
theorem dX5_parseItem_94 : decode cX5_parseItem 94 = .ok (.aload_n 0, 1) := by decide +kernel
theorem dX5_parseItem_95 : decode cX5_parseItem 95 = .ok (.invokevirtual 54, 3) := by decide +kernel
theorem dX5_parseItem_98 : decode cX5_parseItem 98 = .ok (.iastore, 1) := by decide +kernel
theorem dX5_parseItem_99 : decode cX5_parseItem 99 = .ok (.aload_n 0, 1) := by decide +kernel
theorem dX5_parseItem_100 : decode cX5_parseItem 100 = .ok (.invokevirtual 39, 3) := by decide +kernel
theorem dX5_parseItem_103 : decode cX5_parseItem 103 = .ok (.iinc 5 1, 3) := by decide +kernel
theorem dX5_parseItem_106 : decode cX5_parseItem 106 = .ok (.goto (-37), 3) := by decide +kernel
theorem dX5_parseItem_109 : decode cX5_parseItem 109 = .ok (.aload_n 0, 1) := by decide +kernel
theorem dX5_parseItem_110 : decode cX5_parseItem 110 = .ok (.getfield 30, 3) := by decide +kernel
theorem dX5_parseItem_113 : decode cX5_parseItem 113 = .ok (.iconst 3, 1) := by decide +kernel
theorem dX5_parseItem_114 : decode cX5_parseItem 114 = .ok (.if_icmp .eq 5, 3) := by decide +kernel
theorem dX5_parseItem_117 : decode cX5_parseItem 117 = .ok (.iconst 0, 1) := by decide +kernel
theorem dX5_parseItem_118 : decode cX5_parseItem 118 = .ok (.ireturn, 1) := by decide +kernel
theorem dX5_parseItem_119 : decode cX5_parseItem 119 = .ok (.aload_n 0, 1) := by decide +kernel
theorem dX5_parseItem_120 : decode cX5_parseItem 120 = .ok (.invokevirtual 39, 3) := by decide +kernel
theorem dX5_parseItem_123 : decode cX5_parseItem 123 = .ok (.iconst 1, 1) := by decide +kernel
theorem dX5_parseItem_124 : decode cX5_parseItem 124 = .ok (.ireturn, 1) := by decide +kernel
theorem dX5_numbersOf_0 : decode cX5_numbersOf 0 = .ok (.iload_n 0, 1) := by decide +kernel
theorem dX5_numbersOf_1 : decode cX5_numbersOf 1 = .ok (.ifCond .ne 7, 3) := by decide +kernel
theorem dX5_numbersOf_4 : decode cX5_numbersOf 4 = .ok (.iconst 0, 1) := by decide +kernel
theorem dX5_numbersOf_5 : decode cX5_numbersOf 5 = .ok (.goto 13, 3) := by decide +kernel
theorem dX5_numbersOf_8 : decode cX5_numbersOf 8 = .ok (.iload_n 0, 1) := by decide +kernel
theorem dX5_numbersOf_9 : decode cX5_numbersOf 9 = .ok (.iconst 1, 1) := by decide +kernel
theorem dX5_numbersOf_10 : decode cX5_numbersOf 10 = .ok (.if_icmp .ne 7, 3) := by decide +kernel
theorem dX5_numbersOf_13 : decode cX5_numbersOf 13 = .ok (.iconst 3, 1) := by decide +kernel
theorem dX5_numbersOf_14 : decode cX5_numbersOf 14 = .ok (.goto 4, 3) := by decide +kernel
theorem dX5_numbersOf_17 : decode cX5_numbersOf 17 = .ok (.iconst 2, 1) := by decide +kernel
theorem dX5_numbersOf_18 : decode cX5_numbersOf 18 = .ok (.ireturn, 1) := by decide +kernel
theorem dX5_nextToken_0 : decode cX5_nextToken 0 = .ok (.aload_n 0, 1) := by decide +kernel
theorem dX5_nextToken_1 : decode cX5_nextToken 1 = .ok (.getfield 36, 3) := by decide +kernel
theorem dX5_nextToken_4 : decode cX5_nextToken 4 = .ok (.istore_n 1, 1) := by decide +kernel
theorem dX5_nextToken_5 : decode cX5_nextToken 5 = .ok (.iload_n 1, 1) := by decide +kernel
theorem dX5_nextToken_6 : decode cX5_nextToken 6 = .ok (.aload_n 0, 1) := by decide +kernel
theorem dX5_nextToken_7 : decode cX5_nextToken 7 = .ok (.getfield 15, 3) := by decide +kernel
theorem dX5_nextToken_10 : decode cX5_nextToken 10 = .ok (.if_icmp .ge 20, 3) := by decide +kernel
theorem dX5_nextToken_13 : decode cX5_nextToken 13 = .ok (.aload_n 0, 1) := by decide +kernel
theorem dX5_nextToken_14 : decode cX5_nextToken 14 = .ok (.getfield 9, 3) := by decide +kernel
theorem dX5_nextToken_17 : decode cX5_nextToken 17 = .ok (.iload_n 1, 1) := by decide +kernel
theorem dX5_nextToken_18 : decode cX5_nextToken 18 = .ok (.iaload, 1) := by decide +kernel
theorem dX5_nextToken_19 : decode cX5_nextToken 19 = .ok (.bipush 32, 2) := by decide +kernel
theorem dX5_nextToken_21 : decode cX5_nextToken 21 = .ok (.if_icmp .ne 9, 3) := by decide +kernel
theorem dX5_nextToken_24 : decode cX5_nextToken 24 = .ok (.iinc 1 1, 3) := by decide +kernel
theorem dX5_nextToken_27 : decode cX5_nextToken 27 = .ok (.goto (-22), 3) := by decide +kernel
theorem dX5_nextToken_30 : decode cX5_nextToken 30 = .ok (.aload_n 0, 1) := by decide +kernel
theorem dX5_nextToken_31 : decode cX5_nextToken 31 = .ok (.iload_n 1, 1) := by decide +kernel
theorem dX5_nextToken_32 : decode cX5_nextToken 32 = .ok (.putfield 33, 3) := by decide +kernel
theorem dX5_nextToken_35 : decode cX5_nextToken 35 = .ok (.aload_n 0, 1) := by decide +kernel
theorem dX5_nextToken_36 : decode cX5_nextToken 36 = .ok (.iload_n 1, 1) := by decide +kernel
theorem dX5_nextToken_37 : decode cX5_nextToken 37 = .ok (.putfield 36, 3) := by decide +kernel
theorem dX5_nextToken_40 : decode cX5_nextToken 40 = .ok (.iload_n 1, 1) := by decide +kernel
theorem dX5_nextToken_41 : decode cX5_nextToken 41 = .ok (.aload_n 0, 1) := by decide +kernel
theorem dX5_nextToken_42 : decode cX5_nextToken 42 = .ok (.getfield 15, 3) := by decide +kernel
theorem dX5_nextToken_45 : decode cX5_nextToken 45 = .ok (.if_icmp .lt 11, 3) := by decide +kernel
theorem dX5_nextToken_48 : decode cX5_nextToken 48 = .ok (.aload_n 0, 1) := by decide +kernel
theorem dX5_nextToken_49 : decode cX5_nextToken 49 = .ok (.iconst 0, 1) := by decide +kernel
theorem dX5_nextToken_50 : decode cX5_nextToken 50 = .ok (.putfield 30, 3) := by decide +kernel
theorem dX5_nextToken_53 : decode cX5_nextToken 53 = .ok (.goto 105, 3) := by decide +kernel
theorem dX5_nextToken_56 : decode cX5_nextToken 56 = .ok (.aload_n 0, 1) := by decide +kernel
theorem dX5_nextToken_57 : decode cX5_nextToken 57 = .ok (.getfield 9, 3) := by decide +kernel
theorem dX5_nextToken_60 : decode cX5_nextToken 60 = .ok (.iload_n 1, 1) := by decide +kernel
theorem dX5_nextToken_61 : decode cX5_nextToken 61 = .ok (.iaload, 1) := by decide +kernel
theorem dX5_nextToken_62 : decode cX5_nextToken 62 = .ok (.invokestatic 57, 3) := by decide +kernel
theorem dX5_nextToken_65 : decode cX5_nextToken 65 = .ok (.ifCond .eq 20, 3) := by decide +kernel
theorem dX5_nextToken_68 : decode cX5_nextToken 68 = .ok (.aload_n 0, 1) := by decide +kernel
theorem dX5_nextToken_69 : decode cX5_nextToken 69 = .ok (.iconst 1, 1) := by decide +kernel
theorem dX5_nextToken_70 : decode cX5_nextToken 70 = .ok (.putfield 30, 3) := by decide +kernel
theorem dX5_nextToken_73 : decode cX5_nextToken 73 = .ok (.aload_n 0, 1) := by decide +kernel
theorem dX5_nextToken_74 : decode cX5_nextToken 74 = .ok (.aload_n 0, 1) := by decide +kernel
theorem dX5_nextToken_75 : decode cX5_nextToken 75 = .ok (.iconst 1, 1) := by decide +kernel
theorem dX5_nextToken_76 : decode cX5_nextToken 76 = .ok (.invokevirtual 60, 3) := by decide +kernel
theorem dX5_nextToken_79 : decode cX5_nextToken 79 = .ok (.putfield 36, 3) := by decide +kernel
theorem dX5_nextToken_82 : decode cX5_nextToken 82 = .ok (.goto 76, 3) := by decide +kernel
theorem dX5_nextToken_85 : decode cX5_nextToken 85 = .ok (.aload_n 0, 1) := by decide +kernel
theorem dX5_nextToken_86 : decode cX5_nextToken 86 = .ok (.getfield 9, 3) := by decide +kernel
theorem dX5_nextToken_89 : decode cX5_nextToken 89 = .ok (.iload_n 1, 1) := by decide +kernel
theorem dX5_nextToken_90 : decode cX5_nextToken 90 = .ok (.iaload, 1) := by decide +kernel
theorem dX5_nextToken_91 : decode cX5_nextToken 91 = .ok (.invokestatic 64, 3) := by decide +kernel
theorem dX5_nextToken_94 : decode cX5_nextToken 94 = .ok (.ifCond .eq 37, 3) := by decide +kernel
theorem dX5_nextToken_97 : decode cX5_nextToken 97 = .ok (.aload_n 0, 1) := by decide +kernel
theorem dX5_nextToken_98 : decode cX5_nextToken 98 = .ok (.aload_n 0, 1) := by decide +kernel
theorem dX5_nextToken_99 : decode cX5_nextToken 99 = .ok (.iconst 0, 1) := by decide +kernel
theorem dX5_nextToken_100 : decode cX5_nextToken 100 = .ok (.invokevirtual 60, 3) := by decide +kernel
theorem dX5_nextToken_103 : decode cX5_nextToken 103 = .ok (.putfield 36, 3) := by decide +kernel
theorem dX5_nextToken_106 : decode cX5_nextToken 106 = .ok (.aload_n 0, 1) := by decide +kernel
theorem dX5_nextToken_107 : decode cX5_nextToken 107 = .ok (.aload_n 0, 1) := by decide +kernel
theorem dX5_nextToken_108 : decode cX5_nextToken 108 = .ok (.getfield 36, 3) := by decide +kernel
theorem dX5_nextToken_111 : decode cX5_nextToken 111 = .ok (.aload_n 0, 1) := by decide +kernel
theorem dX5_nextToken_112 : decode cX5_nextToken 112 = .ok (.getfield 33, 3) := by decide +kernel
theorem dX5_nextToken_115 : decode cX5_nextToken 115 = .ok (.isub, 1) := by decide +kernel
theorem dX5_nextToken_116 : decode cX5_nextToken 116 = .ok (.iconst 2, 1) := by decide +kernel
theorem dX5_nextToken_117 : decode cX5_nextToken 117 = .ok (.if_icmp .gt 7, 3) := by decide +kernel
theorem dX5_nextToken_120 : decode cX5_nextToken 120 = .ok (.iconst 2, 1) := by decide +kernel
theorem dX5_nextToken_121 : decode cX5_nextToken 121 = .ok (.goto 4, 3) := by decide +kernel
theorem dX5_nextToken_124 : decode cX5_nextToken 124 = .ok (.iconst 4, 1) := by decide +kernel
theorem dX5_nextToken_125 : decode cX5_nextToken 125 = .ok (.putfield 30, 3) := by decide +kernel
theorem dX5_nextToken_128 : decode cX5_nextToken 128 = .ok (.goto 30, 3) := by decide +kernel
theorem dX5_nextToken_131 : decode cX5_nextToken 131 = .ok (.aload_n 0, 1) := by decide +kernel
theorem dX5_nextToken_132 : decode cX5_nextToken 132 = .ok (.aload_n 0, 1) := by decide +kernel
theorem dX5_nextToken_133 : decode cX5_nextToken 133 = .ok (.getfield 9, 3) := by decide +kernel
theorem dX5_nextToken_136 : decode cX5_nextToken 136 = .ok (.iload_n 1, 1) := by decide +kernel
theorem dX5_nextToken_137 : decode cX5_nextToken 137 = .ok (.iaload, 1) := by decide +kernel
theorem dX5_nextToken_138 : decode cX5_nextToken 138 = .ok (.bipush 59, 2) := by decide +kernel
theorem dX5_nextToken_140 : decode cX5_nextToken 140 = .ok (.if_icmp .ne 7, 3) := by decide +kernel
theorem dX5_nextToken_143 : decode cX5_nextToken 143 = .ok (.iconst 3, 1) := by decide +kernel
theorem dX5_nextToken_144 : decode cX5_nextToken 144 = .ok (.goto 4, 3) := by decide +kernel
theorem dX5_nextToken_147 : decode cX5_nextToken 147 = .ok (.iconst 4, 1) := by decide +kernel
theorem dX5_nextToken_148 : decode cX5_nextToken 148 = .ok (.putfield 30, 3) := by decide +kernel
theorem dX5_nextToken_151 : decode cX5_nextToken 151 = .ok (.aload_n 0, 1) := by decide +kernel
theorem dX5_nextToken_152 : decode cX5_nextToken 152 = .ok (.iload_n 1, 1) := by decide +kernel
theorem dX5_nextToken_153 : decode cX5_nextToken 153 = .ok (.iconst 1, 1) := by decide +kernel
theorem dX5_nextToken_154 : decode cX5_nextToken 154 = .ok (.iadd, 1) := by decide +kernel
theorem dX5_nextToken_155 : decode cX5_nextToken 155 = .ok (.putfield 36, 3) := by decide +kernel
theorem dX5_nextToken_158 : decode cX5_nextToken 158 = .ok (.return_, 1) := by decide +kernel
theorem dX5_runEnd_0 : decode cX5_runEnd 0 = .ok (.aload_n 0, 1) := by decide +kernel
theorem dX5_runEnd_1 : decode cX5_runEnd 1 = .ok (.getfield 33, 3) := by decide +kernel
theorem dX5_runEnd_4 : decode cX5_runEnd 4 = .ok (.istore_n 2, 1) := by decide +kernel
theorem dX5_runEnd_5 : decode cX5_runEnd 5 = .ok (.iload_n 2, 1) := by decide +kernel
theorem dX5_runEnd_6 : decode cX5_runEnd 6 = .ok (.aload_n 0, 1) := by decide +kernel
theorem dX5_runEnd_7 : decode cX5_runEnd 7 = .ok (.getfield 15, 3) := by decide +kernel
theorem dX5_runEnd_10 : decode cX5_runEnd 10 = .ok (.if_icmp .ge 40, 3) := by decide +kernel
theorem dX5_runEnd_13 : decode cX5_runEnd 13 = .ok (.iload_n 1, 1) := by decide +kernel
theorem dX5_runEnd_14 : decode cX5_runEnd 14 = .ok (.ifCond .eq 18, 3) := by decide +kernel
theorem dX5_runEnd_17 : decode cX5_runEnd 17 = .ok (.aload_n 0, 1) := by decide +kernel
theorem dX5_runEnd_18 : decode cX5_runEnd 18 = .ok (.getfield 9, 3) := by decide +kernel
theorem dX5_runEnd_21 : decode cX5_runEnd 21 = .ok (.iload_n 2, 1) := by decide +kernel
theorem dX5_runEnd_22 : decode cX5_runEnd 22 = .ok (.iaload, 1) := by decide +kernel
theorem dX5_runEnd_23 : decode cX5_runEnd 23 = .ok (.invokestatic 57, 3) := by decide +kernel
theorem dX5_runEnd_26 : decode cX5_runEnd 26 = .ok (.ifCond .eq 24, 3) := by decide +kernel
theorem dX5_runEnd_29 : decode cX5_runEnd 29 = .ok (.goto 15, 3) := by decide +kernel
theorem dX5_runEnd_32 : decode cX5_runEnd 32 = .ok (.aload_n 0, 1) := by decide +kernel
theorem dX5_runEnd_33 : decode cX5_runEnd 33 = .ok (.getfield 9, 3) := by decide +kernel
theorem dX5_runEnd_36 : decode cX5_runEnd 36 = .ok (.iload_n 2, 1) := by decide +kernel
theorem dX5_runEnd_37 : decode cX5_runEnd 37 = .ok (.iaload, 1) := by decide +kernel
theorem dX5_runEnd_38 : decode cX5_runEnd 38 = .ok (.invokestatic 64, 3) := by decide +kernel
theorem dX5_runEnd_41 : decode cX5_runEnd 41 = .ok (.ifCond .eq 9, 3) := by decide +kernel
theorem dX5_runEnd_44 : decode cX5_runEnd 44 = .ok (.iinc 2 1, 3) := by decide +kernel
theorem dX5_runEnd_47 : decode cX5_runEnd 47 = .ok (.goto (-42), 3) := by decide +kernel
theorem dX5_runEnd_50 : decode cX5_runEnd 50 = .ok (.iload_n 2, 1) := by decide +kernel
theorem dX5_runEnd_51 : decode cX5_runEnd 51 = .ok (.ireturn, 1) := by decide +kernel
theorem dX5_isLetter_0 : decode cX5_isLetter 0 = .ok (.iload_n 0, 1) := by decide +kernel
theorem dX5_isLetter_1 : decode cX5_isLetter 1 = .ok (.bipush 97, 2) := by decide +kernel
theorem dX5_isLetter_3 : decode cX5_isLetter 3 = .ok (.if_icmp .lt 13, 3) := by decide +kernel
theorem dX5_isLetter_6 : decode cX5_isLetter 6 = .ok (.iload_n 0, 1) := by decide +kernel
theorem dX5_isLetter_7 : decode cX5_isLetter 7 = .ok (.bipush 122, 2) := by decide +kernel
theorem dX5_isLetter_9 : decode cX5_isLetter 9 = .ok (.if_icmp .gt 7, 3) := by decide +kernel
theorem dX5_isLetter_12 : decode cX5_isLetter 12 = .ok (.iconst 1, 1) := by decide +kernel
theorem dX5_isLetter_13 : decode cX5_isLetter 13 = .ok (.goto 4, 3) := by decide +kernel
theorem dX5_isLetter_16 : decode cX5_isLetter 16 = .ok (.iconst 0, 1) := by decide +kernel
theorem dX5_isLetter_17 : decode cX5_isLetter 17 = .ok (.ireturn, 1) := by decide +kernel
theorem dX5_isFigure_0 : decode cX5_isFigure 0 = .ok (.iload_n 0, 1) := by decide +kernel
theorem dX5_isFigure_1 : decode cX5_isFigure 1 = .ok (.bipush 48, 2) := by decide +kernel
theorem dX5_isFigure_3 : decode cX5_isFigure 3 = .ok (.if_icmp .lt 13, 3) := by decide +kernel
theorem dX5_isFigure_6 : decode cX5_isFigure 6 = .ok (.iload_n 0, 1) := by decide +kernel
theorem dX5_isFigure_7 : decode cX5_isFigure 7 = .ok (.bipush 57, 2) := by decide +kernel
theorem dX5_isFigure_9 : decode cX5_isFigure 9 = .ok (.if_icmp .gt 7, 3) := by decide +kernel
theorem dX5_isFigure_12 : decode cX5_isFigure 12 = .ok (.iconst 1, 1) := by decide +kernel
theorem dX5_isFigure_13 : decode cX5_isFigure 13 = .ok (.goto 4, 3) := by decide +kernel
theorem dX5_isFigure_16 : decode cX5_isFigure 16 = .ok (.iconst 0, 1) := by decide +kernel
theorem dX5_isFigure_17 : decode cX5_isFigure 17 = .ok (.ireturn, 1) := by decide +kernel
theorem dX5_tokenNumber_0 : decode cX5_tokenNumber 0 = .ok (.iconst 0, 1) := by decide +kernel
theorem dX5_tokenNumber_1 : decode cX5_tokenNumber 1 = .ok (.istore_n 1, 1) := by decide +kernel
theorem dX5_tokenNumber_2 : decode cX5_tokenNumber 2 = .ok (.aload_n 0, 1) := by decide +kernel
theorem dX5_tokenNumber_3 : decode cX5_tokenNumber 3 = .ok (.getfield 33, 3) := by decide +kernel
theorem dX5_tokenNumber_6 : decode cX5_tokenNumber 6 = .ok (.istore_n 2, 1) := by decide +kernel
theorem dX5_tokenNumber_7 : decode cX5_tokenNumber 7 = .ok (.iload_n 2, 1) := by decide +kernel
theorem dX5_tokenNumber_8 : decode cX5_tokenNumber 8 = .ok (.aload_n 0, 1) := by decide +kernel
theorem dX5_tokenNumber_9 : decode cX5_tokenNumber 9 = .ok (.getfield 36, 3) := by decide +kernel
theorem dX5_tokenNumber_12 : decode cX5_tokenNumber 12 = .ok (.if_icmp .ge 31, 3) := by decide +kernel
theorem dX5_tokenNumber_15 : decode cX5_tokenNumber 15 = .ok (.iload_n 2, 1) := by decide +kernel
theorem dX5_tokenNumber_16 : decode cX5_tokenNumber 16 = .ok (.sipush 150, 3) := by decide +kernel
theorem dX5_tokenNumber_19 : decode cX5_tokenNumber 19 = .ok (.if_icmp .ge 24, 3) := by decide +kernel
theorem dX5_tokenNumber_22 : decode cX5_tokenNumber 22 = .ok (.bipush 10, 2) := by decide +kernel
theorem dX5_tokenNumber_24 : decode cX5_tokenNumber 24 = .ok (.iload_n 1, 1) := by decide +kernel
theorem dX5_tokenNumber_25 : decode cX5_tokenNumber 25 = .ok (.imul, 1) := by decide +kernel
theorem dX5_tokenNumber_26 : decode cX5_tokenNumber 26 = .ok (.aload_n 0, 1) := by decide +kernel
theorem dX5_tokenNumber_27 : decode cX5_tokenNumber 27 = .ok (.getfield 9, 3) := by decide +kernel
theorem dX5_tokenNumber_30 : decode cX5_tokenNumber 30 = .ok (.iload_n 2, 1) := by decide +kernel
theorem dX5_tokenNumber_31 : decode cX5_tokenNumber 31 = .ok (.iaload, 1) := by decide +kernel
theorem dX5_tokenNumber_32 : decode cX5_tokenNumber 32 = .ok (.iadd, 1) := by decide +kernel
theorem dX5_tokenNumber_33 : decode cX5_tokenNumber 33 = .ok (.bipush 48, 2) := by decide +kernel
theorem dX5_tokenNumber_35 : decode cX5_tokenNumber 35 = .ok (.isub, 1) := by decide +kernel
theorem dX5_tokenNumber_36 : decode cX5_tokenNumber 36 = .ok (.istore_n 1, 1) := by decide +kernel
theorem dX5_tokenNumber_37 : decode cX5_tokenNumber 37 = .ok (.iinc 2 1, 3) := by decide +kernel
theorem dX5_tokenNumber_40 : decode cX5_tokenNumber 40 = .ok (.goto (-33), 3) := by decide +kernel
theorem dX5_tokenNumber_43 : decode cX5_tokenNumber 43 = .ok (.iload_n 1, 1) := by decide +kernel
theorem dX5_tokenNumber_44 : decode cX5_tokenNumber 44 = .ok (.ireturn, 1) := by decide +kernel
theorem dX5_wordKind_0 : decode cX5_wordKind 0 = .ok (.aload_n 0, 1) := by decide +kernel
theorem dX5_wordKind_1 : decode cX5_wordKind 1 = .ok (.ldc 67, 2) := by decide +kernel
theorem dX5_wordKind_3 : decode cX5_wordKind 3 = .ok (.invokevirtual 69, 3) := by decide +kernel
theorem dX5_wordKind_6 : decode cX5_wordKind 6 = .ok (.ifCond .eq 5, 3) := by decide +kernel
theorem dX5_wordKind_9 : decode cX5_wordKind 9 = .ok (.iconst 0, 1) := by decide +kernel
theorem dX5_wordKind_10 : decode cX5_wordKind 10 = .ok (.ireturn, 1) := by decide +kernel
theorem dX5_wordKind_11 : decode cX5_wordKind 11 = .ok (.aload_n 0, 1) := by decide +kernel
theorem dX5_wordKind_12 : decode cX5_wordKind 12 = .ok (.ldc 73, 2) := by decide +kernel
theorem dX5_wordKind_14 : decode cX5_wordKind 14 = .ok (.invokevirtual 69, 3) := by decide +kernel
theorem dX5_wordKind_17 : decode cX5_wordKind 17 = .ok (.ifCond .eq 5, 3) := by decide +kernel
theorem dX5_wordKind_20 : decode cX5_wordKind 20 = .ok (.iconst 1, 1) := by decide +kernel
theorem dX5_wordKind_21 : decode cX5_wordKind 21 = .ok (.ireturn, 1) := by decide +kernel
theorem dX5_wordKind_22 : decode cX5_wordKind 22 = .ok (.aload_n 0, 1) := by decide +kernel
theorem dX5_wordKind_23 : decode cX5_wordKind 23 = .ok (.ldc 75, 2) := by decide +kernel
theorem dX5_wordKind_25 : decode cX5_wordKind 25 = .ok (.invokevirtual 69, 3) := by decide +kernel
theorem dX5_wordKind_28 : decode cX5_wordKind 28 = .ok (.ifCond .eq 5, 3) := by decide +kernel
theorem dX5_wordKind_31 : decode cX5_wordKind 31 = .ok (.iconst 2, 1) := by decide +kernel
theorem dX5_wordKind_32 : decode cX5_wordKind 32 = .ok (.ireturn, 1) := by decide +kernel
theorem dX5_wordKind_33 : decode cX5_wordKind 33 = .ok (.aload_n 0, 1) := by decide +kernel
theorem dX5_wordKind_34 : decode cX5_wordKind 34 = .ok (.ldc 77, 2) := by decide +kernel
theorem dX5_wordKind_36 : decode cX5_wordKind 36 = .ok (.invokevirtual 69, 3) := by decide +kernel
theorem dX5_wordKind_39 : decode cX5_wordKind 39 = .ok (.ifCond .eq 5, 3) := by decide +kernel
theorem dX5_wordKind_42 : decode cX5_wordKind 42 = .ok (.iconst 3, 1) := by decide +kernel
theorem dX5_wordKind_43 : decode cX5_wordKind 43 = .ok (.ireturn, 1) := by decide +kernel
theorem dX5_wordKind_44 : decode cX5_wordKind 44 = .ok (.aload_n 0, 1) := by decide +kernel
theorem dX5_wordKind_45 : decode cX5_wordKind 45 = .ok (.ldc 79, 2) := by decide +kernel
theorem dX5_wordKind_47 : decode cX5_wordKind 47 = .ok (.invokevirtual 69, 3) := by decide +kernel
theorem dX5_wordKind_50 : decode cX5_wordKind 50 = .ok (.ifCond .eq 5, 3) := by decide +kernel
theorem dX5_wordKind_53 : decode cX5_wordKind 53 = .ok (.iconst 4, 1) := by decide +kernel
theorem dX5_wordKind_54 : decode cX5_wordKind 54 = .ok (.ireturn, 1) := by decide +kernel
theorem dX5_wordKind_55 : decode cX5_wordKind 55 = .ok (.aload_n 0, 1) := by decide +kernel
theorem dX5_wordKind_56 : decode cX5_wordKind 56 = .ok (.ldc 81, 2) := by decide +kernel
theorem dX5_wordKind_58 : decode cX5_wordKind 58 = .ok (.invokevirtual 69, 3) := by decide +kernel
theorem dX5_wordKind_61 : decode cX5_wordKind 61 = .ok (.ifCond .eq 5, 3) := by decide +kernel
theorem dX5_wordKind_64 : decode cX5_wordKind 64 = .ok (.iconst 5, 1) := by decide +kernel
theorem dX5_wordKind_65 : decode cX5_wordKind 65 = .ok (.ireturn, 1) := by decide +kernel
theorem dX5_wordKind_66 : decode cX5_wordKind 66 = .ok (.aload_n 0, 1) := by decide +kernel
theorem dX5_wordKind_67 : decode cX5_wordKind 67 = .ok (.ldc 83, 2) := by decide +kernel
theorem dX5_wordKind_69 : decode cX5_wordKind 69 = .ok (.invokevirtual 69, 3) := by decide +kernel
theorem dX5_wordKind_72 : decode cX5_wordKind 72 = .ok (.ifCond .eq 8, 3) := by decide +kernel
theorem dX5_wordKind_75 : decode cX5_wordKind 75 = .ok (.bipush 6, 2) := by decide +kernel
theorem dX5_wordKind_77 : decode cX5_wordKind 77 = .ok (.goto 4, 3) := by decide +kernel
theorem dX5_wordKind_80 : decode cX5_wordKind 80 = .ok (.iconst (-1), 1) := by decide +kernel
theorem dX5_wordKind_81 : decode cX5_wordKind 81 = .ok (.ireturn, 1) := by decide +kernel
theorem dX5_isWord_0 : decode cX5_isWord 0 = .ok (.aload_n 1, 1) := by decide +kernel
theorem dX5_isWord_1 : decode cX5_isWord 1 = .ok (.invokevirtual 85, 3) := by decide +kernel
theorem dX5_isWord_4 : decode cX5_isWord 4 = .ok (.istore_n 2, 1) := by decide +kernel
theorem dX5_isWord_5 : decode cX5_isWord 5 = .ok (.aload_n 0, 1) := by decide +kernel
theorem dX5_isWord_6 : decode cX5_isWord 6 = .ok (.getfield 36, 3) := by decide +kernel
theorem dX5_isWord_9 : decode cX5_isWord 9 = .ok (.aload_n 0, 1) := by decide +kernel
theorem dX5_isWord_10 : decode cX5_isWord 10 = .ok (.getfield 33, 3) := by decide +kernel
theorem dX5_isWord_13 : decode cX5_isWord 13 = .ok (.isub, 1) := by decide +kernel
theorem dX5_isWord_14 : decode cX5_isWord 14 = .ok (.iload_n 2, 1) := by decide +kernel
theorem dX5_isWord_15 : decode cX5_isWord 15 = .ok (.if_icmp .ne 13, 3) := by decide +kernel
theorem dX5_isWord_18 : decode cX5_isWord 18 = .ok (.aload_n 0, 1) := by decide +kernel
theorem dX5_isWord_19 : decode cX5_isWord 19 = .ok (.getfield 36, 3) := by decide +kernel
theorem dX5_isWord_22 : decode cX5_isWord 22 = .ok (.sipush 150, 3) := by decide +kernel
theorem dX5_isWord_25 : decode cX5_isWord 25 = .ok (.if_icmp .le 5, 3) := by decide +kernel
theorem dX5_isWord_28 : decode cX5_isWord 28 = .ok (.iconst 0, 1) := by decide +kernel
theorem dX5_isWord_29 : decode cX5_isWord 29 = .ok (.ireturn, 1) := by decide +kernel
theorem dX5_isWord_30 : decode cX5_isWord 30 = .ok (.iconst 0, 1) := by decide +kernel
theorem dX5_isWord_31 : decode cX5_isWord 31 = .ok (.istore_n 3, 1) := by decide +kernel
theorem dX5_isWord_32 : decode cX5_isWord 32 = .ok (.iload_n 3, 1) := by decide +kernel
theorem dX5_isWord_33 : decode cX5_isWord 33 = .ok (.iload_n 2, 1) := by decide +kernel
theorem dX5_isWord_34 : decode cX5_isWord 34 = .ok (.if_icmp .ge 30, 3) := by decide +kernel
theorem dX5_isWord_37 : decode cX5_isWord 37 = .ok (.aload_n 0, 1) := by decide +kernel
theorem dX5_isWord_38 : decode cX5_isWord 38 = .ok (.getfield 9, 3) := by decide +kernel
theorem dX5_isWord_41 : decode cX5_isWord 41 = .ok (.aload_n 0, 1) := by decide +kernel
theorem dX5_isWord_42 : decode cX5_isWord 42 = .ok (.getfield 33, 3) := by decide +kernel
theorem dX5_isWord_45 : decode cX5_isWord 45 = .ok (.iload_n 3, 1) := by decide +kernel
theorem dX5_isWord_46 : decode cX5_isWord 46 = .ok (.iadd, 1) := by decide +kernel
theorem dX5_isWord_47 : decode cX5_isWord 47 = .ok (.iaload, 1) := by decide +kernel
theorem dX5_isWord_48 : decode cX5_isWord 48 = .ok (.aload_n 1, 1) := by decide +kernel
theorem dX5_isWord_49 : decode cX5_isWord 49 = .ok (.iload_n 3, 1) := by decide +kernel
theorem dX5_isWord_50 : decode cX5_isWord 50 = .ok (.invokevirtual 89, 3) := by decide +kernel
theorem dX5_isWord_53 : decode cX5_isWord 53 = .ok (.if_icmp .eq 5, 3) := by decide +kernel
theorem dX5_isWord_56 : decode cX5_isWord 56 = .ok (.iconst 0, 1) := by decide +kernel
theorem dX5_isWord_57 : decode cX5_isWord 57 = .ok (.ireturn, 1) := by decide +kernel
theorem dX5_isWord_58 : decode cX5_isWord 58 = .ok (.iinc 3 1, 3) := by decide +kernel
theorem dX5_isWord_61 : decode cX5_isWord 61 = .ok (.goto (-29), 3) := by decide +kernel
theorem dX5_isWord_64 : decode cX5_isWord 64 = .ok (.iconst 1, 1) := by decide +kernel
theorem dX5_isWord_65 : decode cX5_isWord 65 = .ok (.ireturn, 1) := by decide +kernel
theorem dX5_tellTo_0 : decode cX5_tellTo 0 = .ok (.aload_n 1, 1) := by decide +kernel
theorem dX5_tellTo_1 : decode cX5_tellTo 1 = .ok (.invokevirtual 93, 3) := by decide +kernel
theorem dX5_tellTo_4 : decode cX5_tellTo 4 = .ok (.iconst 0, 1) := by decide +kernel
theorem dX5_tellTo_5 : decode cX5_tellTo 5 = .ok (.istore_n 2, 1) := by decide +kernel
theorem dX5_tellTo_6 : decode cX5_tellTo 6 = .ok (.iload_n 2, 1) := by decide +kernel
theorem dX5_tellTo_7 : decode cX5_tellTo 7 = .ok (.aload_n 0, 1) := by decide +kernel
theorem dX5_tellTo_8 : decode cX5_tellTo 8 = .ok (.getfield 27, 3) := by decide +kernel
theorem dX5_tellTo_11 : decode cX5_tellTo 11 = .ok (.if_icmp .ge 47, 3) := by decide +kernel
theorem dX5_tellTo_14 : decode cX5_tellTo 14 = .ok (.iload_n 2, 1) := by decide +kernel
theorem dX5_tellTo_15 : decode cX5_tellTo 15 = .ok (.bipush 24, 2) := by decide +kernel
theorem dX5_tellTo_17 : decode cX5_tellTo 17 = .ok (.if_icmp .ge 41, 3) := by decide +kernel
theorem dX5_tellTo_20 : decode cX5_tellTo 20 = .ok (.aload_n 0, 1) := by decide +kernel
theorem dX5_tellTo_21 : decode cX5_tellTo 21 = .ok (.getfield 24, 3) := by decide +kernel
theorem dX5_tellTo_24 : decode cX5_tellTo 24 = .ok (.iload_n 2, 1) := by decide +kernel
theorem dX5_tellTo_25 : decode cX5_tellTo 25 = .ok (.aaload, 1) := by decide +kernel
theorem dX5_tellTo_26 : decode cX5_tellTo 26 = .ok (.astore_n 3, 1) := by decide +kernel
theorem dX5_tellTo_27 : decode cX5_tellTo 27 = .ok (.aload_n 1, 1) := by decide +kernel
theorem dX5_tellTo_28 : decode cX5_tellTo 28 = .ok (.aload_n 0, 1) := by decide +kernel
theorem dX5_tellTo_29 : decode cX5_tellTo 29 = .ok (.getfield 19, 3) := by decide +kernel
theorem dX5_tellTo_32 : decode cX5_tellTo 32 = .ok (.iload_n 2, 1) := by decide +kernel
theorem dX5_tellTo_33 : decode cX5_tellTo 33 = .ok (.iaload, 1) := by decide +kernel
theorem dX5_tellTo_34 : decode cX5_tellTo 34 = .ok (.aload_n 3, 1) := by decide +kernel
theorem dX5_tellTo_35 : decode cX5_tellTo 35 = .ok (.iconst 0, 1) := by decide +kernel
theorem dX5_tellTo_36 : decode cX5_tellTo 36 = .ok (.iaload, 1) := by decide +kernel
theorem dX5_tellTo_37 : decode cX5_tellTo 37 = .ok (.aload_n 3, 1) := by decide +kernel
theorem dX5_tellTo_38 : decode cX5_tellTo 38 = .ok (.iconst 1, 1) := by decide +kernel
theorem dX5_tellTo_39 : decode cX5_tellTo 39 = .ok (.iaload, 1) := by decide +kernel
theorem dX5_tellTo_40 : decode cX5_tellTo 40 = .ok (.aload_n 3, 1) := by decide +kernel
theorem dX5_tellTo_41 : decode cX5_tellTo 41 = .ok (.iconst 2, 1) := by decide +kernel
theorem dX5_tellTo_42 : decode cX5_tellTo 42 = .ok (.iaload, 1) := by decide +kernel
theorem dX5_tellTo_43 : decode cX5_tellTo 43 = .ok (.invokestatic 98, 3) := by decide +kernel
theorem dX5_tellTo_46 : decode cX5_tellTo 46 = .ok (.iconst (-1), 1) := by decide +kernel
theorem dX5_tellTo_47 : decode cX5_tellTo 47 = .ok (.if_icmp .ge 5, 3) := by decide +kernel
theorem dX5_tellTo_50 : decode cX5_tellTo 50 = .ok (.iload_n 2, 1) := by decide +kernel
theorem dX5_tellTo_51 : decode cX5_tellTo 51 = .ok (.ireturn, 1) := by decide +kernel
theorem dX5_tellTo_52 : decode cX5_tellTo 52 = .ok (.iinc 2 1, 3) := by decide +kernel
theorem dX5_tellTo_55 : decode cX5_tellTo 55 = .ok (.goto (-49), 3) := by decide +kernel
theorem dX5_tellTo_58 : decode cX5_tellTo 58 = .ok (.iconst (-1), 1) := by decide +kernel
theorem dX5_tellTo_59 : decode cX5_tellTo 59 = .ok (.ireturn, 1) := by decide +kernel
theorem dX5_tellItem_0 : decode cX5_tellItem 0 = .ok (.iload_n 1, 1) := by decide +kernel
theorem dX5_tellItem_1 : decode cX5_tellItem 1 = .ok (.tableswitch 85 1 6 #[39, 48, 55, 62, 70, 77], 39) := by decide +kernel
theorem dX5_tellItem_40 : decode cX5_tellItem 40 = .ok (.aload_n 0, 1) := by decide +kernel
theorem dX5_tellItem_41 : decode cX5_tellItem 41 = .ok (.iload_n 2, 1) := by decide +kernel
theorem dX5_tellItem_42 : decode cX5_tellItem 42 = .ok (.iload_n 3, 1) := by decide +kernel
theorem dX5_tellItem_43 : decode cX5_tellItem 43 = .ok (.iload 4, 2) := by decide +kernel
theorem dX5_tellItem_45 : decode cX5_tellItem 45 = .ok (.invokevirtual 102, 3) := by decide +kernel
theorem dX5_tellItem_48 : decode cX5_tellItem 48 = .ok (.ireturn, 1) := by decide +kernel
theorem dX5_tellItem_49 : decode cX5_tellItem 49 = .ok (.aload_n 0, 1) := by decide +kernel
theorem dX5_tellItem_50 : decode cX5_tellItem 50 = .ok (.iload_n 2, 1) := by decide +kernel
theorem dX5_tellItem_51 : decode cX5_tellItem 51 = .ok (.iload_n 3, 1) := by decide +kernel
theorem dX5_tellItem_52 : decode cX5_tellItem 52 = .ok (.invokevirtual 106, 3) := by decide +kernel
theorem dX5_tellItem_55 : decode cX5_tellItem 55 = .ok (.ireturn, 1) := by decide +kernel
theorem dX5_tellItem_56 : decode cX5_tellItem 56 = .ok (.aload_n 0, 1) := by decide +kernel
theorem dX5_tellItem_57 : decode cX5_tellItem 57 = .ok (.iload_n 2, 1) := by decide +kernel
theorem dX5_tellItem_58 : decode cX5_tellItem 58 = .ok (.iload_n 3, 1) := by decide +kernel
theorem dX5_tellItem_59 : decode cX5_tellItem 59 = .ok (.invokevirtual 110, 3) := by decide +kernel
theorem dX5_tellItem_62 : decode cX5_tellItem 62 = .ok (.ireturn, 1) := by decide +kernel
theorem dX5_tellItem_63 : decode cX5_tellItem 63 = .ok (.aload_n 0, 1) := by decide +kernel
theorem dX5_tellItem_64 : decode cX5_tellItem 64 = .ok (.iload_n 2, 1) := by decide +kernel
theorem dX5_tellItem_65 : decode cX5_tellItem 65 = .ok (.iload_n 3, 1) := by decide +kernel
theorem dX5_tellItem_66 : decode cX5_tellItem 66 = .ok (.iconst 1, 1) := by decide +kernel
theorem dX5_tellItem_67 : decode cX5_tellItem 67 = .ok (.invokevirtual 113, 3) := by decide +kernel
theorem dX5_tellItem_70 : decode cX5_tellItem 70 = .ok (.ireturn, 1) := by decide +kernel
theorem dX5_tellItem_71 : decode cX5_tellItem 71 = .ok (.aload_n 0, 1) := by decide +kernel
theorem dX5_tellItem_72 : decode cX5_tellItem 72 = .ok (.iload_n 2, 1) := by decide +kernel
theorem dX5_tellItem_73 : decode cX5_tellItem 73 = .ok (.iload_n 3, 1) := by decide +kernel
theorem dX5_tellItem_74 : decode cX5_tellItem 74 = .ok (.invokevirtual 117, 3) := by decide +kernel
theorem dX5_tellItem_77 : decode cX5_tellItem 77 = .ok (.ireturn, 1) := by decide +kernel
theorem dX5_tellItem_78 : decode cX5_tellItem 78 = .ok (.aload_n 0, 1) := by decide +kernel
theorem dX5_tellItem_79 : decode cX5_tellItem 79 = .ok (.iload_n 2, 1) := by decide +kernel
theorem dX5_tellItem_80 : decode cX5_tellItem 80 = .ok (.iload_n 3, 1) := by decide +kernel
theorem dX5_tellItem_81 : decode cX5_tellItem 81 = .ok (.iconst 1, 1) := by decide +kernel
theorem dX5_tellItem_82 : decode cX5_tellItem 82 = .ok (.invokevirtual 120, 3) := by decide +kernel
theorem dX5_tellItem_85 : decode cX5_tellItem 85 = .ok (.ireturn, 1) := by decide +kernel
theorem dX5_tellItem_86 : decode cX5_tellItem 86 = .ok (.iconst 0, 1) := by decide +kernel
theorem dX5_tellItem_87 : decode cX5_tellItem 87 = .ok (.ireturn, 1) := by decide +kernel
theorem dJ6_bitCount_0f7a4_0 : decode cJ6_bitCount_0f7a4 0 = .ok (.iload_n 0, 1) := by decide +kernel
theorem dJ6_bitCount_0f7a4_1 : decode cJ6_bitCount_0f7a4 1 = .ok (.iload_n 0, 1) := by decide +kernel
theorem dJ6_bitCount_0f7a4_2 : decode cJ6_bitCount_0f7a4 2 = .ok (.iconst 1, 1) := by decide +kernel
theorem dJ6_bitCount_0f7a4_3 : decode cJ6_bitCount_0f7a4 3 = .ok (.iushr, 1) := by decide +kernel
theorem dJ6_bitCount_0f7a4_4 : decode cJ6_bitCount_0f7a4 4 = .ok (.ldc_w 265, 3) := by decide +kernel
theorem dJ6_bitCount_0f7a4_7 : decode cJ6_bitCount_0f7a4 7 = .ok (.iand, 1) := by decide +kernel
theorem dJ6_bitCount_0f7a4_8 : decode cJ6_bitCount_0f7a4 8 = .ok (.isub, 1) := by decide +kernel
theorem dJ6_bitCount_0f7a4_9 : decode cJ6_bitCount_0f7a4 9 = .ok (.istore_n 0, 1) := by decide +kernel
theorem dJ6_bitCount_0f7a4_10 : decode cJ6_bitCount_0f7a4 10 = .ok (.iload_n 0, 1) := by decide +kernel
theorem dJ6_bitCount_0f7a4_11 : decode cJ6_bitCount_0f7a4 11 = .ok (.ldc_w 266, 3) := by decide +kernel
theorem dJ6_bitCount_0f7a4_14 : decode cJ6_bitCount_0f7a4 14 = .ok (.iand, 1) := by decide +kernel
theorem dJ6_bitCount_0f7a4_15 : decode cJ6_bitCount_0f7a4 15 = .ok (.iload_n 0, 1) := by decide +kernel
theorem dJ6_bitCount_0f7a4_16 : decode cJ6_bitCount_0f7a4 16 = .ok (.iconst 2, 1) := by decide +kernel
theorem dJ6_bitCount_0f7a4_17 : decode cJ6_bitCount_0f7a4 17 = .ok (.iushr, 1) := by decide +kernel
theorem dJ6_bitCount_0f7a4_18 : decode cJ6_bitCount_0f7a4 18 = .ok (.ldc_w 266, 3) := by decide +kernel
theorem dJ6_bitCount_0f7a4_21 : decode cJ6_bitCount_0f7a4 21 = .ok (.iand, 1) := by decide +kernel
theorem dJ6_bitCount_0f7a4_22 : decode cJ6_bitCount_0f7a4 22 = .ok (.iadd, 1) := by decide +kernel
theorem dJ6_bitCount_0f7a4_23 : decode cJ6_bitCount_0f7a4 23 = .ok (.istore_n 0, 1) := by decide +kernel
theorem dJ6_bitCount_0f7a4_24 : decode cJ6_bitCount_0f7a4 24 = .ok (.iload_n 0, 1) := by decide +kernel
theorem dJ6_bitCount_0f7a4_25 : decode cJ6_bitCount_0f7a4 25 = .ok (.iload_n 0, 1) := by decide +kernel
theorem dJ6_bitCount_0f7a4_26 : decode cJ6_bitCount_0f7a4 26 = .ok (.iconst 4, 1) := by decide +kernel
theorem dJ6_bitCount_0f7a4_27 : decode cJ6_bitCount_0f7a4 27 = .ok (.iushr, 1) := by decide +kernel
theorem dJ6_bitCount_0f7a4_28 : decode cJ6_bitCount_0f7a4 28 = .ok (.iadd, 1) := by decide +kernel
theorem dJ6_bitCount_0f7a4_29 : decode cJ6_bitCount_0f7a4 29 = .ok (.ldc_w 267, 3) := by decide +kernel
theorem dJ6_bitCount_0f7a4_32 : decode cJ6_bitCount_0f7a4 32 = .ok (.iand, 1) := by decide +kernel
theorem dJ6_bitCount_0f7a4_33 : decode cJ6_bitCount_0f7a4 33 = .ok (.istore_n 0, 1) := by decide +kernel
theorem dJ6_bitCount_0f7a4_34 : decode cJ6_bitCount_0f7a4 34 = .ok (.iload_n 0, 1) := by decide +kernel
theorem dJ6_bitCount_0f7a4_35 : decode cJ6_bitCount_0f7a4 35 = .ok (.iload_n 0, 1) := by decide +kernel
theorem dJ6_bitCount_0f7a4_36 : decode cJ6_bitCount_0f7a4 36 = .ok (.bipush 8, 2) := by decide +kernel
theorem dJ6_bitCount_0f7a4_38 : decode cJ6_bitCount_0f7a4 38 = .ok (.iushr, 1) := by decide +kernel
theorem dJ6_bitCount_0f7a4_39 : decode cJ6_bitCount_0f7a4 39 = .ok (.iadd, 1) := by decide +kernel
theorem dJ6_bitCount_0f7a4_40 : decode cJ6_bitCount_0f7a4 40 = .ok (.istore_n 0, 1) := by decide +kernel
theorem dJ6_bitCount_0f7a4_41 : decode cJ6_bitCount_0f7a4 41 = .ok (.iload_n 0, 1) := by decide +kernel
theorem dJ6_bitCount_0f7a4_42 : decode cJ6_bitCount_0f7a4 42 = .ok (.iload_n 0, 1) := by decide +kernel
theorem dJ6_bitCount_0f7a4_43 : decode cJ6_bitCount_0f7a4 43 = .ok (.bipush 16, 2) := by decide +kernel
theorem dJ6_bitCount_0f7a4_45 : decode cJ6_bitCount_0f7a4 45 = .ok (.iushr, 1) := by decide +kernel
theorem dJ6_bitCount_0f7a4_46 : decode cJ6_bitCount_0f7a4 46 = .ok (.iadd, 1) := by decide +kernel
theorem dJ6_bitCount_0f7a4_47 : decode cJ6_bitCount_0f7a4 47 = .ok (.istore_n 0, 1) := by decide +kernel
theorem dJ6_bitCount_0f7a4_48 : decode cJ6_bitCount_0f7a4 48 = .ok (.iload_n 0, 1) := by decide +kernel
theorem dJ6_bitCount_0f7a4_49 : decode cJ6_bitCount_0f7a4 49 = .ok (.bipush 63, 2) := by decide +kernel
theorem dJ6_bitCount_0f7a4_51 : decode cJ6_bitCount_0f7a4 51 = .ok (.iand, 1) := by decide +kernel
theorem dJ6_bitCount_0f7a4_52 : decode cJ6_bitCount_0f7a4 52 = .ok (.ireturn, 1) := by decide +kernel
theorem dJ9_floorMod_7cf53_0 : decode cJ9_floorMod_7cf53 0 = .ok (.iload_n 0, 1) := by decide +kernel
theorem dJ9_floorMod_7cf53_1 : decode cJ9_floorMod_7cf53 1 = .ok (.iload_n 1, 1) := by decide +kernel
theorem dJ9_floorMod_7cf53_2 : decode cJ9_floorMod_7cf53 2 = .ok (.irem, 1) := by decide +kernel
theorem dJ9_floorMod_7cf53_3 : decode cJ9_floorMod_7cf53 3 = .ok (.istore_n 2, 1) := by decide +kernel
theorem dJ9_floorMod_7cf53_4 : decode cJ9_floorMod_7cf53 4 = .ok (.iload_n 0, 1) := by decide +kernel
theorem dJ9_floorMod_7cf53_5 : decode cJ9_floorMod_7cf53 5 = .ok (.iload_n 1, 1) := by decide +kernel
theorem dJ9_floorMod_7cf53_6 : decode cJ9_floorMod_7cf53 6 = .ok (.ixor, 1) := by decide +kernel
theorem dJ9_floorMod_7cf53_7 : decode cJ9_floorMod_7cf53 7 = .ok (.ifCond .ge 11, 3) := by decide +kernel
theorem dJ9_floorMod_7cf53_10 : decode cJ9_floorMod_7cf53 10 = .ok (.iload_n 2, 1) := by decide +kernel
theorem dJ9_floorMod_7cf53_11 : decode cJ9_floorMod_7cf53 11 = .ok (.ifCond .eq 7, 3) := by decide +kernel
theorem dJ9_floorMod_7cf53_14 : decode cJ9_floorMod_7cf53 14 = .ok (.iload_n 2, 1) := by decide +kernel
theorem dJ9_floorMod_7cf53_15 : decode cJ9_floorMod_7cf53 15 = .ok (.iload_n 1, 1) := by decide +kernel
theorem dJ9_floorMod_7cf53_16 : decode cJ9_floorMod_7cf53 16 = .ok (.iadd, 1) := by decide +kernel
theorem dJ9_floorMod_7cf53_17 : decode cJ9_floorMod_7cf53 17 = .ok (.ireturn, 1) := by decide +kernel
theorem dJ9_floorMod_7cf53_18 : decode cJ9_floorMod_7cf53 18 = .ok (.iload_n 2, 1) := by decide +kernel
theorem dJ9_floorMod_7cf53_19 : decode cJ9_floorMod_7cf53 19 = .ok (.ireturn, 1) := by decide +kernel
theorem dJ9_max_7cf53_0 : decode cJ9_max_7cf53 0 = .ok (.iload_n 0, 1) := by decide +kernel
theorem dJ9_max_7cf53_1 : decode cJ9_max_7cf53 1 = .ok (.iload_n 1, 1) := by decide +kernel
theorem dJ9_max_7cf53_2 : decode cJ9_max_7cf53 2 = .ok (.if_icmp .lt 7, 3) := by decide +kernel
theorem dJ9_max_7cf53_5 : decode cJ9_max_7cf53 5 = .ok (.iload_n 0, 1) := by decide +kernel
theorem dJ9_max_7cf53_6 : decode cJ9_max_7cf53 6 = .ok (.goto 4, 3) := by decide +kernel
theorem dJ9_max_7cf53_9 : decode cJ9_max_7cf53 9 = .ok (.iload_n 1, 1) := by decide +kernel
theorem dJ9_max_7cf53_10 : decode cJ9_max_7cf53 10 = .ok (.ireturn, 1) := by decide +kernel
theorem dJ9_min_7cf53_0 : decode cJ9_min_7cf53 0 = .ok (.iload_n 0, 1) := by decide +kernel
theorem dJ9_min_7cf53_1 : decode cJ9_min_7cf53 1 = .ok (.iload_n 1, 1) := by decide +kernel
theorem dJ9_min_7cf53_2 : decode cJ9_min_7cf53 2 = .ok (.if_icmp .gt 7, 3) := by decide +kernel
theorem dJ9_min_7cf53_5 : decode cJ9_min_7cf53 5 = .ok (.iload_n 0, 1) := by decide +kernel
theorem dJ9_min_7cf53_6 : decode cJ9_min_7cf53 6 = .ok (.goto 4, 3) := by decide +kernel
theorem dJ9_min_7cf53_9 : decode cJ9_min_7cf53 9 = .ok (.iload_n 1, 1) := by decide +kernel
theorem dJ9_min_7cf53_10 : decode cJ9_min_7cf53 10 = .ok (.ireturn, 1) := by decide +kernel
theorem dJ0_length_8abf5_0 : decode cJ0_length_8abf5 0 = .ok (.aload_n 0, 1) := by decide +kernel
theorem dJ0_length_8abf5_1 : decode cJ0_length_8abf5 1 = .ok (.getfield 9, 3) := by decide +kernel
theorem dJ0_length_8abf5_4 : decode cJ0_length_8abf5 4 = .ok (.arraylength, 1) := by decide +kernel
theorem dJ0_length_8abf5_5 : decode cJ0_length_8abf5 5 = .ok (.aload_n 0, 1) := by decide +kernel
theorem dJ0_length_8abf5_6 : decode cJ0_length_8abf5 6 = .ok (.invokevirtual 335, 3) := by decide +kernel
theorem dJ0_length_8abf5_9 : decode cJ0_length_8abf5 9 = .ok (.ishr, 1) := by decide +kernel
theorem dJ0_length_8abf5_10 : decode cJ0_length_8abf5 10 = .ok (.ireturn, 1) := by decide +kernel
theorem dJ0_charAt_5068e_0 : decode cJ0_charAt_5068e 0 = .ok (.aload_n 0, 1) := by decide +kernel
theorem dJ0_charAt_5068e_1 : decode cJ0_charAt_5068e 1 = .ok (.invokevirtual 492, 3) := by decide +kernel
theorem dJ0_charAt_5068e_4 : decode cJ0_charAt_5068e 4 = .ok (.ifCond .eq 12, 3) := by decide +kernel
theorem dJ0_charAt_5068e_7 : decode cJ0_charAt_5068e 7 = .ok (.aload_n 0, 1) := by decide +kernel
theorem dJ0_charAt_5068e_8 : decode cJ0_charAt_5068e 8 = .ok (.getfield 9, 3) := by decide +kernel
theorem dJ0_charAt_5068e_11 : decode cJ0_charAt_5068e 11 = .ok (.iload_n 1, 1) := by decide +kernel
theorem dJ0_charAt_5068e_12 : decode cJ0_charAt_5068e 12 = .ok (.invokestatic 495, 3) := by decide +kernel
theorem dJ0_charAt_5068e_15 : decode cJ0_charAt_5068e 15 = .ok (.ireturn, 1) := by decide +kernel
theorem dJ0_charAt_5068e_16 : decode cJ0_charAt_5068e 16 = .ok (.aload_n 0, 1) := by decide +kernel
theorem dJ0_charAt_5068e_17 : decode cJ0_charAt_5068e 17 = .ok (.getfield 9, 3) := by decide +kernel
theorem dJ0_charAt_5068e_20 : decode cJ0_charAt_5068e 20 = .ok (.iload_n 1, 1) := by decide +kernel
theorem dJ0_charAt_5068e_21 : decode cJ0_charAt_5068e 21 = .ok (.invokestatic 498, 3) := by decide +kernel
theorem dJ0_charAt_5068e_24 : decode cJ0_charAt_5068e 24 = .ok (.ireturn, 1) := by decide +kernel
theorem dJ0_coder_7d493_0 : decode cJ0_coder_7d493 0 = .ok (.getstatic 38, 3) := by decide +kernel
theorem dJ0_coder_7d493_3 : decode cJ0_coder_7d493 3 = .ok (.ifCond .eq 10, 3) := by decide +kernel
theorem dJ0_coder_7d493_6 : decode cJ0_coder_7d493 6 = .ok (.aload_n 0, 1) := by decide +kernel
theorem dJ0_coder_7d493_7 : decode cJ0_coder_7d493 7 = .ok (.getfield 15, 3) := by decide +kernel
theorem dJ0_coder_7d493_10 : decode cJ0_coder_7d493 10 = .ok (.goto 4, 3) := by decide +kernel
theorem dJ0_coder_7d493_13 : decode cJ0_coder_7d493 13 = .ok (.iconst 1, 1) := by decide +kernel
theorem dJ0_coder_7d493_14 : decode cJ0_coder_7d493 14 = .ok (.ireturn, 1) := by decide +kernel
theorem dJ0_isLatin1_aae02_0 : decode cJ0_isLatin1_aae02 0 = .ok (.getstatic 38, 3) := by decide +kernel
theorem dJ0_isLatin1_aae02_3 : decode cJ0_isLatin1_aae02 3 = .ok (.ifCond .eq 14, 3) := by decide +kernel
theorem dJ0_isLatin1_aae02_6 : decode cJ0_isLatin1_aae02 6 = .ok (.aload_n 0, 1) := by decide +kernel
theorem dJ0_isLatin1_aae02_7 : decode cJ0_isLatin1_aae02 7 = .ok (.getfield 15, 3) := by decide +kernel
theorem dJ0_isLatin1_aae02_10 : decode cJ0_isLatin1_aae02 10 = .ok (.ifCond .ne 7, 3) := by decide +kernel
theorem dJ0_isLatin1_aae02_13 : decode cJ0_isLatin1_aae02 13 = .ok (.iconst 1, 1) := by decide +kernel
theorem dJ0_isLatin1_aae02_14 : decode cJ0_isLatin1_aae02 14 = .ok (.goto 4, 3) := by decide +kernel
theorem dJ0_isLatin1_aae02_17 : decode cJ0_isLatin1_aae02 17 = .ok (.iconst 0, 1) := by decide +kernel
theorem dJ0_isLatin1_aae02_18 : decode cJ0_isLatin1_aae02 18 = .ok (.ireturn, 1) := by decide +kernel
theorem dJ0_checkIndex_df160_0 : decode cJ0_checkIndex_df160 0 = .ok (.iload_n 0, 1) := by decide +kernel
theorem dJ0_checkIndex_df160_1 : decode cJ0_checkIndex_df160 1 = .ok (.iload_n 1, 1) := by decide +kernel
theorem dJ0_checkIndex_df160_2 : decode cJ0_checkIndex_df160 2 = .ok (.getstatic 1053, 3) := by decide +kernel
theorem dJ0_checkIndex_df160_5 : decode cJ0_checkIndex_df160 5 = .ok (.invokestatic 1059, 3) := by decide +kernel
theorem dJ0_checkIndex_df160_8 : decode cJ0_checkIndex_df160 8 = .ok (.pop, 1) := by decide +kernel
theorem dJ0_checkIndex_df160_9 : decode cJ0_checkIndex_df160 9 = .ok (.return_, 1) := by decide +kernel
theorem dJ1_charAt_3b067_0 : decode cJ1_charAt_3b067 0 = .ok (.iload_n 1, 1) := by decide +kernel
theorem dJ1_charAt_3b067_1 : decode cJ1_charAt_3b067 1 = .ok (.aload_n 0, 1) := by decide +kernel
theorem dJ1_charAt_3b067_2 : decode cJ1_charAt_3b067 2 = .ok (.arraylength, 1) := by decide +kernel
theorem dJ1_charAt_3b067_3 : decode cJ1_charAt_3b067 3 = .ok (.invokestatic 9, 3) := by decide +kernel
theorem dJ1_charAt_3b067_6 : decode cJ1_charAt_3b067 6 = .ok (.aload_n 0, 1) := by decide +kernel
theorem dJ1_charAt_3b067_7 : decode cJ1_charAt_3b067 7 = .ok (.iload_n 1, 1) := by decide +kernel
theorem dJ1_charAt_3b067_8 : decode cJ1_charAt_3b067 8 = .ok (.baload, 1) := by decide +kernel
theorem dJ1_charAt_3b067_9 : decode cJ1_charAt_3b067 9 = .ok (.sipush 255, 3) := by decide +kernel
theorem dJ1_charAt_3b067_12 : decode cJ1_charAt_3b067 12 = .ok (.iand, 1) := by decide +kernel
theorem dJ1_charAt_3b067_13 : decode cJ1_charAt_3b067 13 = .ok (.i2c, 1) := by decide +kernel
theorem dJ1_charAt_3b067_14 : decode cJ1_charAt_3b067 14 = .ok (.ireturn, 1) := by decide +kernel
theorem dJ2_getChar_3b067_0 : decode cJ2_getChar_3b067 0 = .ok (.getstatic 44, 3) := by decide +kernel
theorem dJ2_getChar_3b067_3 : decode cJ2_getChar_3b067 3 = .ok (.ifCond .ne 25, 3) := by decide +kernel
theorem dJ2_getChar_3b067_6 : decode cJ2_getChar_3b067 6 = .ok (.iload_n 1, 1) := by decide +kernel
theorem dJ2_getChar_3b067_7 : decode cJ2_getChar_3b067 7 = .ok (.ifCond .lt 11, 3) := by decide +kernel
theorem dJ2_getChar_3b067_10 : decode cJ2_getChar_3b067 10 = .ok (.iload_n 1, 1) := by decide +kernel
theorem dJ2_getChar_3b067_11 : decode cJ2_getChar_3b067 11 = .ok (.aload_n 0, 1) := by decide +kernel
theorem dJ2_getChar_3b067_12 : decode cJ2_getChar_3b067 12 = .ok (.invokestatic 48, 3) := by decide +kernel
theorem dJ2_getChar_3b067_15 : decode cJ2_getChar_3b067 15 = .ok (.if_icmp .lt 13, 3) := by decide +kernel
theorem dJ2_getChar_3b067_18 : decode cJ2_getChar_3b067 18 = .ok (.new 52, 3) := by decide +kernel
theorem dJ2_getChar_3b067_21 : decode cJ2_getChar_3b067 21 = .ok (.dup, 1) := by decide +kernel
theorem dJ2_getChar_3b067_22 : decode cJ2_getChar_3b067 22 = .ok (.ldc 54, 2) := by decide +kernel
theorem dJ2_getChar_3b067_24 : decode cJ2_getChar_3b067 24 = .ok (.invokespecial 56, 3) := by decide +kernel
theorem dJ2_getChar_3b067_27 : decode cJ2_getChar_3b067 27 = .ok (.athrow, 1) := by decide +kernel
theorem dJ2_getChar_3b067_28 : decode cJ2_getChar_3b067 28 = .ok (.iload_n 1, 1) := by decide +kernel
theorem dJ2_getChar_3b067_29 : decode cJ2_getChar_3b067 29 = .ok (.iconst 1, 1) := by decide +kernel
theorem dJ2_getChar_3b067_30 : decode cJ2_getChar_3b067 30 = .ok (.ishl, 1) := by decide +kernel
theorem dJ2_getChar_3b067_31 : decode cJ2_getChar_3b067 31 = .ok (.istore_n 1, 1) := by decide +kernel
theorem dJ2_getChar_3b067_32 : decode cJ2_getChar_3b067 32 = .ok (.aload_n 0, 1) := by decide +kernel
theorem dJ2_getChar_3b067_33 : decode cJ2_getChar_3b067 33 = .ok (.iload_n 1, 1) := by decide +kernel
theorem dJ2_getChar_3b067_34 : decode cJ2_getChar_3b067 34 = .ok (.iinc 1 1, 3) := by decide +kernel
theorem dJ2_getChar_3b067_37 : decode cJ2_getChar_3b067 37 = .ok (.baload, 1) := by decide +kernel
theorem dJ2_getChar_3b067_38 : decode cJ2_getChar_3b067 38 = .ok (.sipush 255, 3) := by decide +kernel
theorem dJ2_getChar_3b067_41 : decode cJ2_getChar_3b067 41 = .ok (.iand, 1) := by decide +kernel
theorem dJ2_getChar_3b067_42 : decode cJ2_getChar_3b067 42 = .ok (.getstatic 59, 3) := by decide +kernel
theorem dJ2_getChar_3b067_45 : decode cJ2_getChar_3b067 45 = .ok (.ishl, 1) := by decide +kernel
theorem dJ2_getChar_3b067_46 : decode cJ2_getChar_3b067 46 = .ok (.aload_n 0, 1) := by decide +kernel
theorem dJ2_getChar_3b067_47 : decode cJ2_getChar_3b067 47 = .ok (.iload_n 1, 1) := by decide +kernel
theorem dJ2_getChar_3b067_48 : decode cJ2_getChar_3b067 48 = .ok (.baload, 1) := by decide +kernel
theorem dJ2_getChar_3b067_49 : decode cJ2_getChar_3b067 49 = .ok (.sipush 255, 3) := by decide +kernel
theorem dJ2_getChar_3b067_52 : decode cJ2_getChar_3b067 52 = .ok (.iand, 1) := by decide +kernel
theorem dJ2_getChar_3b067_53 : decode cJ2_getChar_3b067 53 = .ok (.getstatic 63, 3) := by decide +kernel
theorem dJ2_getChar_3b067_56 : decode cJ2_getChar_3b067 56 = .ok (.ishl, 1) := by decide +kernel
theorem dJ2_getChar_3b067_57 : decode cJ2_getChar_3b067 57 = .ok (.ior, 1) := by decide +kernel
theorem dJ2_getChar_3b067_58 : decode cJ2_getChar_3b067 58 = .ok (.i2c, 1) := by decide +kernel
theorem dJ2_getChar_3b067_59 : decode cJ2_getChar_3b067 59 = .ok (.ireturn, 1) := by decide +kernel
theorem dJ2_length_9d52b_0 : decode cJ2_length_9d52b 0 = .ok (.aload_n 0, 1) := by decide +kernel
theorem dJ2_length_9d52b_1 : decode cJ2_length_9d52b 1 = .ok (.arraylength, 1) := by decide +kernel
theorem dJ2_length_9d52b_2 : decode cJ2_length_9d52b 2 = .ok (.iconst 1, 1) := by decide +kernel
theorem dJ2_length_9d52b_3 : decode cJ2_length_9d52b 3 = .ok (.ishr, 1) := by decide +kernel
theorem dJ2_length_9d52b_4 : decode cJ2_length_9d52b 4 = .ok (.ireturn, 1) := by decide +kernel
theorem dJ2_charAt_3b067_0 : decode cJ2_charAt_3b067 0 = .ok (.iload_n 1, 1) := by decide +kernel
theorem dJ2_charAt_3b067_1 : decode cJ2_charAt_3b067 1 = .ok (.aload_n 0, 1) := by decide +kernel
theorem dJ2_charAt_3b067_2 : decode cJ2_charAt_3b067 2 = .ok (.invokestatic 67, 3) := by decide +kernel
theorem dJ2_charAt_3b067_5 : decode cJ2_charAt_3b067 5 = .ok (.aload_n 0, 1) := by decide +kernel
theorem dJ2_charAt_3b067_6 : decode cJ2_charAt_3b067 6 = .ok (.iload_n 1, 1) := by decide +kernel
theorem dJ2_charAt_3b067_7 : decode cJ2_charAt_3b067 7 = .ok (.invokestatic 71, 3) := by decide +kernel
theorem dJ2_charAt_3b067_10 : decode cJ2_charAt_3b067 10 = .ok (.ireturn, 1) := by decide +kernel
theorem dJ2_checkIndex_2214a_0 : decode cJ2_checkIndex_2214a 0 = .ok (.iload_n 0, 1) := by decide +kernel
theorem dJ2_checkIndex_2214a_1 : decode cJ2_checkIndex_2214a 1 = .ok (.aload_n 1, 1) := by decide +kernel
theorem dJ2_checkIndex_2214a_2 : decode cJ2_checkIndex_2214a 2 = .ok (.invokestatic 48, 3) := by decide +kernel
theorem dJ2_checkIndex_2214a_5 : decode cJ2_checkIndex_2214a 5 = .ok (.invokestatic 414, 3) := by decide +kernel
theorem dJ2_checkIndex_2214a_8 : decode cJ2_checkIndex_2214a 8 = .ok (.return_, 1) := by decide +kernel
theorem dJ3_checkIndex_8e157_0 : decode cJ3_checkIndex_8e157 0 = .ok (.iload_n 0, 1) := by decide +kernel
theorem dJ3_checkIndex_8e157_1 : decode cJ3_checkIndex_8e157 1 = .ok (.ifCond .lt 8, 3) := by decide +kernel
theorem dJ3_checkIndex_8e157_4 : decode cJ3_checkIndex_8e157 4 = .ok (.iload_n 0, 1) := by decide +kernel
theorem dJ3_checkIndex_8e157_5 : decode cJ3_checkIndex_8e157 5 = .ok (.iload_n 1, 1) := by decide +kernel
theorem dJ3_checkIndex_8e157_6 : decode cJ3_checkIndex_8e157 6 = .ok (.if_icmp .lt 10, 3) := by decide +kernel
theorem dJ3_checkIndex_8e157_9 : decode cJ3_checkIndex_8e157 9 = .ok (.aload_n 2, 1) := by decide +kernel
theorem dJ3_checkIndex_8e157_10 : decode cJ3_checkIndex_8e157 10 = .ok (.iload_n 0, 1) := by decide +kernel
theorem dJ3_checkIndex_8e157_11 : decode cJ3_checkIndex_8e157 11 = .ok (.iload_n 1, 1) := by decide +kernel
theorem dJ3_checkIndex_8e157_12 : decode cJ3_checkIndex_8e157 12 = .ok (.invokestatic 95, 3) := by decide +kernel
theorem dJ3_checkIndex_8e157_15 : decode cJ3_checkIndex_8e157 15 = .ok (.athrow, 1) := by decide +kernel
theorem dJ3_checkIndex_8e157_16 : decode cJ3_checkIndex_8e157 16 = .ok (.iload_n 0, 1) := by decide +kernel
theorem dJ3_checkIndex_8e157_17 : decode cJ3_checkIndex_8e157 17 = .ok (.ireturn, 1) := by decide +kernel
