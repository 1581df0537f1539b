theorem dX4_empty_0 : decode cX4_empty 0 = .ok (.aload_n 0, 1) := by decide +kernel
theorem dX4_empty_1 : decode cX4_empty 1 = .ok (.iconst 0, 1) := by decide +kernel
theorem dX4_empty_2 : decode cX4_empty 2 = .ok (.putfield 9, 3) := by decide +kernel
theorem dX4_empty_5 : decode cX4_empty 5 = .ok (.aload_n 0, 1) := by decide +kernel
theorem dX4_empty_6 : decode cX4_empty 6 = .ok (.iconst 0, 1) := by decide +kernel
theorem dX4_empty_7 : decode cX4_empty 7 = .ok (.putfield 15, 3) := by decide +kernel
theorem dX4_empty_10 : decode cX4_empty 10 = .ok (.aload_n 0, 1) := by decide +kernel
theorem dX4_empty_11 : decode cX4_empty 11 = .ok (.iconst 0, 1) := by decide +kernel
theorem dX4_empty_12 : decode cX4_empty 12 = .ok (.putfield 18, 3) := by decide +kernel
theorem dX4_empty_15 : decode cX4_empty 15 = .ok (.aload_n 0, 1) := by decide +kernel
theorem dX4_empty_16 : decode cX4_empty 16 = .ok (.iconst 0, 1) := by decide +kernel
theorem dX4_empty_17 : decode cX4_empty 17 = .ok (.putfield 21, 3) := by decide +kernel
theorem dX4_empty_20 : decode cX4_empty 20 = .ok (.iconst 0, 1) := by decide +kernel
theorem dX4_empty_21 : decode cX4_empty 21 = .ok (.istore_n 1, 1) := by decide +kernel
theorem dX4_empty_22 : decode cX4_empty 22 = .ok (.iload_n 1, 1) := by decide +kernel
theorem dX4_empty_23 : decode cX4_empty 23 = .ok (.iconst 5, 1) := by decide +kernel
theorem dX4_empty_24 : decode cX4_empty 24 = .ok (.if_icmp .ge 16, 3) := by decide +kernel
theorem dX4_empty_27 : decode cX4_empty 27 = .ok (.aload_n 0, 1) := by decide +kernel
theorem dX4_empty_28 : decode cX4_empty 28 = .ok (.getfield 43, 3) := by decide +kernel
theorem dX4_empty_31 : decode cX4_empty 31 = .ok (.iload_n 1, 1) := by decide +kernel
theorem dX4_empty_32 : decode cX4_empty 32 = .ok (.iconst 0, 1) := by decide +kernel
theorem dX4_empty_33 : decode cX4_empty 33 = .ok (.iastore, 1) := by decide +kernel
theorem dX4_empty_34 : decode cX4_empty 34 = .ok (.iinc 1 1, 3) := by decide +kernel
theorem dX4_empty_37 : decode cX4_empty 37 = .ok (.goto (-15), 3) := by decide +kernel
theorem dX4_empty_40 : decode cX4_empty 40 = .ok (.iconst 0, 1) := by decide +kernel
theorem dX4_empty_41 : decode cX4_empty 41 = .ok (.istore_n 1, 1) := by decide +kernel
theorem dX4_empty_42 : decode cX4_empty 42 = .ok (.iload_n 1, 1) := by decide +kernel
theorem dX4_empty_43 : decode cX4_empty 43 = .ok (.iconst 4, 1) := by decide +kernel
theorem dX4_empty_44 : decode cX4_empty 44 = .ok (.if_icmp .ge 16, 3) := by decide +kernel
theorem dX4_empty_47 : decode cX4_empty 47 = .ok (.aload_n 0, 1) := by decide +kernel
theorem dX4_empty_48 : decode cX4_empty 48 = .ok (.getfield 52, 3) := by decide +kernel
theorem dX4_empty_51 : decode cX4_empty 51 = .ok (.iload_n 1, 1) := by decide +kernel
theorem dX4_empty_52 : decode cX4_empty 52 = .ok (.iconst 0, 1) := by decide +kernel
theorem dX4_empty_53 : decode cX4_empty 53 = .ok (.iastore, 1) := by decide +kernel
theorem dX4_empty_54 : decode cX4_empty 54 = .ok (.iinc 1 1, 3) := by decide +kernel
theorem dX4_empty_57 : decode cX4_empty 57 = .ok (.goto (-15), 3) := by decide +kernel
theorem dX4_empty_60 : decode cX4_empty 60 = .ok (.return_, 1) := by decide +kernel
theorem dX4_takeFrom_0 : decode cX4_takeFrom 0 = .ok (.aload_n 0, 1) := by decide +kernel
theorem dX4_takeFrom_1 : decode cX4_takeFrom 1 = .ok (.aload_n 1, 1) := by decide +kernel
theorem dX4_takeFrom_2 : decode cX4_takeFrom 2 = .ok (.getfield 9, 3) := by decide +kernel
theorem dX4_takeFrom_5 : decode cX4_takeFrom 5 = .ok (.putfield 9, 3) := by decide +kernel
theorem dX4_takeFrom_8 : decode cX4_takeFrom 8 = .ok (.aload_n 0, 1) := by decide +kernel
theorem dX4_takeFrom_9 : decode cX4_takeFrom 9 = .ok (.aload_n 1, 1) := by decide +kernel
theorem dX4_takeFrom_10 : decode cX4_takeFrom 10 = .ok (.getfield 15, 3) := by decide +kernel
theorem dX4_takeFrom_13 : decode cX4_takeFrom 13 = .ok (.putfield 15, 3) := by decide +kernel
theorem dX4_takeFrom_16 : decode cX4_takeFrom 16 = .ok (.aload_n 0, 1) := by decide +kernel
theorem dX4_takeFrom_17 : decode cX4_takeFrom 17 = .ok (.aload_n 1, 1) := by decide +kernel
theorem dX4_takeFrom_18 : decode cX4_takeFrom 18 = .ok (.getfield 18, 3) := by decide +kernel
theorem dX4_takeFrom_21 : decode cX4_takeFrom 21 = .ok (.putfield 18, 3) := by decide +kernel
theorem dX4_takeFrom_24 : decode cX4_takeFrom 24 = .ok (.aload_n 0, 1) := by decide +kernel
theorem dX4_takeFrom_25 : decode cX4_takeFrom 25 = .ok (.aload_n 1, 1) := by decide +kernel
theorem dX4_takeFrom_26 : decode cX4_takeFrom 26 = .ok (.getfield 21, 3) := by decide +kernel
theorem dX4_takeFrom_29 : decode cX4_takeFrom 29 = .ok (.putfield 21, 3) := by decide +kernel
theorem dX4_takeFrom_32 : decode cX4_takeFrom 32 = .ok (.aload_n 1, 1) := by decide +kernel
theorem dX4_takeFrom_33 : decode cX4_takeFrom 33 = .ok (.getfield 24, 3) := by decide +kernel
theorem dX4_takeFrom_36 : decode cX4_takeFrom 36 = .ok (.aload_n 0, 1) := by decide +kernel
theorem dX4_takeFrom_37 : decode cX4_takeFrom 37 = .ok (.getfield 24, 3) := by decide +kernel
theorem dX4_takeFrom_40 : decode cX4_takeFrom 40 = .ok (.invokestatic 64, 3) := by decide +kernel
theorem dX4_takeFrom_43 : decode cX4_takeFrom 43 = .ok (.aload_n 1, 1) := by decide +kernel
theorem dX4_takeFrom_44 : decode cX4_takeFrom 44 = .ok (.getfield 28, 3) := by decide +kernel
theorem dX4_takeFrom_47 : decode cX4_takeFrom 47 = .ok (.aload_n 0, 1) := by decide +kernel
theorem dX4_takeFrom_48 : decode cX4_takeFrom 48 = .ok (.getfield 28, 3) := by decide +kernel
theorem dX4_takeFrom_51 : decode cX4_takeFrom 51 = .ok (.invokestatic 64, 3) := by decide +kernel
theorem dX4_takeFrom_54 : decode cX4_takeFrom 54 = .ok (.aload_n 1, 1) := by decide +kernel
theorem dX4_takeFrom_55 : decode cX4_takeFrom 55 = .ok (.getfield 31, 3) := by decide +kernel
theorem dX4_takeFrom_58 : decode cX4_takeFrom 58 = .ok (.aload_n 0, 1) := by decide +kernel
theorem dX4_takeFrom_59 : decode cX4_takeFrom 59 = .ok (.getfield 31, 3) := by decide +kernel
theorem dX4_takeFrom_62 : decode cX4_takeFrom 62 = .ok (.invokestatic 64, 3) := by decide +kernel
theorem dX4_takeFrom_65 : decode cX4_takeFrom 65 = .ok (.aload_n 1, 1) := by decide +kernel
theorem dX4_takeFrom_66 : decode cX4_takeFrom 66 = .ok (.getfield 34, 3) := by decide +kernel
theorem dX4_takeFrom_69 : decode cX4_takeFrom 69 = .ok (.aload_n 0, 1) := by decide +kernel
theorem dX4_takeFrom_70 : decode cX4_takeFrom 70 = .ok (.getfield 34, 3) := by decide +kernel
theorem dX4_takeFrom_73 : decode cX4_takeFrom 73 = .ok (.invokestatic 64, 3) := by decide +kernel
theorem dX4_takeFrom_76 : decode cX4_takeFrom 76 = .ok (.aload_n 1, 1) := by decide +kernel
theorem dX4_takeFrom_77 : decode cX4_takeFrom 77 = .ok (.getfield 37, 3) := by decide +kernel
theorem dX4_takeFrom_80 : decode cX4_takeFrom 80 = .ok (.aload_n 0, 1) := by decide +kernel
theorem dX4_takeFrom_81 : decode cX4_takeFrom 81 = .ok (.getfield 37, 3) := by decide +kernel
theorem dX4_takeFrom_84 : decode cX4_takeFrom 84 = .ok (.invokestatic 64, 3) := by decide +kernel
theorem dX4_takeFrom_87 : decode cX4_takeFrom 87 = .ok (.aload_n 1, 1) := by decide +kernel
theorem dX4_takeFrom_88 : decode cX4_takeFrom 88 = .ok (.getfield 40, 3) := by decide +kernel
theorem dX4_takeFrom_91 : decode cX4_takeFrom 91 = .ok (.aload_n 0, 1) := by decide +kernel
theorem dX4_takeFrom_92 : decode cX4_takeFrom 92 = .ok (.getfield 40, 3) := by decide +kernel
theorem dX4_takeFrom_95 : decode cX4_takeFrom 95 = .ok (.invokestatic 64, 3) := by decide +kernel
theorem dX4_takeFrom_98 : decode cX4_takeFrom 98 = .ok (.aload_n 1, 1) := by decide +kernel
theorem dX4_takeFrom_99 : decode cX4_takeFrom 99 = .ok (.getfield 43, 3) := by decide +kernel
theorem dX4_takeFrom_102 : decode cX4_takeFrom 102 = .ok (.aload_n 0, 1) := by decide +kernel
theorem dX4_takeFrom_103 : decode cX4_takeFrom 103 = .ok (.getfield 43, 3) := by decide +kernel
theorem dX4_takeFrom_106 : decode cX4_takeFrom 106 = .ok (.invokestatic 64, 3) := by decide +kernel
theorem dX4_takeFrom_109 : decode cX4_takeFrom 109 = .ok (.aload_n 1, 1) := by decide +kernel
theorem dX4_takeFrom_110 : decode cX4_takeFrom 110 = .ok (.getfield 46, 3) := by decide +kernel
theorem dX4_takeFrom_113 : decode cX4_takeFrom 113 = .ok (.aload_n 0, 1) := by decide +kernel
theorem dX4_takeFrom_114 : decode cX4_takeFrom 114 = .ok (.getfield 46, 3) := by decide +kernel
theorem dX4_takeFrom_117 : decode cX4_takeFrom 117 = .ok (.invokestatic 64, 3) := by decide +kernel
theorem dX4_takeFrom_120 : decode cX4_takeFrom 120 = .ok (.aload_n 1, 1) := by decide +kernel
theorem dX4_takeFrom_121 : decode cX4_takeFrom 121 = .ok (.getfield 49, 3) := by decide +kernel
theorem dX4_takeFrom_124 : decode cX4_takeFrom 124 = .ok (.aload_n 0, 1) := by decide +kernel
theorem dX4_takeFrom_125 : decode cX4_takeFrom 125 = .ok (.getfield 49, 3) := by decide +kernel
theorem dX4_takeFrom_128 : decode cX4_takeFrom 128 = .ok (.invokestatic 64, 3) := by decide +kernel
theorem dX4_takeFrom_131 : decode cX4_takeFrom 131 = .ok (.aload_n 1, 1) := by decide +kernel
theorem dX4_takeFrom_132 : decode cX4_takeFrom 132 = .ok (.getfield 52, 3) := by decide +kernel
theorem dX4_takeFrom_135 : decode cX4_takeFrom 135 = .ok (.aload_n 0, 1) := by decide +kernel
theorem dX4_takeFrom_136 : decode cX4_takeFrom 136 = .ok (.getfield 52, 3) := by decide +kernel
theorem dX4_takeFrom_139 : decode cX4_takeFrom 139 = .ok (.invokestatic 64, 3) := by decide +kernel
theorem dX4_takeFrom_142 : decode cX4_takeFrom 142 = .ok (.return_, 1) := by decide +kernel
theorem dX4_addHouse_0 : decode cX4_addHouse 0 = .ok (.iload_n 1, 1) := by decide +kernel
theorem dX4_addHouse_1 : decode cX4_addHouse 1 = .ok (.iconst 1, 1) := by decide +kernel
theorem dX4_addHouse_2 : decode cX4_addHouse 2 = .ok (.if_icmp .lt 29, 3) := by decide +kernel
theorem dX4_addHouse_5 : decode cX4_addHouse 5 = .ok (.iload_n 1, 1) := by decide +kernel
theorem dX4_addHouse_6 : decode cX4_addHouse 6 = .ok (.bipush 9, 2) := by decide +kernel
theorem dX4_addHouse_8 : decode cX4_addHouse 8 = .ok (.if_icmp .gt 23, 3) := by decide +kernel
theorem dX4_addHouse_11 : decode cX4_addHouse 11 = .ok (.iload_n 2, 1) := by decide +kernel
theorem dX4_addHouse_12 : decode cX4_addHouse 12 = .ok (.ifCond .lt 19, 3) := by decide +kernel
theorem dX4_addHouse_15 : decode cX4_addHouse 15 = .ok (.iload_n 2, 1) := by decide +kernel
theorem dX4_addHouse_16 : decode cX4_addHouse 16 = .ok (.bipush 99, 2) := by decide +kernel
theorem dX4_addHouse_18 : decode cX4_addHouse 18 = .ok (.if_icmp .gt 13, 3) := by decide +kernel
theorem dX4_addHouse_21 : decode cX4_addHouse 21 = .ok (.iload_n 3, 1) := by decide +kernel
theorem dX4_addHouse_22 : decode cX4_addHouse 22 = .ok (.ifCond .lt 9, 3) := by decide +kernel
theorem dX4_addHouse_25 : decode cX4_addHouse 25 = .ok (.iload_n 3, 1) := by decide +kernel
theorem dX4_addHouse_26 : decode cX4_addHouse 26 = .ok (.bipush 99, 2) := by decide +kernel
theorem dX4_addHouse_28 : decode cX4_addHouse 28 = .ok (.if_icmp .le 6, 3) := by decide +kernel
theorem dX4_addHouse_31 : decode cX4_addHouse 31 = .ok (.bipush (-2), 2) := by decide +kernel
theorem dX4_addHouse_33 : decode cX4_addHouse 33 = .ok (.ireturn, 1) := by decide +kernel
theorem dX4_addHouse_34 : decode cX4_addHouse 34 = .ok (.aload_n 0, 1) := by decide +kernel
theorem dX4_addHouse_35 : decode cX4_addHouse 35 = .ok (.getfield 9, 3) := by decide +kernel
theorem dX4_addHouse_38 : decode cX4_addHouse 38 = .ok (.iconst 5, 1) := by decide +kernel
theorem dX4_addHouse_39 : decode cX4_addHouse 39 = .ok (.if_icmp .lt 6, 3) := by decide +kernel
theorem dX4_addHouse_42 : decode cX4_addHouse 42 = .ok (.bipush (-4), 2) := by decide +kernel
theorem dX4_addHouse_44 : decode cX4_addHouse 44 = .ok (.ireturn, 1) := by decide +kernel
theorem dX4_addHouse_45 : decode cX4_addHouse 45 = .ok (.aload_n 0, 1) := by decide +kernel
theorem dX4_addHouse_46 : decode cX4_addHouse 46 = .ok (.getfield 9, 3) := by decide +kernel
theorem dX4_addHouse_49 : decode cX4_addHouse 49 = .ok (.istore 4, 2) := by decide +kernel
theorem dX4_addHouse_51 : decode cX4_addHouse 51 = .ok (.aload_n 0, 1) := by decide +kernel
theorem dX4_addHouse_52 : decode cX4_addHouse 52 = .ok (.getfield 24, 3) := by decide +kernel
theorem dX4_addHouse_55 : decode cX4_addHouse 55 = .ok (.iload 4, 2) := by decide +kernel
theorem dX4_addHouse_57 : decode cX4_addHouse 57 = .ok (.iload_n 1, 1) := by decide +kernel
theorem dX4_addHouse_58 : decode cX4_addHouse 58 = .ok (.iastore, 1) := by decide +kernel
theorem dX4_addHouse_59 : decode cX4_addHouse 59 = .ok (.aload_n 0, 1) := by decide +kernel
theorem dX4_addHouse_60 : decode cX4_addHouse 60 = .ok (.getfield 28, 3) := by decide +kernel
theorem dX4_addHouse_63 : decode cX4_addHouse 63 = .ok (.iload 4, 2) := by decide +kernel
theorem dX4_addHouse_65 : decode cX4_addHouse 65 = .ok (.iload_n 2, 1) := by decide +kernel
theorem dX4_addHouse_66 : decode cX4_addHouse 66 = .ok (.iastore, 1) := by decide +kernel
theorem dX4_addHouse_67 : decode cX4_addHouse 67 = .ok (.aload_n 0, 1) := by decide +kernel
theorem dX4_addHouse_68 : decode cX4_addHouse 68 = .ok (.getfield 31, 3) := by decide +kernel
theorem dX4_addHouse_71 : decode cX4_addHouse 71 = .ok (.iload 4, 2) := by decide +kernel
theorem dX4_addHouse_73 : decode cX4_addHouse 73 = .ok (.iload_n 3, 1) := by decide +kernel
theorem dX4_addHouse_74 : decode cX4_addHouse 74 = .ok (.iastore, 1) := by decide +kernel
theorem dX4_addHouse_75 : decode cX4_addHouse 75 = .ok (.aload_n 0, 1) := by decide +kernel
theorem dX4_addHouse_76 : decode cX4_addHouse 76 = .ok (.getfield 34, 3) := by decide +kernel
theorem dX4_addHouse_79 : decode cX4_addHouse 79 = .ok (.iload 4, 2) := by decide +kernel
theorem dX4_addHouse_81 : decode cX4_addHouse 81 = .ok (.iconst (-1), 1) := by decide +kernel
theorem dX4_addHouse_82 : decode cX4_addHouse 82 = .ok (.iastore, 1) := by decide +kernel
theorem dX4_addHouse_83 : decode cX4_addHouse 83 = .ok (.aload_n 0, 1) := by decide +kernel
theorem dX4_addHouse_84 : decode cX4_addHouse 84 = .ok (.getfield 37, 3) := by decide +kernel
theorem dX4_addHouse_87 : decode cX4_addHouse 87 = .ok (.iload 4, 2) := by decide +kernel
theorem dX4_addHouse_89 : decode cX4_addHouse 89 = .ok (.iconst 0, 1) := by decide +kernel
theorem dX4_addHouse_90 : decode cX4_addHouse 90 = .ok (.iastore, 1) := by decide +kernel
theorem dX4_addHouse_91 : decode cX4_addHouse 91 = .ok (.aload_n 0, 1) := by decide +kernel
theorem dX4_addHouse_92 : decode cX4_addHouse 92 = .ok (.getfield 40, 3) := by decide +kernel
theorem dX4_addHouse_95 : decode cX4_addHouse 95 = .ok (.iload 4, 2) := by decide +kernel
theorem dX4_addHouse_97 : decode cX4_addHouse 97 = .ok (.iconst 0, 1) := by decide +kernel
theorem dX4_addHouse_98 : decode cX4_addHouse 98 = .ok (.iastore, 1) := by decide +kernel
theorem dX4_addHouse_99 : decode cX4_addHouse 99 = .ok (.aload_n 0, 1) := by decide +kernel
theorem dX4_addHouse_100 : decode cX4_addHouse 100 = .ok (.dup, 1) := by decide +kernel
theorem dX4_addHouse_101 : decode cX4_addHouse 101 = .ok (.getfield 15, 3) := by decide +kernel
theorem dX4_addHouse_104 : decode cX4_addHouse 104 = .ok (.iconst 1, 1) := by decide +kernel
theorem dX4_addHouse_105 : decode cX4_addHouse 105 = .ok (.iload 4, 2) := by decide +kernel
theorem dX4_addHouse_107 : decode cX4_addHouse 107 = .ok (.ishl, 1) := by decide +kernel
theorem dX4_addHouse_108 : decode cX4_addHouse 108 = .ok (.ior, 1) := by decide +kernel
theorem dX4_addHouse_109 : decode cX4_addHouse 109 = .ok (.putfield 15, 3) := by decide +kernel
theorem dX4_addHouse_112 : decode cX4_addHouse 112 = .ok (.aload_n 0, 1) := by decide +kernel
theorem dX4_addHouse_113 : decode cX4_addHouse 113 = .ok (.dup, 1) := by decide +kernel
theorem dX4_addHouse_114 : decode cX4_addHouse 114 = .ok (.getfield 9, 3) := by decide +kernel
theorem dX4_addHouse_117 : decode cX4_addHouse 117 = .ok (.iconst 1, 1) := by decide +kernel
theorem dX4_addHouse_118 : decode cX4_addHouse 118 = .ok (.iadd, 1) := by decide +kernel
theorem dX4_addHouse_119 : decode cX4_addHouse 119 = .ok (.putfield 9, 3) := by decide +kernel
theorem dX4_addHouse_122 : decode cX4_addHouse 122 = .ok (.iload 4, 2) := by decide +kernel
theorem dX4_addHouse_124 : decode cX4_addHouse 124 = .ok (.ireturn, 1) := by decide +kernel
theorem dX4_setFrom_0 : decode cX4_setFrom 0 = .ok (.aload_n 0, 1) := by decide +kernel
theorem dX4_setFrom_1 : decode cX4_setFrom 1 = .ok (.iload_n 1, 1) := by decide +kernel
theorem dX4_setFrom_2 : decode cX4_setFrom 2 = .ok (.invokevirtual 68, 3) := by decide +kernel
theorem dX4_setFrom_5 : decode cX4_setFrom 5 = .ok (.ifCond .eq 13, 3) := by decide +kernel
theorem dX4_setFrom_8 : decode cX4_setFrom 8 = .ok (.iload_n 2, 1) := by decide +kernel
theorem dX4_setFrom_9 : decode cX4_setFrom 9 = .ok (.iconst (-1), 1) := by decide +kernel
theorem dX4_setFrom_10 : decode cX4_setFrom 10 = .ok (.if_icmp .lt 8, 3) := by decide +kernel
theorem dX4_setFrom_13 : decode cX4_setFrom 13 = .ok (.iload_n 2, 1) := by decide +kernel
theorem dX4_setFrom_14 : decode cX4_setFrom 14 = .ok (.iload_n 1, 1) := by decide +kernel
theorem dX4_setFrom_15 : decode cX4_setFrom 15 = .ok (.if_icmp .lt 6, 3) := by decide +kernel
theorem dX4_setFrom_18 : decode cX4_setFrom 18 = .ok (.bipush (-2), 2) := by decide +kernel
theorem dX4_setFrom_20 : decode cX4_setFrom 20 = .ok (.ireturn, 1) := by decide +kernel
theorem dX4_setFrom_21 : decode cX4_setFrom 21 = .ok (.aload_n 0, 1) := by decide +kernel
theorem dX4_setFrom_22 : decode cX4_setFrom 22 = .ok (.getfield 34, 3) := by decide +kernel
theorem dX4_setFrom_25 : decode cX4_setFrom 25 = .ok (.iload_n 1, 1) := by decide +kernel
theorem dX4_setFrom_26 : decode cX4_setFrom 26 = .ok (.iaload, 1) := by decide +kernel
theorem dX4_setFrom_27 : decode cX4_setFrom 27 = .ok (.istore_n 3, 1) := by decide +kernel
theorem dX4_setFrom_28 : decode cX4_setFrom 28 = .ok (.aload_n 0, 1) := by decide +kernel
theorem dX4_setFrom_29 : decode cX4_setFrom 29 = .ok (.getfield 34, 3) := by decide +kernel
theorem dX4_setFrom_32 : decode cX4_setFrom 32 = .ok (.iload_n 1, 1) := by decide +kernel
theorem dX4_setFrom_33 : decode cX4_setFrom 33 = .ok (.iload_n 2, 1) := by decide +kernel
theorem dX4_setFrom_34 : decode cX4_setFrom 34 = .ok (.iastore, 1) := by decide +kernel
theorem dX4_setFrom_35 : decode cX4_setFrom 35 = .ok (.iload_n 3, 1) := by decide +kernel
theorem dX4_setFrom_36 : decode cX4_setFrom 36 = .ok (.ireturn, 1) := by decide +kernel
theorem dX4_setWill_0 : decode cX4_setWill 0 = .ok (.aload_n 0, 1) := by decide +kernel
theorem dX4_setWill_1 : decode cX4_setWill 1 = .ok (.iload_n 1, 1) := by decide +kernel
theorem dX4_setWill_2 : decode cX4_setWill 2 = .ok (.invokevirtual 68, 3) := by decide +kernel
theorem dX4_setWill_5 : decode cX4_setWill 5 = .ok (.ifCond .eq 13, 3) := by decide +kernel
theorem dX4_setWill_8 : decode cX4_setWill 8 = .ok (.iload_n 2, 1) := by decide +kernel
theorem dX4_setWill_9 : decode cX4_setWill 9 = .ok (.ifCond .lt 9, 3) := by decide +kernel
theorem dX4_setWill_12 : decode cX4_setWill 12 = .ok (.iload_n 2, 1) := by decide +kernel
theorem dX4_setWill_13 : decode cX4_setWill 13 = .ok (.bipush 6, 2) := by decide +kernel
theorem dX4_setWill_15 : decode cX4_setWill 15 = .ok (.if_icmp .lt 6, 3) := by decide +kernel
theorem dX4_setWill_18 : decode cX4_setWill 18 = .ok (.bipush (-2), 2) := by decide +kernel
theorem dX4_setWill_20 : decode cX4_setWill 20 = .ok (.ireturn, 1) := by decide +kernel
theorem dX4_setWill_21 : decode cX4_setWill 21 = .ok (.aload_n 0, 1) := by decide +kernel
theorem dX4_setWill_22 : decode cX4_setWill 22 = .ok (.getfield 37, 3) := by decide +kernel
theorem dX4_setWill_25 : decode cX4_setWill 25 = .ok (.iload_n 1, 1) := by decide +kernel
theorem dX4_setWill_26 : decode cX4_setWill 26 = .ok (.iaload, 1) := by decide +kernel
theorem dX4_setWill_27 : decode cX4_setWill 27 = .ok (.istore_n 3, 1) := by decide +kernel
theorem dX4_setWill_28 : decode cX4_setWill 28 = .ok (.aload_n 0, 1) := by decide +kernel
theorem dX4_setWill_29 : decode cX4_setWill 29 = .ok (.getfield 37, 3) := by decide +kernel
theorem dX4_setWill_32 : decode cX4_setWill 32 = .ok (.iload_n 1, 1) := by decide +kernel
theorem dX4_setWill_33 : decode cX4_setWill 33 = .ok (.iload_n 2, 1) := by decide +kernel
theorem dX4_setWill_34 : decode cX4_setWill 34 = .ok (.iastore, 1) := by decide +kernel
theorem dX4_setWill_35 : decode cX4_setWill 35 = .ok (.iload_n 3, 1) := by decide +kernel
theorem dX4_setWill_36 : decode cX4_setWill 36 = .ok (.ireturn, 1) := by decide +kernel
theorem dX4_setWall_0 : decode cX4_setWall 0 = .ok (.aload_n 0, 1) := by decide +kernel
theorem dX4_setWall_1 : decode cX4_setWall 1 = .ok (.iload_n 1, 1) := by decide +kernel
theorem dX4_setWall_2 : decode cX4_setWall 2 = .ok (.iload_n 2, 1) := by decide +kernel
theorem dX4_setWall_3 : decode cX4_setWall 3 = .ok (.invokevirtual 72, 3) := by decide +kernel
theorem dX4_setWall_6 : decode cX4_setWall 6 = .ok (.ifCond .ne 6, 3) := by decide +kernel
theorem dX4_setWall_9 : decode cX4_setWall 9 = .ok (.bipush (-2), 2) := by decide +kernel
theorem dX4_setWall_11 : decode cX4_setWall 11 = .ok (.ireturn, 1) := by decide +kernel
theorem dX4_setWall_12 : decode cX4_setWall 12 = .ok (.aload_n 0, 1) := by decide +kernel
theorem dX4_setWall_13 : decode cX4_setWall 13 = .ok (.iload_n 1, 1) := by decide +kernel
theorem dX4_setWall_14 : decode cX4_setWall 14 = .ok (.iload_n 2, 1) := by decide +kernel
theorem dX4_setWall_15 : decode cX4_setWall 15 = .ok (.invokevirtual 76, 3) := by decide +kernel
theorem dX4_setWall_18 : decode cX4_setWall 18 = .ok (.iload_n 3, 1) := by decide +kernel
theorem dX4_setWall_19 : decode cX4_setWall 19 = .ok (.if_icmp .ne 6, 3) := by decide +kernel
theorem dX4_setWall_22 : decode cX4_setWall 22 = .ok (.bipush (-3), 2) := by decide +kernel
theorem dX4_setWall_24 : decode cX4_setWall 24 = .ok (.ireturn, 1) := by decide +kernel
theorem dX4_setWall_25 : decode cX4_setWall 25 = .ok (.aload_n 0, 1) := by decide +kernel
theorem dX4_setWall_26 : decode cX4_setWall 26 = .ok (.getfield 43, 3) := by decide +kernel
theorem dX4_setWall_29 : decode cX4_setWall 29 = .ok (.iload_n 1, 1) := by decide +kernel
theorem dX4_setWall_30 : decode cX4_setWall 30 = .ok (.dup2, 1) := by decide +kernel
theorem dX4_setWall_31 : decode cX4_setWall 31 = .ok (.iaload, 1) := by decide +kernel
theorem dX4_setWall_32 : decode cX4_setWall 32 = .ok (.iconst 1, 1) := by decide +kernel
theorem dX4_setWall_33 : decode cX4_setWall 33 = .ok (.iload_n 2, 1) := by decide +kernel
theorem dX4_setWall_34 : decode cX4_setWall 34 = .ok (.ishl, 1) := by decide +kernel
theorem dX4_setWall_35 : decode cX4_setWall 35 = .ok (.ixor, 1) := by decide +kernel
theorem dX4_setWall_36 : decode cX4_setWall 36 = .ok (.iastore, 1) := by decide +kernel
theorem dX4_setWall_37 : decode cX4_setWall 37 = .ok (.aload_n 0, 1) := by decide +kernel
theorem dX4_setWall_38 : decode cX4_setWall 38 = .ok (.getfield 43, 3) := by decide +kernel
theorem dX4_setWall_41 : decode cX4_setWall 41 = .ok (.iload_n 2, 1) := by decide +kernel
theorem dX4_setWall_42 : decode cX4_setWall 42 = .ok (.dup2, 1) := by decide +kernel
theorem dX4_setWall_43 : decode cX4_setWall 43 = .ok (.iaload, 1) := by decide +kernel
theorem dX4_setWall_44 : decode cX4_setWall 44 = .ok (.iconst 1, 1) := by decide +kernel
theorem dX4_setWall_45 : decode cX4_setWall 45 = .ok (.iload_n 1, 1) := by decide +kernel
theorem dX4_setWall_46 : decode cX4_setWall 46 = .ok (.ishl, 1) := by decide +kernel
theorem dX4_setWall_47 : decode cX4_setWall 47 = .ok (.ixor, 1) := by decide +kernel
theorem dX4_setWall_48 : decode cX4_setWall 48 = .ok (.iastore, 1) := by decide +kernel
theorem dX4_setWall_49 : decode cX4_setWall 49 = .ok (.iconst 1, 1) := by decide +kernel
theorem dX4_setWall_50 : decode cX4_setWall 50 = .ok (.ireturn, 1) := by decide +kernel
theorem dX4_addOne_0 : decode cX4_addOne 0 = .ok (.iload_n 1, 1) := by decide +kernel
theorem dX4_addOne_1 : decode cX4_addOne 1 = .ok (.ifCond .lt 21, 3) := by decide +kernel
theorem dX4_addOne_4 : decode cX4_addOne 4 = .ok (.iload_n 1, 1) := by decide +kernel
theorem dX4_addOne_5 : decode cX4_addOne 5 = .ok (.iconst 4, 1) := by decide +kernel
theorem dX4_addOne_6 : decode cX4_addOne 6 = .ok (.if_icmp .ge 16, 3) := by decide +kernel
theorem dX4_addOne_9 : decode cX4_addOne 9 = .ok (.iload_n 2, 1) := by decide +kernel
theorem dX4_addOne_10 : decode cX4_addOne 10 = .ok (.iconst (-1), 1) := by decide +kernel
theorem dX4_addOne_11 : decode cX4_addOne 11 = .ok (.if_icmp .eq 14, 3) := by decide +kernel
theorem dX4_addOne_14 : decode cX4_addOne 14 = .ok (.aload_n 0, 1) := by decide +kernel
theorem dX4_addOne_15 : decode cX4_addOne 15 = .ok (.iload_n 2, 1) := by decide +kernel
theorem dX4_addOne_16 : decode cX4_addOne 16 = .ok (.invokevirtual 68, 3) := by decide +kernel
theorem dX4_addOne_19 : decode cX4_addOne 19 = .ok (.ifCond .ne 6, 3) := by decide +kernel
theorem dX4_addOne_22 : decode cX4_addOne 22 = .ok (.bipush (-2), 2) := by decide +kernel
theorem dX4_addOne_24 : decode cX4_addOne 24 = .ok (.ireturn, 1) := by decide +kernel
theorem dX4_addOne_25 : decode cX4_addOne 25 = .ok (.iload_n 2, 1) := by decide +kernel
theorem dX4_addOne_26 : decode cX4_addOne 26 = .ok (.iconst (-1), 1) := by decide +kernel
theorem dX4_addOne_27 : decode cX4_addOne 27 = .ok (.if_icmp .eq 14, 3) := by decide +kernel
theorem dX4_addOne_30 : decode cX4_addOne 30 = .ok (.aload_n 0, 1) := by decide +kernel
theorem dX4_addOne_31 : decode cX4_addOne 31 = .ok (.iload_n 2, 1) := by decide +kernel
theorem dX4_addOne_32 : decode cX4_addOne 32 = .ok (.invokevirtual 79, 3) := by decide +kernel
theorem dX4_addOne_35 : decode cX4_addOne 35 = .ok (.ifCond .ne 6, 3) := by decide +kernel
theorem dX4_addOne_38 : decode cX4_addOne 38 = .ok (.bipush (-3), 2) := by decide +kernel
theorem dX4_addOne_40 : decode cX4_addOne 40 = .ok (.ireturn, 1) := by decide +kernel
theorem dX4_addOne_41 : decode cX4_addOne 41 = .ok (.aload_n 0, 1) := by decide +kernel
theorem dX4_addOne_42 : decode cX4_addOne 42 = .ok (.getfield 18, 3) := by decide +kernel
theorem dX4_addOne_45 : decode cX4_addOne 45 = .ok (.bipush 6, 2) := by decide +kernel
theorem dX4_addOne_47 : decode cX4_addOne 47 = .ok (.if_icmp .lt 6, 3) := by decide +kernel
theorem dX4_addOne_50 : decode cX4_addOne 50 = .ok (.bipush (-4), 2) := by decide +kernel
theorem dX4_addOne_52 : decode cX4_addOne 52 = .ok (.ireturn, 1) := by decide +kernel
theorem dX4_addOne_53 : decode cX4_addOne 53 = .ok (.aload_n 0, 1) := by decide +kernel
theorem dX4_addOne_54 : decode cX4_addOne 54 = .ok (.getfield 46, 3) := by decide +kernel
theorem dX4_addOne_57 : decode cX4_addOne 57 = .ok (.aload_n 0, 1) := by decide +kernel
theorem dX4_addOne_58 : decode cX4_addOne 58 = .ok (.getfield 18, 3) := by decide +kernel
theorem dX4_addOne_61 : decode cX4_addOne 61 = .ok (.iload_n 1, 1) := by decide +kernel
theorem dX4_addOne_62 : decode cX4_addOne 62 = .ok (.iastore, 1) := by decide +kernel
theorem dX4_addOne_63 : decode cX4_addOne 63 = .ok (.aload_n 0, 1) := by decide +kernel
theorem dX4_addOne_64 : decode cX4_addOne 64 = .ok (.getfield 49, 3) := by decide +kernel
theorem dX4_addOne_67 : decode cX4_addOne 67 = .ok (.aload_n 0, 1) := by decide +kernel
theorem dX4_addOne_68 : decode cX4_addOne 68 = .ok (.getfield 18, 3) := by decide +kernel
theorem dX4_addOne_71 : decode cX4_addOne 71 = .ok (.iload_n 2, 1) := by decide +kernel
theorem dX4_addOne_72 : decode cX4_addOne 72 = .ok (.iastore, 1) := by decide +kernel
theorem dX4_addOne_73 : decode cX4_addOne 73 = .ok (.aload_n 0, 1) := by decide +kernel
theorem dX4_addOne_74 : decode cX4_addOne 74 = .ok (.dup, 1) := by decide +kernel
theorem dX4_addOne_75 : decode cX4_addOne 75 = .ok (.getfield 18, 3) := by decide +kernel
theorem dX4_addOne_78 : decode cX4_addOne 78 = .ok (.iconst 1, 1) := by decide +kernel
theorem dX4_addOne_79 : decode cX4_addOne 79 = .ok (.iadd, 1) := by decide +kernel
theorem dX4_addOne_80 : decode cX4_addOne 80 = .ok (.putfield 18, 3) := by decide +kernel
theorem dX4_addOne_83 : decode cX4_addOne 83 = .ok (.aload_n 0, 1) := by decide +kernel
theorem dX4_addOne_84 : decode cX4_addOne 84 = .ok (.getfield 18, 3) := by decide +kernel
theorem dX4_addOne_87 : decode cX4_addOne 87 = .ok (.iconst 1, 1) := by decide +kernel
theorem dX4_addOne_88 : decode cX4_addOne 88 = .ok (.isub, 1) := by decide +kernel
theorem dX4_addOne_89 : decode cX4_addOne 89 = .ok (.ireturn, 1) := by decide +kernel
theorem dX4_setFeud_0 : decode cX4_setFeud 0 = .ok (.iload_n 1, 1) := by decide +kernel
theorem dX4_setFeud_1 : decode cX4_setFeud 1 = .ok (.ifCond .lt 22, 3) := by decide +kernel
theorem dX4_setFeud_4 : decode cX4_setFeud 4 = .ok (.iload_n 1, 1) := by decide +kernel
theorem dX4_setFeud_5 : decode cX4_setFeud 5 = .ok (.iconst 4, 1) := by decide +kernel
theorem dX4_setFeud_6 : decode cX4_setFeud 6 = .ok (.if_icmp .ge 17, 3) := by decide +kernel
theorem dX4_setFeud_9 : decode cX4_setFeud 9 = .ok (.iload_n 2, 1) := by decide +kernel
theorem dX4_setFeud_10 : decode cX4_setFeud 10 = .ok (.ifCond .lt 13, 3) := by decide +kernel
theorem dX4_setFeud_13 : decode cX4_setFeud 13 = .ok (.iload_n 2, 1) := by decide +kernel
theorem dX4_setFeud_14 : decode cX4_setFeud 14 = .ok (.iconst 4, 1) := by decide +kernel
theorem dX4_setFeud_15 : decode cX4_setFeud 15 = .ok (.if_icmp .ge 8, 3) := by decide +kernel
theorem dX4_setFeud_18 : decode cX4_setFeud 18 = .ok (.iload_n 1, 1) := by decide +kernel
theorem dX4_setFeud_19 : decode cX4_setFeud 19 = .ok (.iload_n 2, 1) := by decide +kernel
theorem dX4_setFeud_20 : decode cX4_setFeud 20 = .ok (.if_icmp .ne 6, 3) := by decide +kernel
theorem dX4_setFeud_23 : decode cX4_setFeud 23 = .ok (.bipush (-2), 2) := by decide +kernel
theorem dX4_setFeud_25 : decode cX4_setFeud 25 = .ok (.ireturn, 1) := by decide +kernel
theorem dX4_setFeud_26 : decode cX4_setFeud 26 = .ok (.aload_n 0, 1) := by decide +kernel
theorem dX4_setFeud_27 : decode cX4_setFeud 27 = .ok (.iload_n 1, 1) := by decide +kernel
theorem dX4_setFeud_28 : decode cX4_setFeud 28 = .ok (.iload_n 2, 1) := by decide +kernel
theorem dX4_setFeud_29 : decode cX4_setFeud 29 = .ok (.invokevirtual 82, 3) := by decide +kernel
theorem dX4_setFeud_32 : decode cX4_setFeud 32 = .ok (.iload_n 3, 1) := by decide +kernel
theorem dX4_setFeud_33 : decode cX4_setFeud 33 = .ok (.if_icmp .ne 6, 3) := by decide +kernel
theorem dX4_setFeud_36 : decode cX4_setFeud 36 = .ok (.bipush (-3), 2) := by decide +kernel
theorem dX4_setFeud_38 : decode cX4_setFeud 38 = .ok (.ireturn, 1) := by decide +kernel
theorem dX4_setFeud_39 : decode cX4_setFeud 39 = .ok (.aload_n 0, 1) := by decide +kernel
theorem dX4_setFeud_40 : decode cX4_setFeud 40 = .ok (.getfield 52, 3) := by decide +kernel
theorem dX4_setFeud_43 : decode cX4_setFeud 43 = .ok (.iload_n 1, 1) := by decide +kernel
theorem dX4_setFeud_44 : decode cX4_setFeud 44 = .ok (.dup2, 1) := by decide +kernel
theorem dX4_setFeud_45 : decode cX4_setFeud 45 = .ok (.iaload, 1) := by decide +kernel
theorem dX4_setFeud_46 : decode cX4_setFeud 46 = .ok (.iconst 1, 1) := by decide +kernel
theorem dX4_setFeud_47 : decode cX4_setFeud 47 = .ok (.iload_n 2, 1) := by decide +kernel
theorem dX4_setFeud_48 : decode cX4_setFeud 48 = .ok (.ishl, 1) := by decide +kernel
theorem dX4_setFeud_49 : decode cX4_setFeud 49 = .ok (.ixor, 1) := by decide +kernel
theorem dX4_setFeud_50 : decode cX4_setFeud 50 = .ok (.iastore, 1) := by decide +kernel
theorem dX4_setFeud_51 : decode cX4_setFeud 51 = .ok (.aload_n 0, 1) := by decide +kernel
theorem dX4_setFeud_52 : decode cX4_setFeud 52 = .ok (.getfield 52, 3) := by decide +kernel
theorem dX4_setFeud_55 : decode cX4_setFeud 55 = .ok (.iload_n 2, 1) := by decide +kernel
theorem dX4_setFeud_56 : decode cX4_setFeud 56 = .ok (.dup2, 1) := by decide +kernel
theorem dX4_setFeud_57 : decode cX4_setFeud 57 = .ok (.iaload, 1) := by decide +kernel
theorem dX4_setFeud_58 : decode cX4_setFeud 58 = .ok (.iconst 1, 1) := by decide +kernel
theorem dX4_setFeud_59 : decode cX4_setFeud 59 = .ok (.iload_n 1, 1) := by decide +kernel
theorem dX4_setFeud_60 : decode cX4_setFeud 60 = .ok (.ishl, 1) := by decide +kernel
theorem dX4_setFeud_61 : decode cX4_setFeud 61 = .ok (.ixor, 1) := by decide +kernel
theorem dX4_setFeud_62 : decode cX4_setFeud 62 = .ok (.iastore, 1) := by decide +kernel
theorem dX4_setFeud_63 : decode cX4_setFeud 63 = .ok (.iconst 1, 1) := by decide +kernel
theorem dX4_setFeud_64 : decode cX4_setFeud 64 = .ok (.ireturn, 1) := by decide +kernel
theorem dX4_setMarks_0 : decode cX4_setMarks 0 = .ok (.aload_n 0, 1) := by decide +kernel
theorem dX4_setMarks_1 : decode cX4_setMarks 1 = .ok (.iload_n 1, 1) := by decide +kernel
theorem dX4_setMarks_2 : decode cX4_setMarks 2 = .ok (.invokevirtual 68, 3) := by decide +kernel
theorem dX4_setMarks_5 : decode cX4_setMarks 5 = .ok (.ifCond .eq 14, 3) := by decide +kernel
theorem dX4_setMarks_8 : decode cX4_setMarks 8 = .ok (.iload_n 2, 1) := by decide +kernel
theorem dX4_setMarks_9 : decode cX4_setMarks 9 = .ok (.ifCond .lt 10, 3) := by decide +kernel
theorem dX4_setMarks_12 : decode cX4_setMarks 12 = .ok (.iload_n 2, 1) := by decide +kernel
theorem dX4_setMarks_13 : decode cX4_setMarks 13 = .ok (.sipush 255, 3) := by decide +kernel
theorem dX4_setMarks_16 : decode cX4_setMarks 16 = .ok (.if_icmp .le 6, 3) := by decide +kernel
theorem dX4_setMarks_19 : decode cX4_setMarks 19 = .ok (.bipush (-2), 2) := by decide +kernel
theorem dX4_setMarks_21 : decode cX4_setMarks 21 = .ok (.ireturn, 1) := by decide +kernel
theorem dX4_setMarks_22 : decode cX4_setMarks 22 = .ok (.aload_n 0, 1) := by decide +kernel
theorem dX4_setMarks_23 : decode cX4_setMarks 23 = .ok (.getfield 40, 3) := by decide +kernel
theorem dX4_setMarks_26 : decode cX4_setMarks 26 = .ok (.iload_n 1, 1) := by decide +kernel
theorem dX4_setMarks_27 : decode cX4_setMarks 27 = .ok (.iaload, 1) := by decide +kernel
theorem dX4_setMarks_28 : decode cX4_setMarks 28 = .ok (.istore_n 3, 1) := by decide +kernel
theorem dX4_setMarks_29 : decode cX4_setMarks 29 = .ok (.aload_n 0, 1) := by decide +kernel
theorem dX4_setMarks_30 : decode cX4_setMarks 30 = .ok (.getfield 40, 3) := by decide +kernel
theorem dX4_setMarks_33 : decode cX4_setMarks 33 = .ok (.iload_n 1, 1) := by decide +kernel
theorem dX4_setMarks_34 : decode cX4_setMarks 34 = .ok (.iload_n 2, 1) := by decide +kernel
theorem dX4_setMarks_35 : decode cX4_setMarks 35 = .ok (.iastore, 1) := by decide +kernel
theorem dX4_setMarks_36 : decode cX4_setMarks 36 = .ok (.iload_n 3, 1) := by decide +kernel
theorem dX4_setMarks_37 : decode cX4_setMarks 37 = .ok (.ireturn, 1) := by decide +kernel
theorem dX4_has_0 : decode cX4_has 0 = .ok (.iload_n 1, 1) := by decide +kernel
theorem dX4_has_1 : decode cX4_has 1 = .ok (.ifCond .lt 20, 3) := by decide +kernel
theorem dX4_has_4 : decode cX4_has 4 = .ok (.iload_n 1, 1) := by decide +kernel
theorem dX4_has_5 : decode cX4_has 5 = .ok (.aload_n 0, 1) := by decide +kernel
theorem dX4_has_6 : decode cX4_has 6 = .ok (.getfield 9, 3) := by decide +kernel
theorem dX4_has_9 : decode cX4_has 9 = .ok (.if_icmp .ge 12, 3) := by decide +kernel
theorem dX4_has_12 : decode cX4_has 12 = .ok (.iload_n 1, 1) := by decide +kernel
theorem dX4_has_13 : decode cX4_has 13 = .ok (.iconst 5, 1) := by decide +kernel
theorem dX4_has_14 : decode cX4_has 14 = .ok (.if_icmp .ge 7, 3) := by decide +kernel
theorem dX4_has_17 : decode cX4_has 17 = .ok (.iconst 1, 1) := by decide +kernel
theorem dX4_has_18 : decode cX4_has 18 = .ok (.goto 4, 3) := by decide +kernel
theorem dX4_has_21 : decode cX4_has 21 = .ok (.iconst 0, 1) := by decide +kernel
theorem dX4_has_22 : decode cX4_has 22 = .ok (.ireturn, 1) := by decide +kernel
theorem dX4_hasTwo_0 : decode cX4_hasTwo 0 = .ok (.aload_n 0, 1) := by decide +kernel
theorem dX4_hasTwo_1 : decode cX4_hasTwo 1 = .ok (.iload_n 1, 1) := by decide +kernel
theorem dX4_hasTwo_2 : decode cX4_hasTwo 2 = .ok (.invokevirtual 68, 3) := by decide +kernel
theorem dX4_hasTwo_5 : decode cX4_hasTwo 5 = .ok (.ifCond .eq 20, 3) := by decide +kernel
theorem dX4_hasTwo_8 : decode cX4_hasTwo 8 = .ok (.aload_n 0, 1) := by decide +kernel
theorem dX4_hasTwo_9 : decode cX4_hasTwo 9 = .ok (.iload_n 2, 1) := by decide +kernel
theorem dX4_hasTwo_10 : decode cX4_hasTwo 10 = .ok (.invokevirtual 68, 3) := by decide +kernel
theorem dX4_hasTwo_13 : decode cX4_hasTwo 13 = .ok (.ifCond .eq 12, 3) := by decide +kernel
theorem dX4_hasTwo_16 : decode cX4_hasTwo 16 = .ok (.iload_n 1, 1) := by decide +kernel
theorem dX4_hasTwo_17 : decode cX4_hasTwo 17 = .ok (.iload_n 2, 1) := by decide +kernel
theorem dX4_hasTwo_18 : decode cX4_hasTwo 18 = .ok (.if_icmp .eq 7, 3) := by decide +kernel
theorem dX4_hasTwo_21 : decode cX4_hasTwo 21 = .ok (.iconst 1, 1) := by decide +kernel
theorem dX4_hasTwo_22 : decode cX4_hasTwo 22 = .ok (.goto 4, 3) := by decide +kernel
theorem dX4_hasTwo_25 : decode cX4_hasTwo 25 = .ok (.iconst 0, 1) := by decide +kernel
theorem dX4_hasTwo_26 : decode cX4_hasTwo 26 = .ok (.ireturn, 1) := by decide +kernel
theorem dX4_hasOne_0 : decode cX4_hasOne 0 = .ok (.iload_n 1, 1) := by decide +kernel
theorem dX4_hasOne_1 : decode cX4_hasOne 1 = .ok (.ifCond .lt 21, 3) := by decide +kernel
theorem dX4_hasOne_4 : decode cX4_hasOne 4 = .ok (.iload_n 1, 1) := by decide +kernel
theorem dX4_hasOne_5 : decode cX4_hasOne 5 = .ok (.aload_n 0, 1) := by decide +kernel
theorem dX4_hasOne_6 : decode cX4_hasOne 6 = .ok (.getfield 18, 3) := by decide +kernel
theorem dX4_hasOne_9 : decode cX4_hasOne 9 = .ok (.if_icmp .ge 13, 3) := by decide +kernel
theorem dX4_hasOne_12 : decode cX4_hasOne 12 = .ok (.iload_n 1, 1) := by decide +kernel
theorem dX4_hasOne_13 : decode cX4_hasOne 13 = .ok (.bipush 6, 2) := by decide +kernel
theorem dX4_hasOne_15 : decode cX4_hasOne 15 = .ok (.if_icmp .ge 7, 3) := by decide +kernel
theorem dX4_hasOne_18 : decode cX4_hasOne 18 = .ok (.iconst 1, 1) := by decide +kernel
theorem dX4_hasOne_19 : decode cX4_hasOne 19 = .ok (.goto 4, 3) := by decide +kernel
theorem dX4_hasOne_22 : decode cX4_hasOne 22 = .ok (.iconst 0, 1) := by decide +kernel
theorem dX4_hasOne_23 : decode cX4_hasOne 23 = .ok (.ireturn, 1) := by decide +kernel
theorem dX4_stands_0 : decode cX4_stands 0 = .ok (.iload_n 1, 1) := by decide +kernel
theorem dX4_stands_1 : decode cX4_stands 1 = .ok (.ifCond .lt 24, 3) := by decide +kernel
theorem dX4_stands_4 : decode cX4_stands 4 = .ok (.iload_n 1, 1) := by decide +kernel
theorem dX4_stands_5 : decode cX4_stands 5 = .ok (.iconst 5, 1) := by decide +kernel
theorem dX4_stands_6 : decode cX4_stands 6 = .ok (.if_icmp .ge 19, 3) := by decide +kernel
theorem dX4_stands_9 : decode cX4_stands 9 = .ok (.aload_n 0, 1) := by decide +kernel
theorem dX4_stands_10 : decode cX4_stands 10 = .ok (.getfield 15, 3) := by decide +kernel
theorem dX4_stands_13 : decode cX4_stands 13 = .ok (.iload_n 1, 1) := by decide +kernel
theorem dX4_stands_14 : decode cX4_stands 14 = .ok (.ishr, 1) := by decide +kernel
theorem dX4_stands_15 : decode cX4_stands 15 = .ok (.iconst 1, 1) := by decide +kernel
theorem dX4_stands_16 : decode cX4_stands 16 = .ok (.iand, 1) := by decide +kernel
theorem dX4_stands_17 : decode cX4_stands 17 = .ok (.iconst 1, 1) := by decide +kernel
theorem dX4_stands_18 : decode cX4_stands 18 = .ok (.if_icmp .ne 7, 3) := by decide +kernel
theorem dX4_stands_21 : decode cX4_stands 21 = .ok (.iconst 1, 1) := by decide +kernel
theorem dX4_stands_22 : decode cX4_stands 22 = .ok (.goto 4, 3) := by decide +kernel
theorem dX4_stands_25 : decode cX4_stands 25 = .ok (.iconst 0, 1) := by decide +kernel
theorem dX4_stands_26 : decode cX4_stands 26 = .ok (.ireturn, 1) := by decide +kernel
theorem dX4_hasWall_0 : decode cX4_hasWall 0 = .ok (.aload_n 0, 1) := by decide +kernel
theorem dX4_hasWall_1 : decode cX4_hasWall 1 = .ok (.iload_n 1, 1) := by decide +kernel
theorem dX4_hasWall_2 : decode cX4_hasWall 2 = .ok (.invokevirtual 68, 3) := by decide +kernel
theorem dX4_hasWall_5 : decode cX4_hasWall 5 = .ok (.ifCond .eq 29, 3) := by decide +kernel
theorem dX4_hasWall_8 : decode cX4_hasWall 8 = .ok (.aload_n 0, 1) := by decide +kernel
theorem dX4_hasWall_9 : decode cX4_hasWall 9 = .ok (.iload_n 2, 1) := by decide +kernel
theorem dX4_hasWall_10 : decode cX4_hasWall 10 = .ok (.invokevirtual 68, 3) := by decide +kernel
theorem dX4_hasWall_13 : decode cX4_hasWall 13 = .ok (.ifCond .eq 21, 3) := by decide +kernel
theorem dX4_hasWall_16 : decode cX4_hasWall 16 = .ok (.aload_n 0, 1) := by decide +kernel
theorem dX4_hasWall_17 : decode cX4_hasWall 17 = .ok (.getfield 43, 3) := by decide +kernel
theorem dX4_hasWall_20 : decode cX4_hasWall 20 = .ok (.iload_n 1, 1) := by decide +kernel
theorem dX4_hasWall_21 : decode cX4_hasWall 21 = .ok (.iaload, 1) := by decide +kernel
theorem dX4_hasWall_22 : decode cX4_hasWall 22 = .ok (.iload_n 2, 1) := by decide +kernel
theorem dX4_hasWall_23 : decode cX4_hasWall 23 = .ok (.ishr, 1) := by decide +kernel
theorem dX4_hasWall_24 : decode cX4_hasWall 24 = .ok (.iconst 1, 1) := by decide +kernel
theorem dX4_hasWall_25 : decode cX4_hasWall 25 = .ok (.iand, 1) := by decide +kernel
theorem dX4_hasWall_26 : decode cX4_hasWall 26 = .ok (.iconst 1, 1) := by decide +kernel
theorem dX4_hasWall_27 : decode cX4_hasWall 27 = .ok (.if_icmp .ne 7, 3) := by decide +kernel
theorem dX4_hasWall_30 : decode cX4_hasWall 30 = .ok (.iconst 1, 1) := by decide +kernel
theorem dX4_hasWall_31 : decode cX4_hasWall 31 = .ok (.goto 4, 3) := by decide +kernel
theorem dX4_hasWall_34 : decode cX4_hasWall 34 = .ok (.iconst 0, 1) := by decide +kernel
theorem dX4_hasWall_35 : decode cX4_hasWall 35 = .ok (.ireturn, 1) := by decide +kernel
theorem dX4_mayWall_0 : decode cX4_mayWall 0 = .ok (.aload_n 0, 1) := by decide +kernel
theorem dX4_mayWall_1 : decode cX4_mayWall 1 = .ok (.iload_n 1, 1) := by decide +kernel
theorem dX4_mayWall_2 : decode cX4_mayWall 2 = .ok (.invokevirtual 79, 3) := by decide +kernel
theorem dX4_mayWall_5 : decode cX4_mayWall 5 = .ok (.ifCond .eq 24, 3) := by decide +kernel
theorem dX4_mayWall_8 : decode cX4_mayWall 8 = .ok (.aload_n 0, 1) := by decide +kernel
theorem dX4_mayWall_9 : decode cX4_mayWall 9 = .ok (.iload_n 2, 1) := by decide +kernel
theorem dX4_mayWall_10 : decode cX4_mayWall 10 = .ok (.invokevirtual 79, 3) := by decide +kernel
theorem dX4_mayWall_13 : decode cX4_mayWall 13 = .ok (.ifCond .eq 16, 3) := by decide +kernel
theorem dX4_mayWall_16 : decode cX4_mayWall 16 = .ok (.aload_n 0, 1) := by decide +kernel
theorem dX4_mayWall_17 : decode cX4_mayWall 17 = .ok (.iload_n 1, 1) := by decide +kernel
theorem dX4_mayWall_18 : decode cX4_mayWall 18 = .ok (.iload_n 2, 1) := by decide +kernel
theorem dX4_mayWall_19 : decode cX4_mayWall 19 = .ok (.invokevirtual 76, 3) := by decide +kernel
theorem dX4_mayWall_22 : decode cX4_mayWall 22 = .ok (.ifCond .ne 7, 3) := by decide +kernel
theorem dX4_mayWall_25 : decode cX4_mayWall 25 = .ok (.iconst 1, 1) := by decide +kernel
theorem dX4_mayWall_26 : decode cX4_mayWall 26 = .ok (.goto 4, 3) := by decide +kernel
theorem dX4_mayWall_29 : decode cX4_mayWall 29 = .ok (.iconst 0, 1) := by decide +kernel
theorem dX4_mayWall_30 : decode cX4_mayWall 30 = .ok (.ireturn, 1) := by decide +kernel
theorem dX4_hasFeud_0 : decode cX4_hasFeud 0 = .ok (.iload_n 1, 1) := by decide +kernel
theorem dX4_hasFeud_1 : decode cX4_hasFeud 1 = .ok (.ifCond .lt 35, 3) := by decide +kernel
theorem dX4_hasFeud_4 : decode cX4_hasFeud 4 = .ok (.iload_n 1, 1) := by decide +kernel
theorem dX4_hasFeud_5 : decode cX4_hasFeud 5 = .ok (.iconst 4, 1) := by decide +kernel
theorem dX4_hasFeud_6 : decode cX4_hasFeud 6 = .ok (.if_icmp .ge 30, 3) := by decide +kernel
theorem dX4_hasFeud_9 : decode cX4_hasFeud 9 = .ok (.iload_n 2, 1) := by decide +kernel
theorem dX4_hasFeud_10 : decode cX4_hasFeud 10 = .ok (.ifCond .lt 26, 3) := by decide +kernel
theorem dX4_hasFeud_13 : decode cX4_hasFeud 13 = .ok (.iload_n 2, 1) := by decide +kernel
theorem dX4_hasFeud_14 : decode cX4_hasFeud 14 = .ok (.iconst 4, 1) := by decide +kernel
theorem dX4_hasFeud_15 : decode cX4_hasFeud 15 = .ok (.if_icmp .ge 21, 3) := by decide +kernel
theorem dX4_hasFeud_18 : decode cX4_hasFeud 18 = .ok (.aload_n 0, 1) := by decide +kernel
theorem dX4_hasFeud_19 : decode cX4_hasFeud 19 = .ok (.getfield 52, 3) := by decide +kernel
theorem dX4_hasFeud_22 : decode cX4_hasFeud 22 = .ok (.iload_n 1, 1) := by decide +kernel
theorem dX4_hasFeud_23 : decode cX4_hasFeud 23 = .ok (.iaload, 1) := by decide +kernel
theorem dX4_hasFeud_24 : decode cX4_hasFeud 24 = .ok (.iload_n 2, 1) := by decide +kernel
theorem dX4_hasFeud_25 : decode cX4_hasFeud 25 = .ok (.ishr, 1) := by decide +kernel
theorem dX4_hasFeud_26 : decode cX4_hasFeud 26 = .ok (.iconst 1, 1) := by decide +kernel
theorem dX4_hasFeud_27 : decode cX4_hasFeud 27 = .ok (.iand, 1) := by decide +kernel
theorem dX4_hasFeud_28 : decode cX4_hasFeud 28 = .ok (.iconst 1, 1) := by decide +kernel
theorem dX4_hasFeud_29 : decode cX4_hasFeud 29 = .ok (.if_icmp .ne 7, 3) := by decide +kernel
theorem dX4_hasFeud_32 : decode cX4_hasFeud 32 = .ok (.iconst 1, 1) := by decide +kernel
theorem dX4_hasFeud_33 : decode cX4_hasFeud 33 = .ok (.goto 4, 3) := by decide +kernel
theorem dX4_hasFeud_36 : decode cX4_hasFeud 36 = .ok (.iconst 0, 1) := by decide +kernel
theorem dX4_hasFeud_37 : decode cX4_hasFeud 37 = .ok (.ireturn, 1) := by decide +kernel
theorem dX4_dwellers_0 : decode cX4_dwellers 0 = .ok (.iconst 0, 1) := by decide +kernel
theorem dX4_dwellers_1 : decode cX4_dwellers 1 = .ok (.istore_n 2, 1) := by decide +kernel
theorem dX4_dwellers_2 : decode cX4_dwellers 2 = .ok (.iconst 0, 1) := by decide +kernel
theorem dX4_dwellers_3 : decode cX4_dwellers 3 = .ok (.istore_n 3, 1) := by decide +kernel
theorem dX4_dwellers_4 : decode cX4_dwellers 4 = .ok (.iload_n 3, 1) := by decide +kernel
theorem dX4_dwellers_5 : decode cX4_dwellers 5 = .ok (.aload_n 0, 1) := by decide +kernel
theorem dX4_dwellers_6 : decode cX4_dwellers 6 = .ok (.getfield 18, 3) := by decide +kernel
theorem dX4_dwellers_9 : decode cX4_dwellers 9 = .ok (.if_icmp .ge 22, 3) := by decide +kernel
theorem dX4_dwellers_12 : decode cX4_dwellers 12 = .ok (.aload_n 0, 1) := by decide +kernel
theorem dX4_dwellers_13 : decode cX4_dwellers 13 = .ok (.getfield 49, 3) := by decide +kernel
theorem dX4_dwellers_16 : decode cX4_dwellers 16 = .ok (.iload_n 3, 1) := by decide +kernel
theorem dX4_dwellers_17 : decode cX4_dwellers 17 = .ok (.iaload, 1) := by decide +kernel
theorem dX4_dwellers_18 : decode cX4_dwellers 18 = .ok (.iload_n 1, 1) := by decide +kernel
theorem dX4_dwellers_19 : decode cX4_dwellers 19 = .ok (.if_icmp .ne 6, 3) := by decide +kernel
theorem dX4_dwellers_22 : decode cX4_dwellers 22 = .ok (.iinc 2 1, 3) := by decide +kernel
theorem dX4_dwellers_25 : decode cX4_dwellers 25 = .ok (.iinc 3 1, 3) := by decide +kernel
theorem dX4_dwellers_28 : decode cX4_dwellers 28 = .ok (.goto (-24), 3) := by decide +kernel
theorem dX4_dwellers_31 : decode cX4_dwellers 31 = .ok (.iload_n 2, 1) := by decide +kernel
theorem dX4_dwellers_32 : decode cX4_dwellers 32 = .ok (.ireturn, 1) := by decide +kernel
theorem dX4_dwellerBits_0 : decode cX4_dwellerBits 0 = .ok (.iconst 0, 1) := by decide +kernel
theorem dX4_dwellerBits_1 : decode cX4_dwellerBits 1 = .ok (.istore_n 2, 1) := by decide +kernel
theorem dX4_dwellerBits_2 : decode cX4_dwellerBits 2 = .ok (.iconst 0, 1) := by decide +kernel
theorem dX4_dwellerBits_3 : decode cX4_dwellerBits 3 = .ok (.istore_n 3, 1) := by decide +kernel
theorem dX4_dwellerBits_4 : decode cX4_dwellerBits 4 = .ok (.iload_n 3, 1) := by decide +kernel
theorem dX4_dwellerBits_5 : decode cX4_dwellerBits 5 = .ok (.aload_n 0, 1) := by decide +kernel
theorem dX4_dwellerBits_6 : decode cX4_dwellerBits 6 = .ok (.getfield 18, 3) := by decide +kernel
theorem dX4_dwellerBits_9 : decode cX4_dwellerBits 9 = .ok (.if_icmp .ge 25, 3) := by decide +kernel
theorem dX4_dwellerBits_12 : decode cX4_dwellerBits 12 = .ok (.aload_n 0, 1) := by decide +kernel
theorem dX4_dwellerBits_13 : decode cX4_dwellerBits 13 = .ok (.getfield 49, 3) := by decide +kernel
theorem dX4_dwellerBits_16 : decode cX4_dwellerBits 16 = .ok (.iload_n 3, 1) := by decide +kernel
theorem dX4_dwellerBits_17 : decode cX4_dwellerBits 17 = .ok (.iaload, 1) := by decide +kernel
theorem dX4_dwellerBits_18 : decode cX4_dwellerBits 18 = .ok (.iload_n 1, 1) := by decide +kernel
theorem dX4_dwellerBits_19 : decode cX4_dwellerBits 19 = .ok (.if_icmp .ne 9, 3) := by decide +kernel
theorem dX4_dwellerBits_22 : decode cX4_dwellerBits 22 = .ok (.iload_n 2, 1) := by decide +kernel
theorem dX4_dwellerBits_23 : decode cX4_dwellerBits 23 = .ok (.iconst 1, 1) := by decide +kernel
theorem dX4_dwellerBits_24 : decode cX4_dwellerBits 24 = .ok (.iload_n 3, 1) := by decide +kernel
theorem dX4_dwellerBits_25 : decode cX4_dwellerBits 25 = .ok (.ishl, 1) := by decide +kernel
theorem dX4_dwellerBits_26 : decode cX4_dwellerBits 26 = .ok (.ior, 1) := by decide +kernel
theorem dX4_dwellerBits_27 : decode cX4_dwellerBits 27 = .ok (.istore_n 2, 1) := by decide +kernel
theorem dX4_dwellerBits_28 : decode cX4_dwellerBits 28 = .ok (.iinc 3 1, 3) := by decide +kernel
theorem dX4_dwellerBits_31 : decode cX4_dwellerBits 31 = .ok (.goto (-27), 3) := by decide +kernel
theorem dX4_dwellerBits_34 : decode cX4_dwellerBits 34 = .ok (.iload_n 2, 1) := by decide +kernel
theorem dX4_dwellerBits_35 : decode cX4_dwellerBits 35 = .ok (.ireturn, 1) := by decide +kernel
theorem dX4_isOverfull_0 : decode cX4_isOverfull 0 = .ok (.aload_n 0, 1) := by decide +kernel
theorem dX4_isOverfull_1 : decode cX4_isOverfull 1 = .ok (.iload_n 1, 1) := by decide +kernel
theorem dX4_isOverfull_2 : decode cX4_isOverfull 2 = .ok (.invokevirtual 79, 3) := by decide +kernel
theorem dX4_isOverfull_5 : decode cX4_isOverfull 5 = .ok (.ifCond .eq 21, 3) := by decide +kernel
theorem dX4_isOverfull_8 : decode cX4_isOverfull 8 = .ok (.aload_n 0, 1) := by decide +kernel
theorem dX4_isOverfull_9 : decode cX4_isOverfull 9 = .ok (.iload_n 1, 1) := by decide +kernel
theorem dX4_isOverfull_10 : decode cX4_isOverfull 10 = .ok (.invokevirtual 85, 3) := by decide +kernel
theorem dX4_isOverfull_13 : decode cX4_isOverfull 13 = .ok (.aload_n 0, 1) := by decide +kernel
theorem dX4_isOverfull_14 : decode cX4_isOverfull 14 = .ok (.getfield 24, 3) := by decide +kernel
theorem dX4_isOverfull_17 : decode cX4_isOverfull 17 = .ok (.iload_n 1, 1) := by decide +kernel
theorem dX4_isOverfull_18 : decode cX4_isOverfull 18 = .ok (.iaload, 1) := by decide +kernel
theorem dX4_isOverfull_19 : decode cX4_isOverfull 19 = .ok (.if_icmp .le 7, 3) := by decide +kernel
theorem dX4_isOverfull_22 : decode cX4_isOverfull 22 = .ok (.iconst 1, 1) := by decide +kernel
theorem dX4_isOverfull_23 : decode cX4_isOverfull 23 = .ok (.goto 4, 3) := by decide +kernel
theorem dX4_isOverfull_26 : decode cX4_isOverfull 26 = .ok (.iconst 0, 1) := by decide +kernel
theorem dX4_isOverfull_27 : decode cX4_isOverfull 27 = .ok (.ireturn, 1) := by decide +kernel
theorem dX4_firstOverfull_0 : decode cX4_firstOverfull 0 = .ok (.iconst 0, 1) := by decide +kernel
theorem dX4_firstOverfull_1 : decode cX4_firstOverfull 1 = .ok (.istore_n 1, 1) := by decide +kernel
theorem dX4_firstOverfull_2 : decode cX4_firstOverfull 2 = .ok (.iload_n 1, 1) := by decide +kernel
theorem dX4_firstOverfull_3 : decode cX4_firstOverfull 3 = .ok (.aload_n 0, 1) := by decide +kernel
theorem dX4_firstOverfull_4 : decode cX4_firstOverfull 4 = .ok (.getfield 9, 3) := by decide +kernel
theorem dX4_firstOverfull_7 : decode cX4_firstOverfull 7 = .ok (.if_icmp .ge 19, 3) := by decide +kernel
theorem dX4_firstOverfull_10 : decode cX4_firstOverfull 10 = .ok (.aload_n 0, 1) := by decide +kernel
theorem dX4_firstOverfull_11 : decode cX4_firstOverfull 11 = .ok (.iload_n 1, 1) := by decide +kernel
theorem dX4_firstOverfull_12 : decode cX4_firstOverfull 12 = .ok (.invokevirtual 89, 3) := by decide +kernel
theorem dX4_firstOverfull_15 : decode cX4_firstOverfull 15 = .ok (.ifCond .eq 5, 3) := by decide +kernel
theorem dX4_firstOverfull_18 : decode cX4_firstOverfull 18 = .ok (.iload_n 1, 1) := by decide +kernel
theorem dX4_firstOverfull_19 : decode cX4_firstOverfull 19 = .ok (.ireturn, 1) := by decide +kernel
theorem dX4_firstOverfull_20 : decode cX4_firstOverfull 20 = .ok (.iinc 1 1, 3) := by decide +kernel
theorem dX4_firstOverfull_23 : decode cX4_firstOverfull 23 = .ok (.goto (-21), 3) := by decide +kernel
theorem dX4_firstOverfull_26 : decode cX4_firstOverfull 26 = .ok (.iconst (-1), 1) := by decide +kernel
theorem dX4_firstOverfull_27 : decode cX4_firstOverfull 27 = .ok (.ireturn, 1) := by decide +kernel
theorem dX4_nthStanding_0 : decode cX4_nthStanding 0 = .ok (.iconst 0, 1) := by decide +kernel
theorem dX4_nthStanding_1 : decode cX4_nthStanding 1 = .ok (.istore_n 2, 1) := by decide +kernel
theorem dX4_nthStanding_2 : decode cX4_nthStanding 2 = .ok (.iconst 0, 1) := by decide +kernel
theorem dX4_nthStanding_3 : decode cX4_nthStanding 3 = .ok (.istore_n 3, 1) := by decide +kernel
theorem dX4_nthStanding_4 : decode cX4_nthStanding 4 = .ok (.iload_n 3, 1) := by decide +kernel
theorem dX4_nthStanding_5 : decode cX4_nthStanding 5 = .ok (.aload_n 0, 1) := by decide +kernel
theorem dX4_nthStanding_6 : decode cX4_nthStanding 6 = .ok (.getfield 9, 3) := by decide +kernel
theorem dX4_nthStanding_9 : decode cX4_nthStanding 9 = .ok (.if_icmp .ge 27, 3) := by decide +kernel
theorem dX4_nthStanding_12 : decode cX4_nthStanding 12 = .ok (.aload_n 0, 1) := by decide +kernel
theorem dX4_nthStanding_13 : decode cX4_nthStanding 13 = .ok (.iload_n 3, 1) := by decide +kernel
theorem dX4_nthStanding_14 : decode cX4_nthStanding 14 = .ok (.invokevirtual 79, 3) := by decide +kernel
theorem dX4_nthStanding_17 : decode cX4_nthStanding 17 = .ok (.ifCond .eq 13, 3) := by decide +kernel
theorem dX4_nthStanding_20 : decode cX4_nthStanding 20 = .ok (.iload_n 2, 1) := by decide +kernel
theorem dX4_nthStanding_21 : decode cX4_nthStanding 21 = .ok (.iload_n 1, 1) := by decide +kernel
theorem dX4_nthStanding_22 : decode cX4_nthStanding 22 = .ok (.if_icmp .ne 5, 3) := by decide +kernel
theorem dX4_nthStanding_25 : decode cX4_nthStanding 25 = .ok (.iload_n 3, 1) := by decide +kernel
theorem dX4_nthStanding_26 : decode cX4_nthStanding 26 = .ok (.ireturn, 1) := by decide +kernel
theorem dX4_nthStanding_27 : decode cX4_nthStanding 27 = .ok (.iinc 2 1, 3) := by decide +kernel
theorem dX4_nthStanding_30 : decode cX4_nthStanding 30 = .ok (.iinc 3 1, 3) := by decide +kernel
theorem dX4_nthStanding_33 : decode cX4_nthStanding 33 = .ok (.goto (-29), 3) := by decide +kernel
theorem dX4_nthStanding_36 : decode cX4_nthStanding 36 = .ok (.iconst (-1), 1) := by decide +kernel
theorem dX4_nthStanding_37 : decode cX4_nthStanding 37 = .ok (.ireturn, 1) := by decide +kernel
theorem dX4_wallsInAll_0 : decode cX4_wallsInAll 0 = .ok (.iconst 0, 1) := by decide +kernel
theorem dX4_wallsInAll_1 : decode cX4_wallsInAll 1 = .ok (.istore_n 1, 1) := by decide +kernel
theorem dX4_wallsInAll_2 : decode cX4_wallsInAll 2 = .ok (.iconst 0, 1) := by decide +kernel
theorem dX4_wallsInAll_3 : decode cX4_wallsInAll 3 = .ok (.istore_n 2, 1) := by decide +kernel
theorem dX4_wallsInAll_4 : decode cX4_wallsInAll 4 = .ok (.iload_n 2, 1) := by decide +kernel
theorem dX4_wallsInAll_5 : decode cX4_wallsInAll 5 = .ok (.aload_n 0, 1) := by decide +kernel
theorem dX4_wallsInAll_6 : decode cX4_wallsInAll 6 = .ok (.getfield 9, 3) := by decide +kernel
theorem dX4_wallsInAll_9 : decode cX4_wallsInAll 9 = .ok (.if_icmp .ge 21, 3) := by decide +kernel
theorem dX4_wallsInAll_12 : decode cX4_wallsInAll 12 = .ok (.iload_n 1, 1) := by decide +kernel
theorem dX4_wallsInAll_13 : decode cX4_wallsInAll 13 = .ok (.aload_n 0, 1) := by decide +kernel
theorem dX4_wallsInAll_14 : decode cX4_wallsInAll 14 = .ok (.getfield 43, 3) := by decide +kernel
theorem dX4_wallsInAll_17 : decode cX4_wallsInAll 17 = .ok (.iload_n 2, 1) := by decide +kernel
theorem dX4_wallsInAll_18 : decode cX4_wallsInAll 18 = .ok (.iaload, 1) := by decide +kernel
theorem dX4_wallsInAll_19 : decode cX4_wallsInAll 19 = .ok (.invokestatic 92, 3) := by decide +kernel
theorem dX4_wallsInAll_22 : decode cX4_wallsInAll 22 = .ok (.iadd, 1) := by decide +kernel
theorem dX4_wallsInAll_23 : decode cX4_wallsInAll 23 = .ok (.istore_n 1, 1) := by decide +kernel
theorem dX4_wallsInAll_24 : decode cX4_wallsInAll 24 = .ok (.iinc 2 1, 3) := by decide +kernel
theorem dX4_wallsInAll_27 : decode cX4_wallsInAll 27 = .ok (.goto (-23), 3) := by decide +kernel
theorem dX4_wallsInAll_30 : decode cX4_wallsInAll 30 = .ok (.iload_n 1, 1) := by decide +kernel
theorem dX4_wallsInAll_31 : decode cX4_wallsInAll 31 = .ok (.iconst 2, 1) := by decide +kernel
theorem dX4_wallsInAll_32 : decode cX4_wallsInAll 32 = .ok (.idiv, 1) := by decide +kernel
theorem dX4_wallsInAll_33 : decode cX4_wallsInAll 33 = .ok (.ireturn, 1) := by decide +kernel
theorem dX4_feudsInAll_0 : decode cX4_feudsInAll 0 = .ok (.iconst 0, 1) := by decide +kernel
theorem dX4_feudsInAll_1 : decode cX4_feudsInAll 1 = .ok (.istore_n 1, 1) := by decide +kernel
theorem dX4_feudsInAll_2 : decode cX4_feudsInAll 2 = .ok (.iconst 0, 1) := by decide +kernel
theorem dX4_feudsInAll_3 : decode cX4_feudsInAll 3 = .ok (.istore_n 2, 1) := by decide +kernel
theorem dX4_feudsInAll_4 : decode cX4_feudsInAll 4 = .ok (.iload_n 2, 1) := by decide +kernel
theorem dX4_feudsInAll_5 : decode cX4_feudsInAll 5 = .ok (.iconst 4, 1) := by decide +kernel
theorem dX4_feudsInAll_6 : decode cX4_feudsInAll 6 = .ok (.if_icmp .ge 21, 3) := by decide +kernel
theorem dX4_feudsInAll_9 : decode cX4_feudsInAll 9 = .ok (.iload_n 1, 1) := by decide +kernel
theorem dX4_feudsInAll_10 : decode cX4_feudsInAll 10 = .ok (.aload_n 0, 1) := by decide +kernel
theorem dX4_feudsInAll_11 : decode cX4_feudsInAll 11 = .ok (.getfield 52, 3) := by decide +kernel
theorem dX4_feudsInAll_14 : decode cX4_feudsInAll 14 = .ok (.iload_n 2, 1) := by decide +kernel
theorem dX4_feudsInAll_15 : decode cX4_feudsInAll 15 = .ok (.iaload, 1) := by decide +kernel
theorem dX4_feudsInAll_16 : decode cX4_feudsInAll 16 = .ok (.invokestatic 92, 3) := by decide +kernel
theorem dX4_feudsInAll_19 : decode cX4_feudsInAll 19 = .ok (.iadd, 1) := by decide +kernel
theorem dX4_feudsInAll_20 : decode cX4_feudsInAll 20 = .ok (.istore_n 1, 1) := by decide +kernel
theorem dX4_feudsInAll_21 : decode cX4_feudsInAll 21 = .ok (.iinc 2 1, 3) := by decide +kernel
theorem dX4_feudsInAll_24 : decode cX4_feudsInAll 24 = .ok (.goto (-20), 3) := by decide +kernel
theorem dX4_feudsInAll_27 : decode cX4_feudsInAll 27 = .ok (.iload_n 1, 1) := by decide +kernel
theorem dX4_feudsInAll_28 : decode cX4_feudsInAll 28 = .ok (.iconst 2, 1) := by decide +kernel
theorem dX4_feudsInAll_29 : decode cX4_feudsInAll 29 = .ok (.idiv, 1) := by decide +kernel
theorem dX4_feudsInAll_30 : decode cX4_feudsInAll 30 = .ok (.ireturn, 1) := by decide +kernel
theorem dX4_kinBits_0 : decode cX4_kinBits 0 = .ok (.aload_n 0, 1) := by decide +kernel
theorem dX4_kinBits_1 : decode cX4_kinBits 1 = .ok (.getfield 15, 3) := by decide +kernel
theorem dX4_kinBits_4 : decode cX4_kinBits 4 = .ok (.iload_n 1, 1) := by decide +kernel
theorem dX4_kinBits_5 : decode cX4_kinBits 5 = .ok (.ishr, 1) := by decide +kernel
theorem dX4_kinBits_6 : decode cX4_kinBits 6 = .ok (.iconst 1, 1) := by decide +kernel
theorem dX4_kinBits_7 : decode cX4_kinBits 7 = .ok (.iand, 1) := by decide +kernel
theorem dX4_kinBits_8 : decode cX4_kinBits 8 = .ok (.iconst 1, 1) := by decide +kernel
theorem dX4_kinBits_9 : decode cX4_kinBits 9 = .ok (.if_icmp .ne 17, 3) := by decide +kernel
theorem dX4_kinBits_12 : decode cX4_kinBits 12 = .ok (.aload_n 0, 1) := by decide +kernel
theorem dX4_kinBits_13 : decode cX4_kinBits 13 = .ok (.getfield 43, 3) := by decide +kernel
theorem dX4_kinBits_16 : decode cX4_kinBits 16 = .ok (.iload_n 1, 1) := by decide +kernel
theorem dX4_kinBits_17 : decode cX4_kinBits 17 = .ok (.iaload, 1) := by decide +kernel
theorem dX4_kinBits_18 : decode cX4_kinBits 18 = .ok (.aload_n 0, 1) := by decide +kernel
theorem dX4_kinBits_19 : decode cX4_kinBits 19 = .ok (.getfield 15, 3) := by decide +kernel
theorem dX4_kinBits_22 : decode cX4_kinBits 22 = .ok (.iand, 1) := by decide +kernel
theorem dX4_kinBits_23 : decode cX4_kinBits 23 = .ok (.goto 4, 3) := by decide +kernel
theorem dX4_kinBits_26 : decode cX4_kinBits 26 = .ok (.iconst 0, 1) := by decide +kernel
theorem dX4_kinBits_27 : decode cX4_kinBits 27 = .ok (.istore_n 2, 1) := by decide +kernel
theorem dX4_kinBits_28 : decode cX4_kinBits 28 = .ok (.iconst 0, 1) := by decide +kernel
theorem dX4_kinBits_29 : decode cX4_kinBits 29 = .ok (.istore_n 3, 1) := by decide +kernel
theorem dX4_kinBits_30 : decode cX4_kinBits 30 = .ok (.iload_n 3, 1) := by decide +kernel
theorem dX4_kinBits_31 : decode cX4_kinBits 31 = .ok (.aload_n 0, 1) := by decide +kernel
theorem dX4_kinBits_32 : decode cX4_kinBits 32 = .ok (.getfield 9, 3) := by decide +kernel
theorem dX4_kinBits_35 : decode cX4_kinBits 35 = .ok (.if_icmp .ge 35, 3) := by decide +kernel
theorem dX4_kinBits_38 : decode cX4_kinBits 38 = .ok (.aload_n 0, 1) := by decide +kernel
theorem dX4_kinBits_39 : decode cX4_kinBits 39 = .ok (.getfield 34, 3) := by decide +kernel
theorem dX4_kinBits_42 : decode cX4_kinBits 42 = .ok (.iload_n 3, 1) := by decide +kernel
theorem dX4_kinBits_43 : decode cX4_kinBits 43 = .ok (.iaload, 1) := by decide +kernel
theorem dX4_kinBits_44 : decode cX4_kinBits 44 = .ok (.iload_n 1, 1) := by decide +kernel
theorem dX4_kinBits_45 : decode cX4_kinBits 45 = .ok (.if_icmp .eq 13, 3) := by decide +kernel
theorem dX4_kinBits_48 : decode cX4_kinBits 48 = .ok (.aload_n 0, 1) := by decide +kernel
theorem dX4_kinBits_49 : decode cX4_kinBits 49 = .ok (.getfield 34, 3) := by decide +kernel
theorem dX4_kinBits_52 : decode cX4_kinBits 52 = .ok (.iload_n 1, 1) := by decide +kernel
theorem dX4_kinBits_53 : decode cX4_kinBits 53 = .ok (.iaload, 1) := by decide +kernel
theorem dX4_kinBits_54 : decode cX4_kinBits 54 = .ok (.iload_n 3, 1) := by decide +kernel
theorem dX4_kinBits_55 : decode cX4_kinBits 55 = .ok (.if_icmp .ne 9, 3) := by decide +kernel
theorem dX4_kinBits_58 : decode cX4_kinBits 58 = .ok (.iload_n 2, 1) := by decide +kernel
theorem dX4_kinBits_59 : decode cX4_kinBits 59 = .ok (.iconst 1, 1) := by decide +kernel
theorem dX4_kinBits_60 : decode cX4_kinBits 60 = .ok (.iload_n 3, 1) := by decide +kernel
theorem dX4_kinBits_61 : decode cX4_kinBits 61 = .ok (.ishl, 1) := by decide +kernel
theorem dX4_kinBits_62 : decode cX4_kinBits 62 = .ok (.ior, 1) := by decide +kernel
theorem dX4_kinBits_63 : decode cX4_kinBits 63 = .ok (.istore_n 2, 1) := by decide +kernel
theorem dX4_kinBits_64 : decode cX4_kinBits 64 = .ok (.iinc 3 1, 3) := by decide +kernel
theorem dX4_kinBits_67 : decode cX4_kinBits 67 = .ok (.goto (-37), 3) := by decide +kernel
theorem dX4_kinBits_70 : decode cX4_kinBits 70 = .ok (.iload_n 2, 1) := by decide +kernel
theorem dX4_kinBits_71 : decode cX4_kinBits 71 = .ok (.ireturn, 1) := by decide +kernel
theorem dX4_measureSteps_0 : decode cX4_measureSteps 0 = .ok (.iconst 0, 1) := by decide +kernel
theorem dX4_measureSteps_1 : decode cX4_measureSteps 1 = .ok (.istore_n 2, 1) := by decide +kernel
theorem dX4_measureSteps_2 : decode cX4_measureSteps 2 = .ok (.iload_n 2, 1) := by decide +kernel
theorem dX4_measureSteps_3 : decode cX4_measureSteps 3 = .ok (.iconst 5, 1) := by decide +kernel
theorem dX4_measureSteps_4 : decode cX4_measureSteps 4 = .ok (.if_icmp .ge 16, 3) := by decide +kernel
theorem dX4_measureSteps_7 : decode cX4_measureSteps 7 = .ok (.aload_n 0, 1) := by decide +kernel
theorem dX4_measureSteps_8 : decode cX4_measureSteps 8 = .ok (.getfield 55, 3) := by decide +kernel
theorem dX4_measureSteps_11 : decode cX4_measureSteps 11 = .ok (.iload_n 2, 1) := by decide +kernel
theorem dX4_measureSteps_12 : decode cX4_measureSteps 12 = .ok (.iconst (-1), 1) := by decide +kernel
theorem dX4_measureSteps_13 : decode cX4_measureSteps 13 = .ok (.iastore, 1) := by decide +kernel
theorem dX4_measureSteps_14 : decode cX4_measureSteps 14 = .ok (.iinc 2 1, 3) := by decide +kernel
theorem dX4_measureSteps_17 : decode cX4_measureSteps 17 = .ok (.goto (-15), 3) := by decide +kernel
theorem dX4_measureSteps_20 : decode cX4_measureSteps 20 = .ok (.iconst 1, 1) := by decide +kernel
theorem dX4_measureSteps_21 : decode cX4_measureSteps 21 = .ok (.iload_n 1, 1) := by decide +kernel
theorem dX4_measureSteps_22 : decode cX4_measureSteps 22 = .ok (.ishl, 1) := by decide +kernel
theorem dX4_measureSteps_23 : decode cX4_measureSteps 23 = .ok (.istore_n 2, 1) := by decide +kernel
theorem dX4_measureSteps_24 : decode cX4_measureSteps 24 = .ok (.iload_n 2, 1) := by decide +kernel
theorem dX4_measureSteps_25 : decode cX4_measureSteps 25 = .ok (.istore_n 3, 1) := by decide +kernel
theorem dX4_measureSteps_26 : decode cX4_measureSteps 26 = .ok (.iconst 0, 1) := by decide +kernel
theorem dX4_measureSteps_27 : decode cX4_measureSteps 27 = .ok (.istore 4, 2) := by decide +kernel
theorem dX4_measureSteps_29 : decode cX4_measureSteps 29 = .ok (.iload 4, 2) := by decide +kernel
theorem dX4_measureSteps_31 : decode cX4_measureSteps 31 = .ok (.iconst 5, 1) := by decide +kernel
theorem dX4_measureSteps_32 : decode cX4_measureSteps 32 = .ok (.if_icmp .ge 76, 3) := by decide +kernel
theorem dX4_measureSteps_35 : decode cX4_measureSteps 35 = .ok (.iload_n 3, 1) := by decide +kernel
theorem dX4_measureSteps_36 : decode cX4_measureSteps 36 = .ok (.ifCond .eq 72, 3) := by decide +kernel
theorem dX4_measureSteps_39 : decode cX4_measureSteps 39 = .ok (.iconst 0, 1) := by decide +kernel
theorem dX4_measureSteps_40 : decode cX4_measureSteps 40 = .ok (.istore 5, 2) := by decide +kernel
theorem dX4_measureSteps_42 : decode cX4_measureSteps 42 = .ok (.iconst 0, 1) := by decide +kernel
theorem dX4_measureSteps_43 : decode cX4_measureSteps 43 = .ok (.istore 6, 2) := by decide +kernel
theorem dX4_measureSteps_45 : decode cX4_measureSteps 45 = .ok (.iload 6, 2) := by decide +kernel
theorem dX4_measureSteps_47 : decode cX4_measureSteps 47 = .ok (.aload_n 0, 1) := by decide +kernel
theorem dX4_measureSteps_48 : decode cX4_measureSteps 48 = .ok (.getfield 9, 3) := by decide +kernel
theorem dX4_measureSteps_51 : decode cX4_measureSteps 51 = .ok (.if_icmp .ge 39, 3) := by decide +kernel
theorem dX4_measureSteps_54 : decode cX4_measureSteps 54 = .ok (.iload_n 3, 1) := by decide +kernel
theorem dX4_measureSteps_55 : decode cX4_measureSteps 55 = .ok (.iload 6, 2) := by decide +kernel
theorem dX4_measureSteps_57 : decode cX4_measureSteps 57 = .ok (.ishr, 1) := by decide +kernel
theorem dX4_measureSteps_58 : decode cX4_measureSteps 58 = .ok (.iconst 1, 1) := by decide +kernel
theorem dX4_measureSteps_59 : decode cX4_measureSteps 59 = .ok (.iand, 1) := by decide +kernel
theorem dX4_measureSteps_60 : decode cX4_measureSteps 60 = .ok (.iconst 1, 1) := by decide +kernel
theorem dX4_measureSteps_61 : decode cX4_measureSteps 61 = .ok (.if_icmp .ne 23, 3) := by decide +kernel
theorem dX4_measureSteps_64 : decode cX4_measureSteps 64 = .ok (.aload_n 0, 1) := by decide +kernel
theorem dX4_measureSteps_65 : decode cX4_measureSteps 65 = .ok (.getfield 55, 3) := by decide +kernel
theorem dX4_measureSteps_68 : decode cX4_measureSteps 68 = .ok (.iload 6, 2) := by decide +kernel
theorem dX4_measureSteps_70 : decode cX4_measureSteps 70 = .ok (.iload 4, 2) := by decide +kernel
theorem dX4_measureSteps_72 : decode cX4_measureSteps 72 = .ok (.iastore, 1) := by decide +kernel
theorem dX4_measureSteps_73 : decode cX4_measureSteps 73 = .ok (.iload 5, 2) := by decide +kernel
theorem dX4_measureSteps_75 : decode cX4_measureSteps 75 = .ok (.aload_n 0, 1) := by decide +kernel
theorem dX4_measureSteps_76 : decode cX4_measureSteps 76 = .ok (.iload 6, 2) := by decide +kernel
theorem dX4_measureSteps_78 : decode cX4_measureSteps 78 = .ok (.invokevirtual 97, 3) := by decide +kernel
theorem dX4_measureSteps_81 : decode cX4_measureSteps 81 = .ok (.ior, 1) := by decide +kernel
theorem dX4_measureSteps_82 : decode cX4_measureSteps 82 = .ok (.istore 5, 2) := by decide +kernel
theorem dX4_measureSteps_84 : decode cX4_measureSteps 84 = .ok (.iinc 6 1, 3) := by decide +kernel
theorem dX4_measureSteps_87 : decode cX4_measureSteps 87 = .ok (.goto (-42), 3) := by decide +kernel
theorem dX4_measureSteps_90 : decode cX4_measureSteps 90 = .ok (.iload 5, 2) := by decide +kernel
theorem dX4_measureSteps_92 : decode cX4_measureSteps 92 = .ok (.iload_n 2, 1) := by decide +kernel
theorem dX4_measureSteps_93 : decode cX4_measureSteps 93 = .ok (.iconst (-1), 1) := by decide +kernel
theorem dX4_measureSteps_94 : decode cX4_measureSteps 94 = .ok (.ixor, 1) := by decide +kernel
theorem dX4_measureSteps_95 : decode cX4_measureSteps 95 = .ok (.iand, 1) := by decide +kernel
theorem dX4_measureSteps_96 : decode cX4_measureSteps 96 = .ok (.istore_n 3, 1) := by decide +kernel
theorem dX4_measureSteps_97 : decode cX4_measureSteps 97 = .ok (.iload_n 2, 1) := by decide +kernel
theorem dX4_measureSteps_98 : decode cX4_measureSteps 98 = .ok (.iload 5, 2) := by decide +kernel
theorem dX4_measureSteps_100 : decode cX4_measureSteps 100 = .ok (.ior, 1) := by decide +kernel
theorem dX4_measureSteps_101 : decode cX4_measureSteps 101 = .ok (.istore_n 2, 1) := by decide +kernel
theorem dX4_measureSteps_102 : decode cX4_measureSteps 102 = .ok (.iinc 4 1, 3) := by decide +kernel
theorem dX4_measureSteps_105 : decode cX4_measureSteps 105 = .ok (.goto (-76), 3) := by decide +kernel
theorem dX4_measureSteps_108 : decode cX4_measureSteps 108 = .ok (.return_, 1) := by decide +kernel
theorem dX4_measureDwellers_0 : decode cX4_measureDwellers 0 = .ok (.iconst 0, 1) := by decide +kernel
theorem dX4_measureDwellers_1 : decode cX4_measureDwellers 1 = .ok (.istore_n 1, 1) := by decide +kernel
theorem dX4_measureDwellers_2 : decode cX4_measureDwellers 2 = .ok (.iload_n 1, 1) := by decide +kernel
theorem dX4_measureDwellers_3 : decode cX4_measureDwellers 3 = .ok (.iconst 5, 1) := by decide +kernel
theorem dX4_measureDwellers_4 : decode cX4_measureDwellers 4 = .ok (.if_icmp .ge 23, 3) := by decide +kernel
theorem dX4_measureDwellers_7 : decode cX4_measureDwellers 7 = .ok (.aload_n 0, 1) := by decide +kernel
theorem dX4_measureDwellers_8 : decode cX4_measureDwellers 8 = .ok (.getfield 58, 3) := by decide +kernel
theorem dX4_measureDwellers_11 : decode cX4_measureDwellers 11 = .ok (.iload_n 1, 1) := by decide +kernel
theorem dX4_measureDwellers_12 : decode cX4_measureDwellers 12 = .ok (.iconst 0, 1) := by decide +kernel
theorem dX4_measureDwellers_13 : decode cX4_measureDwellers 13 = .ok (.iastore, 1) := by decide +kernel
theorem dX4_measureDwellers_14 : decode cX4_measureDwellers 14 = .ok (.aload_n 0, 1) := by decide +kernel
theorem dX4_measureDwellers_15 : decode cX4_measureDwellers 15 = .ok (.getfield 61, 3) := by decide +kernel
theorem dX4_measureDwellers_18 : decode cX4_measureDwellers 18 = .ok (.iload_n 1, 1) := by decide +kernel
theorem dX4_measureDwellers_19 : decode cX4_measureDwellers 19 = .ok (.iconst 0, 1) := by decide +kernel
theorem dX4_measureDwellers_20 : decode cX4_measureDwellers 20 = .ok (.iastore, 1) := by decide +kernel
theorem dX4_measureDwellers_21 : decode cX4_measureDwellers 21 = .ok (.iinc 1 1, 3) := by decide +kernel
theorem dX4_measureDwellers_24 : decode cX4_measureDwellers 24 = .ok (.goto (-22), 3) := by decide +kernel
theorem dX4_measureDwellers_27 : decode cX4_measureDwellers 27 = .ok (.iconst 0, 1) := by decide +kernel
theorem dX4_measureDwellers_28 : decode cX4_measureDwellers 28 = .ok (.istore_n 1, 1) := by decide +kernel
theorem dX4_measureDwellers_29 : decode cX4_measureDwellers 29 = .ok (.iload_n 1, 1) := by decide +kernel
theorem dX4_measureDwellers_30 : decode cX4_measureDwellers 30 = .ok (.aload_n 0, 1) := by decide +kernel
theorem dX4_measureDwellers_31 : decode cX4_measureDwellers 31 = .ok (.getfield 18, 3) := by decide +kernel
theorem dX4_measureDwellers_34 : decode cX4_measureDwellers 34 = .ok (.if_icmp .ge 51, 3) := by decide +kernel
theorem dX4_measureDwellers_37 : decode cX4_measureDwellers 37 = .ok (.aload_n 0, 1) := by decide +kernel
theorem dX4_measureDwellers_38 : decode cX4_measureDwellers 38 = .ok (.getfield 49, 3) := by decide +kernel
theorem dX4_measureDwellers_41 : decode cX4_measureDwellers 41 = .ok (.iload_n 1, 1) := by decide +kernel
theorem dX4_measureDwellers_42 : decode cX4_measureDwellers 42 = .ok (.iaload, 1) := by decide +kernel
theorem dX4_measureDwellers_43 : decode cX4_measureDwellers 43 = .ok (.istore_n 2, 1) := by decide +kernel
theorem dX4_measureDwellers_44 : decode cX4_measureDwellers 44 = .ok (.aload_n 0, 1) := by decide +kernel
theorem dX4_measureDwellers_45 : decode cX4_measureDwellers 45 = .ok (.iload_n 2, 1) := by decide +kernel
theorem dX4_measureDwellers_46 : decode cX4_measureDwellers 46 = .ok (.invokevirtual 68, 3) := by decide +kernel
theorem dX4_measureDwellers_49 : decode cX4_measureDwellers 49 = .ok (.ifCond .eq 30, 3) := by decide +kernel
theorem dX4_measureDwellers_52 : decode cX4_measureDwellers 52 = .ok (.aload_n 0, 1) := by decide +kernel
theorem dX4_measureDwellers_53 : decode cX4_measureDwellers 53 = .ok (.getfield 58, 3) := by decide +kernel
theorem dX4_measureDwellers_56 : decode cX4_measureDwellers 56 = .ok (.iload_n 2, 1) := by decide +kernel
theorem dX4_measureDwellers_57 : decode cX4_measureDwellers 57 = .ok (.dup2, 1) := by decide +kernel
theorem dX4_measureDwellers_58 : decode cX4_measureDwellers 58 = .ok (.iaload, 1) := by decide +kernel
theorem dX4_measureDwellers_59 : decode cX4_measureDwellers 59 = .ok (.iconst 1, 1) := by decide +kernel
theorem dX4_measureDwellers_60 : decode cX4_measureDwellers 60 = .ok (.iadd, 1) := by decide +kernel
theorem dX4_measureDwellers_61 : decode cX4_measureDwellers 61 = .ok (.iastore, 1) := by decide +kernel
theorem dX4_measureDwellers_62 : decode cX4_measureDwellers 62 = .ok (.aload_n 0, 1) := by decide +kernel
theorem dX4_measureDwellers_63 : decode cX4_measureDwellers 63 = .ok (.getfield 61, 3) := by decide +kernel
theorem dX4_measureDwellers_66 : decode cX4_measureDwellers 66 = .ok (.iload_n 2, 1) := by decide +kernel
theorem dX4_measureDwellers_67 : decode cX4_measureDwellers 67 = .ok (.dup2, 1) := by decide +kernel
theorem dX4_measureDwellers_68 : decode cX4_measureDwellers 68 = .ok (.iaload, 1) := by decide +kernel
theorem dX4_measureDwellers_69 : decode cX4_measureDwellers 69 = .ok (.iconst 1, 1) := by decide +kernel
theorem dX4_measureDwellers_70 : decode cX4_measureDwellers 70 = .ok (.aload_n 0, 1) := by decide +kernel
theorem dX4_measureDwellers_71 : decode cX4_measureDwellers 71 = .ok (.getfield 46, 3) := by decide +kernel
theorem dX4_measureDwellers_74 : decode cX4_measureDwellers 74 = .ok (.iload_n 1, 1) := by decide +kernel
theorem dX4_measureDwellers_75 : decode cX4_measureDwellers 75 = .ok (.iaload, 1) := by decide +kernel
theorem dX4_measureDwellers_76 : decode cX4_measureDwellers 76 = .ok (.ishl, 1) := by decide +kernel
theorem dX4_measureDwellers_77 : decode cX4_measureDwellers 77 = .ok (.ior, 1) := by decide +kernel
theorem dX4_measureDwellers_78 : decode cX4_measureDwellers 78 = .ok (.iastore, 1) := by decide +kernel
theorem dX4_measureDwellers_79 : decode cX4_measureDwellers 79 = .ok (.iinc 1 1, 3) := by decide +kernel
theorem dX4_measureDwellers_82 : decode cX4_measureDwellers 82 = .ok (.goto (-53), 3) := by decide +kernel
theorem dX4_measureDwellers_85 : decode cX4_measureDwellers 85 = .ok (.return_, 1) := by decide +kernel
theorem dX4_degreeOf_0 : decode cX4_degreeOf 0 = .ok (.aload_n 0, 1) := by decide +kernel
theorem dX4_degreeOf_1 : decode cX4_degreeOf 1 = .ok (.iload_n 1, 1) := by decide +kernel
theorem dX4_degreeOf_2 : decode cX4_degreeOf 2 = .ok (.invokevirtual 68, 3) := by decide +kernel
theorem dX4_degreeOf_5 : decode cX4_degreeOf 5 = .ok (.ifCond .eq 11, 3) := by decide +kernel
theorem dX4_degreeOf_8 : decode cX4_degreeOf 8 = .ok (.aload_n 0, 1) := by decide +kernel
theorem dX4_degreeOf_9 : decode cX4_degreeOf 9 = .ok (.iload_n 2, 1) := by decide +kernel
theorem dX4_degreeOf_10 : decode cX4_degreeOf 10 = .ok (.invokevirtual 68, 3) := by decide +kernel
theorem dX4_degreeOf_13 : decode cX4_degreeOf 13 = .ok (.ifCond .ne 5, 3) := by decide +kernel
theorem dX4_degreeOf_16 : decode cX4_degreeOf 16 = .ok (.iconst (-1), 1) := by decide +kernel
theorem dX4_degreeOf_17 : decode cX4_degreeOf 17 = .ok (.ireturn, 1) := by decide +kernel
theorem dX4_degreeOf_18 : decode cX4_degreeOf 18 = .ok (.aload_n 0, 1) := by decide +kernel
theorem dX4_degreeOf_19 : decode cX4_degreeOf 19 = .ok (.iload_n 1, 1) := by decide +kernel
theorem dX4_degreeOf_20 : decode cX4_degreeOf 20 = .ok (.invokevirtual 100, 3) := by decide +kernel
theorem dX4_degreeOf_23 : decode cX4_degreeOf 23 = .ok (.aload_n 0, 1) := by decide +kernel
theorem dX4_degreeOf_24 : decode cX4_degreeOf 24 = .ok (.getfield 55, 3) := by decide +kernel
theorem dX4_degreeOf_27 : decode cX4_degreeOf 27 = .ok (.iload_n 2, 1) := by decide +kernel
theorem dX4_degreeOf_28 : decode cX4_degreeOf 28 = .ok (.iaload, 1) := by decide +kernel
theorem dX4_degreeOf_29 : decode cX4_degreeOf 29 = .ok (.ireturn, 1) := by decide +kernel
theorem dX4_rankOf_0 : decode cX4_rankOf 0 = .ok (.aload_n 0, 1) := by decide +kernel
theorem dX4_rankOf_1 : decode cX4_rankOf 1 = .ok (.iload_n 1, 1) := by decide +kernel
theorem dX4_rankOf_2 : decode cX4_rankOf 2 = .ok (.invokevirtual 79, 3) := by decide +kernel
theorem dX4_rankOf_5 : decode cX4_rankOf 5 = .ok (.ifCond .eq 11, 3) := by decide +kernel
theorem dX4_rankOf_8 : decode cX4_rankOf 8 = .ok (.aload_n 0, 1) := by decide +kernel
theorem dX4_rankOf_9 : decode cX4_rankOf 9 = .ok (.iload_n 2, 1) := by decide +kernel
theorem dX4_rankOf_10 : decode cX4_rankOf 10 = .ok (.invokevirtual 79, 3) := by decide +kernel
theorem dX4_rankOf_13 : decode cX4_rankOf 13 = .ok (.ifCond .ne 7, 3) := by decide +kernel
theorem dX4_rankOf_16 : decode cX4_rankOf 16 = .ok (.sipush 1000, 3) := by decide +kernel
theorem dX4_rankOf_19 : decode cX4_rankOf 19 = .ok (.ireturn, 1) := by decide +kernel
theorem dX4_rankOf_20 : decode cX4_rankOf 20 = .ok (.aload_n 0, 1) := by decide +kernel
theorem dX4_rankOf_21 : decode cX4_rankOf 21 = .ok (.iload_n 1, 1) := by decide +kernel
theorem dX4_rankOf_22 : decode cX4_rankOf 22 = .ok (.invokevirtual 100, 3) := by decide +kernel
theorem dX4_rankOf_25 : decode cX4_rankOf 25 = .ok (.aload_n 0, 1) := by decide +kernel
theorem dX4_rankOf_26 : decode cX4_rankOf 26 = .ok (.invokevirtual 104, 3) := by decide +kernel
theorem dX4_rankOf_29 : decode cX4_rankOf 29 = .ok (.aload_n 0, 1) := by decide +kernel
theorem dX4_rankOf_30 : decode cX4_rankOf 30 = .ok (.aload_n 0, 1) := by decide +kernel
theorem dX4_rankOf_31 : decode cX4_rankOf 31 = .ok (.getfield 37, 3) := by decide +kernel
theorem dX4_rankOf_34 : decode cX4_rankOf 34 = .ok (.iload_n 1, 1) := by decide +kernel
theorem dX4_rankOf_35 : decode cX4_rankOf 35 = .ok (.iaload, 1) := by decide +kernel
theorem dX4_rankOf_36 : decode cX4_rankOf 36 = .ok (.iload_n 1, 1) := by decide +kernel
theorem dX4_rankOf_37 : decode cX4_rankOf 37 = .ok (.iload_n 2, 1) := by decide +kernel
theorem dX4_rankOf_38 : decode cX4_rankOf 38 = .ok (.invokevirtual 107, 3) := by decide +kernel
theorem dX4_rankOf_41 : decode cX4_rankOf 41 = .ok (.ireturn, 1) := by decide +kernel
theorem dX4_measuredRank_0 : decode cX4_measuredRank 0 = .ok (.aload_n 0, 1) := by decide +kernel
theorem dX4_measuredRank_1 : decode cX4_measuredRank 1 = .ok (.getfield 55, 3) := by decide +kernel
theorem dX4_measuredRank_4 : decode cX4_measuredRank 4 = .ok (.iload_n 3, 1) := by decide +kernel
theorem dX4_measuredRank_5 : decode cX4_measuredRank 5 = .ok (.iaload, 1) := by decide +kernel
theorem dX4_measuredRank_6 : decode cX4_measuredRank 6 = .ok (.iconst (-1), 1) := by decide +kernel
theorem dX4_measuredRank_7 : decode cX4_measuredRank 7 = .ok (.if_icmp .ne 9, 3) := by decide +kernel
theorem dX4_measuredRank_10 : decode cX4_measuredRank 10 = .ok (.sipush 1000, 3) := by decide +kernel
theorem dX4_measuredRank_13 : decode cX4_measuredRank 13 = .ok (.goto 9, 3) := by decide +kernel
theorem dX4_measuredRank_16 : decode cX4_measuredRank 16 = .ok (.aload_n 0, 1) := by decide +kernel
theorem dX4_measuredRank_17 : decode cX4_measuredRank 17 = .ok (.getfield 55, 3) := by decide +kernel
theorem dX4_measuredRank_20 : decode cX4_measuredRank 20 = .ok (.iload_n 3, 1) := by decide +kernel
theorem dX4_measuredRank_21 : decode cX4_measuredRank 21 = .ok (.iaload, 1) := by decide +kernel
theorem dX4_measuredRank_22 : decode cX4_measuredRank 22 = .ok (.istore 4, 2) := by decide +kernel
theorem dX4_measuredRank_24 : decode cX4_measuredRank 24 = .ok (.iload 4, 2) := by decide +kernel
theorem dX4_measuredRank_26 : decode cX4_measuredRank 26 = .ok (.sipush 1000, 3) := by decide +kernel
theorem dX4_measuredRank_29 : decode cX4_measuredRank 29 = .ok (.if_icmp .ne 8, 3) := by decide +kernel
theorem dX4_measuredRank_32 : decode cX4_measuredRank 32 = .ok (.bipush 9, 2) := by decide +kernel
theorem dX4_measuredRank_34 : decode cX4_measuredRank 34 = .ok (.goto 5, 3) := by decide +kernel
theorem dX4_measuredRank_37 : decode cX4_measuredRank 37 = .ok (.iload 4, 2) := by decide +kernel
theorem dX4_measuredRank_39 : decode cX4_measuredRank 39 = .ok (.istore 5, 2) := by decide +kernel
theorem dX4_measuredRank_41 : decode cX4_measuredRank 41 = .ok (.aload_n 0, 1) := by decide +kernel
theorem dX4_measuredRank_42 : decode cX4_measuredRank 42 = .ok (.getfield 24, 3) := by decide +kernel
theorem dX4_measuredRank_45 : decode cX4_measuredRank 45 = .ok (.iload_n 3, 1) := by decide +kernel
theorem dX4_measuredRank_46 : decode cX4_measuredRank 46 = .ok (.iaload, 1) := by decide +kernel
theorem dX4_measuredRank_47 : decode cX4_measuredRank 47 = .ok (.aload_n 0, 1) := by decide +kernel
theorem dX4_measuredRank_48 : decode cX4_measuredRank 48 = .ok (.getfield 58, 3) := by decide +kernel
theorem dX4_measuredRank_51 : decode cX4_measuredRank 51 = .ok (.iload_n 3, 1) := by decide +kernel
theorem dX4_measuredRank_52 : decode cX4_measuredRank 52 = .ok (.iaload, 1) := by decide +kernel
theorem dX4_measuredRank_53 : decode cX4_measuredRank 53 = .ok (.isub, 1) := by decide +kernel
theorem dX4_measuredRank_54 : decode cX4_measuredRank 54 = .ok (.aload_n 0, 1) := by decide +kernel
theorem dX4_measuredRank_55 : decode cX4_measuredRank 55 = .ok (.getfield 58, 3) := by decide +kernel
theorem dX4_measuredRank_58 : decode cX4_measuredRank 58 = .ok (.iload_n 2, 1) := by decide +kernel
theorem dX4_measuredRank_59 : decode cX4_measuredRank 59 = .ok (.iaload, 1) := by decide +kernel
theorem dX4_measuredRank_60 : decode cX4_measuredRank 60 = .ok (.if_icmp .lt 7, 3) := by decide +kernel
theorem dX4_measuredRank_63 : decode cX4_measuredRank 63 = .ok (.iconst 1, 1) := by decide +kernel
theorem dX4_measuredRank_64 : decode cX4_measuredRank 64 = .ok (.goto 4, 3) := by decide +kernel
theorem dX4_measuredRank_67 : decode cX4_measuredRank 67 = .ok (.iconst 0, 1) := by decide +kernel
theorem dX4_measuredRank_68 : decode cX4_measuredRank 68 = .ok (.istore 6, 2) := by decide +kernel
theorem dX4_measuredRank_70 : decode cX4_measuredRank 70 = .ok (.iload_n 1, 1) := by decide +kernel
theorem dX4_measuredRank_71 : decode cX4_measuredRank 71 = .ok (.tableswitch 132 0 5 #[37, 40, 54, 84, 117, 120], 37) := by decide +kernel
theorem dX4_measuredRank_108 : decode cX4_measuredRank 108 = .ok (.iload 4, 2) := by decide +kernel
theorem dX4_measuredRank_110 : decode cX4_measuredRank 110 = .ok (.ireturn, 1) := by decide +kernel
theorem dX4_measuredRank_111 : decode cX4_measuredRank 111 = .ok (.iload 6, 2) := by decide +kernel
theorem dX4_measuredRank_113 : decode cX4_measuredRank 113 = .ok (.ifCond .eq 8, 3) := by decide +kernel
theorem dX4_measuredRank_116 : decode cX4_measuredRank 116 = .ok (.iload 4, 2) := by decide +kernel
theorem dX4_measuredRank_118 : decode cX4_measuredRank 118 = .ok (.goto 6, 3) := by decide +kernel
theorem dX4_measuredRank_121 : decode cX4_measuredRank 121 = .ok (.sipush 1000, 3) := by decide +kernel
theorem dX4_measuredRank_124 : decode cX4_measuredRank 124 = .ok (.ireturn, 1) := by decide +kernel
theorem dX4_measuredRank_125 : decode cX4_measuredRank 125 = .ok (.iload 4, 2) := by decide +kernel
theorem dX4_measuredRank_127 : decode cX4_measuredRank 127 = .ok (.sipush 1000, 3) := by decide +kernel
theorem dX4_measuredRank_130 : decode cX4_measuredRank 130 = .ok (.if_icmp .ne 9, 3) := by decide +kernel
theorem dX4_measuredRank_133 : decode cX4_measuredRank 133 = .ok (.sipush 1000, 3) := by decide +kernel
theorem dX4_measuredRank_136 : decode cX4_measuredRank 136 = .ok (.goto 18, 3) := by decide +kernel
theorem dX4_measuredRank_139 : decode cX4_measuredRank 139 = .ok (.bipush 10, 2) := by decide +kernel
theorem dX4_measuredRank_141 : decode cX4_measuredRank 141 = .ok (.iload 4, 2) := by decide +kernel
theorem dX4_measuredRank_143 : decode cX4_measuredRank 143 = .ok (.imul, 1) := by decide +kernel
theorem dX4_measuredRank_144 : decode cX4_measuredRank 144 = .ok (.aload_n 0, 1) := by decide +kernel
theorem dX4_measuredRank_145 : decode cX4_measuredRank 145 = .ok (.getfield 28, 3) := by decide +kernel
theorem dX4_measuredRank_148 : decode cX4_measuredRank 148 = .ok (.iload_n 3, 1) := by decide +kernel
theorem dX4_measuredRank_149 : decode cX4_measuredRank 149 = .ok (.iaload, 1) := by decide +kernel
theorem dX4_measuredRank_150 : decode cX4_measuredRank 150 = .ok (.bipush 10, 2) := by decide +kernel
theorem dX4_measuredRank_152 : decode cX4_measuredRank 152 = .ok (.idiv, 1) := by decide +kernel
theorem dX4_measuredRank_153 : decode cX4_measuredRank 153 = .ok (.isub, 1) := by decide +kernel
theorem dX4_measuredRank_154 : decode cX4_measuredRank 154 = .ok (.ireturn, 1) := by decide +kernel
theorem dX4_measuredRank_155 : decode cX4_measuredRank 155 = .ok (.iload 6, 2) := by decide +kernel
theorem dX4_measuredRank_157 : decode cX4_measuredRank 157 = .ok (.ifCond .eq 27, 3) := by decide +kernel
theorem dX4_measuredRank_160 : decode cX4_measuredRank 160 = .ok (.aload_n 0, 1) := by decide +kernel
theorem dX4_measuredRank_161 : decode cX4_measuredRank 161 = .ok (.aload_n 0, 1) := by decide +kernel
theorem dX4_measuredRank_162 : decode cX4_measuredRank 162 = .ok (.getfield 61, 3) := by decide +kernel
theorem dX4_measuredRank_165 : decode cX4_measuredRank 165 = .ok (.iload_n 2, 1) := by decide +kernel
theorem dX4_measuredRank_166 : decode cX4_measuredRank 166 = .ok (.iaload, 1) := by decide +kernel
theorem dX4_measuredRank_167 : decode cX4_measuredRank 167 = .ok (.aload_n 0, 1) := by decide +kernel
theorem dX4_measuredRank_168 : decode cX4_measuredRank 168 = .ok (.getfield 61, 3) := by decide +kernel
theorem dX4_measuredRank_171 : decode cX4_measuredRank 171 = .ok (.iload_n 3, 1) := by decide +kernel
theorem dX4_measuredRank_172 : decode cX4_measuredRank 172 = .ok (.iaload, 1) := by decide +kernel
theorem dX4_measuredRank_173 : decode cX4_measuredRank 173 = .ok (.invokevirtual 111, 3) := by decide +kernel
theorem dX4_measuredRank_176 : decode cX4_measuredRank 176 = .ok (.ifCond .eq 8, 3) := by decide +kernel
theorem dX4_measuredRank_179 : decode cX4_measuredRank 179 = .ok (.iload 4, 2) := by decide +kernel
theorem dX4_measuredRank_181 : decode cX4_measuredRank 181 = .ok (.goto 6, 3) := by decide +kernel
theorem dX4_measuredRank_184 : decode cX4_measuredRank 184 = .ok (.sipush 1000, 3) := by decide +kernel
theorem dX4_measuredRank_187 : decode cX4_measuredRank 187 = .ok (.ireturn, 1) := by decide +kernel
theorem dX4_measuredRank_188 : decode cX4_measuredRank 188 = .ok (.iload 5, 2) := by decide +kernel
theorem dX4_measuredRank_190 : decode cX4_measuredRank 190 = .ok (.ireturn, 1) := by decide +kernel
theorem dX4_measuredRank_191 : decode cX4_measuredRank 191 = .ok (.iload 5, 2) := by decide +kernel
theorem dX4_measuredRank_193 : decode cX4_measuredRank 193 = .ok (.iconst 2, 1) := by decide +kernel
theorem dX4_measuredRank_194 : decode cX4_measuredRank 194 = .ok (.aload_n 0, 1) := by decide +kernel
theorem dX4_measuredRank_195 : decode cX4_measuredRank 195 = .ok (.getfield 58, 3) := by decide +kernel
theorem dX4_measuredRank_198 : decode cX4_measuredRank 198 = .ok (.iload_n 3, 1) := by decide +kernel
theorem dX4_measuredRank_199 : decode cX4_measuredRank 199 = .ok (.iaload, 1) := by decide +kernel
theorem dX4_measuredRank_200 : decode cX4_measuredRank 200 = .ok (.imul, 1) := by decide +kernel
theorem dX4_measuredRank_201 : decode cX4_measuredRank 201 = .ok (.isub, 1) := by decide +kernel
theorem dX4_measuredRank_202 : decode cX4_measuredRank 202 = .ok (.ireturn, 1) := by decide +kernel
theorem dX4_measuredRank_203 : decode cX4_measuredRank 203 = .ok (.sipush 1000, 3) := by decide +kernel
theorem dX4_measuredRank_206 : decode cX4_measuredRank 206 = .ok (.ireturn, 1) := by decide +kernel
theorem dX4_isQuiet_0 : decode cX4_isQuiet 0 = .ok (.iconst 0, 1) := by decide +kernel
theorem dX4_isQuiet_1 : decode cX4_isQuiet 1 = .ok (.istore_n 3, 1) := by decide +kernel
theorem dX4_isQuiet_2 : decode cX4_isQuiet 2 = .ok (.iload_n 3, 1) := by decide +kernel
theorem dX4_isQuiet_3 : decode cX4_isQuiet 3 = .ok (.iconst 4, 1) := by decide +kernel
theorem dX4_isQuiet_4 : decode cX4_isQuiet 4 = .ok (.if_icmp .ge 31, 3) := by decide +kernel
theorem dX4_isQuiet_7 : decode cX4_isQuiet 7 = .ok (.iload_n 1, 1) := by decide +kernel
theorem dX4_isQuiet_8 : decode cX4_isQuiet 8 = .ok (.iload_n 3, 1) := by decide +kernel
theorem dX4_isQuiet_9 : decode cX4_isQuiet 9 = .ok (.ishr, 1) := by decide +kernel
theorem dX4_isQuiet_10 : decode cX4_isQuiet 10 = .ok (.iconst 1, 1) := by decide +kernel
theorem dX4_isQuiet_11 : decode cX4_isQuiet 11 = .ok (.iand, 1) := by decide +kernel
theorem dX4_isQuiet_12 : decode cX4_isQuiet 12 = .ok (.iconst 1, 1) := by decide +kernel
theorem dX4_isQuiet_13 : decode cX4_isQuiet 13 = .ok (.if_icmp .ne 16, 3) := by decide +kernel
theorem dX4_isQuiet_16 : decode cX4_isQuiet 16 = .ok (.aload_n 0, 1) := by decide +kernel
theorem dX4_isQuiet_17 : decode cX4_isQuiet 17 = .ok (.getfield 52, 3) := by decide +kernel
theorem dX4_isQuiet_20 : decode cX4_isQuiet 20 = .ok (.iload_n 3, 1) := by decide +kernel
theorem dX4_isQuiet_21 : decode cX4_isQuiet 21 = .ok (.iaload, 1) := by decide +kernel
theorem dX4_isQuiet_22 : decode cX4_isQuiet 22 = .ok (.iload_n 2, 1) := by decide +kernel
theorem dX4_isQuiet_23 : decode cX4_isQuiet 23 = .ok (.iand, 1) := by decide +kernel
theorem dX4_isQuiet_24 : decode cX4_isQuiet 24 = .ok (.ifCond .eq 5, 3) := by decide +kernel
theorem dX4_isQuiet_27 : decode cX4_isQuiet 27 = .ok (.iconst 0, 1) := by decide +kernel
theorem dX4_isQuiet_28 : decode cX4_isQuiet 28 = .ok (.ireturn, 1) := by decide +kernel
theorem dX4_isQuiet_29 : decode cX4_isQuiet 29 = .ok (.iinc 3 1, 3) := by decide +kernel
theorem dX4_isQuiet_32 : decode cX4_isQuiet 32 = .ok (.goto (-30), 3) := by decide +kernel
theorem dX4_isQuiet_35 : decode cX4_isQuiet 35 = .ok (.iconst 1, 1) := by decide +kernel
theorem dX4_isQuiet_36 : decode cX4_isQuiet 36 = .ok (.ireturn, 1) := by decide +kernel
theorem dX4_heirOf_0 : decode cX4_heirOf 0 = .ok (.aload_n 0, 1) := by decide +kernel
theorem dX4_heirOf_1 : decode cX4_heirOf 1 = .ok (.iload_n 1, 1) := by decide +kernel
theorem dX4_heirOf_2 : decode cX4_heirOf 2 = .ok (.invokevirtual 68, 3) := by decide +kernel
theorem dX4_heirOf_5 : decode cX4_heirOf 5 = .ok (.ifCond .eq 18, 3) := by decide +kernel
theorem dX4_heirOf_8 : decode cX4_heirOf 8 = .ok (.aload_n 0, 1) := by decide +kernel
theorem dX4_heirOf_9 : decode cX4_heirOf 9 = .ok (.aload_n 0, 1) := by decide +kernel
theorem dX4_heirOf_10 : decode cX4_heirOf 10 = .ok (.getfield 37, 3) := by decide +kernel
theorem dX4_heirOf_13 : decode cX4_heirOf 13 = .ok (.iload_n 1, 1) := by decide +kernel
theorem dX4_heirOf_14 : decode cX4_heirOf 14 = .ok (.iaload, 1) := by decide +kernel
theorem dX4_heirOf_15 : decode cX4_heirOf 15 = .ok (.iload_n 1, 1) := by decide +kernel
theorem dX4_heirOf_16 : decode cX4_heirOf 16 = .ok (.iconst 0, 1) := by decide +kernel
theorem dX4_heirOf_17 : decode cX4_heirOf 17 = .ok (.invokevirtual 114, 3) := by decide +kernel
theorem dX4_heirOf_20 : decode cX4_heirOf 20 = .ok (.goto 4, 3) := by decide +kernel
theorem dX4_heirOf_23 : decode cX4_heirOf 23 = .ok (.iconst (-1), 1) := by decide +kernel
theorem dX4_heirOf_24 : decode cX4_heirOf 24 = .ok (.ireturn, 1) := by decide +kernel
theorem dX4_heirBy_0 : decode cX4_heirBy 0 = .ok (.aload_n 0, 1) := by decide +kernel
theorem dX4_heirBy_1 : decode cX4_heirBy 1 = .ok (.iload_n 2, 1) := by decide +kernel
theorem dX4_heirBy_2 : decode cX4_heirBy 2 = .ok (.invokevirtual 79, 3) := by decide +kernel
theorem dX4_heirBy_5 : decode cX4_heirBy 5 = .ok (.ifCond .ne 5, 3) := by decide +kernel
theorem dX4_heirBy_8 : decode cX4_heirBy 8 = .ok (.iconst (-1), 1) := by decide +kernel
theorem dX4_heirBy_9 : decode cX4_heirBy 9 = .ok (.ireturn, 1) := by decide +kernel
theorem dX4_heirBy_10 : decode cX4_heirBy 10 = .ok (.aload_n 0, 1) := by decide +kernel
theorem dX4_heirBy_11 : decode cX4_heirBy 11 = .ok (.iload_n 2, 1) := by decide +kernel
theorem dX4_heirBy_12 : decode cX4_heirBy 12 = .ok (.invokevirtual 100, 3) := by decide +kernel
theorem dX4_heirBy_15 : decode cX4_heirBy 15 = .ok (.aload_n 0, 1) := by decide +kernel
theorem dX4_heirBy_16 : decode cX4_heirBy 16 = .ok (.invokevirtual 104, 3) := by decide +kernel
theorem dX4_heirBy_19 : decode cX4_heirBy 19 = .ok (.iconst (-1), 1) := by decide +kernel
theorem dX4_heirBy_20 : decode cX4_heirBy 20 = .ok (.istore 4, 2) := by decide +kernel
theorem dX4_heirBy_22 : decode cX4_heirBy 22 = .ok (.sipush 1000, 3) := by decide +kernel
theorem dX4_heirBy_25 : decode cX4_heirBy 25 = .ok (.istore 5, 2) := by decide +kernel
theorem dX4_heirBy_27 : decode cX4_heirBy 27 = .ok (.iconst 0, 1) := by decide +kernel
theorem dX4_heirBy_28 : decode cX4_heirBy 28 = .ok (.istore 6, 2) := by decide +kernel
theorem dX4_heirBy_30 : decode cX4_heirBy 30 = .ok (.iload 6, 2) := by decide +kernel
theorem dX4_heirBy_32 : decode cX4_heirBy 32 = .ok (.aload_n 0, 1) := by decide +kernel
theorem dX4_heirBy_33 : decode cX4_heirBy 33 = .ok (.getfield 9, 3) := by decide +kernel
theorem dX4_heirBy_36 : decode cX4_heirBy 36 = .ok (.if_icmp .ge 78, 3) := by decide +kernel
theorem dX4_heirBy_39 : decode cX4_heirBy 39 = .ok (.iload 6, 2) := by decide +kernel
theorem dX4_heirBy_41 : decode cX4_heirBy 41 = .ok (.iload_n 2, 1) := by decide +kernel
theorem dX4_heirBy_42 : decode cX4_heirBy 42 = .ok (.if_icmp .eq 66, 3) := by decide +kernel
theorem dX4_heirBy_45 : decode cX4_heirBy 45 = .ok (.aload_n 0, 1) := by decide +kernel
theorem dX4_heirBy_46 : decode cX4_heirBy 46 = .ok (.iload 6, 2) := by decide +kernel
theorem dX4_heirBy_48 : decode cX4_heirBy 48 = .ok (.invokevirtual 79, 3) := by decide +kernel
theorem dX4_heirBy_51 : decode cX4_heirBy 51 = .ok (.ifCond .eq 57, 3) := by decide +kernel
theorem dX4_heirBy_54 : decode cX4_heirBy 54 = .ok (.aload_n 0, 1) := by decide +kernel
theorem dX4_heirBy_55 : decode cX4_heirBy 55 = .ok (.iload_n 1, 1) := by decide +kernel
theorem dX4_heirBy_56 : decode cX4_heirBy 56 = .ok (.iload_n 2, 1) := by decide +kernel
theorem dX4_heirBy_57 : decode cX4_heirBy 57 = .ok (.iload 6, 2) := by decide +kernel
theorem dX4_heirBy_59 : decode cX4_heirBy 59 = .ok (.invokevirtual 107, 3) := by decide +kernel
theorem dX4_heirBy_62 : decode cX4_heirBy 62 = .ok (.istore 7, 2) := by decide +kernel
theorem dX4_heirBy_64 : decode cX4_heirBy 64 = .ok (.iload_n 3, 1) := by decide +kernel
theorem dX4_heirBy_65 : decode cX4_heirBy 65 = .ok (.iload 6, 2) := by decide +kernel
theorem dX4_heirBy_67 : decode cX4_heirBy 67 = .ok (.ishr, 1) := by decide +kernel
theorem dX4_heirBy_68 : decode cX4_heirBy 68 = .ok (.iconst 1, 1) := by decide +kernel
theorem dX4_heirBy_69 : decode cX4_heirBy 69 = .ok (.iand, 1) := by decide +kernel
theorem dX4_heirBy_70 : decode cX4_heirBy 70 = .ok (.iconst 1, 1) := by decide +kernel
theorem dX4_heirBy_71 : decode cX4_heirBy 71 = .ok (.if_icmp .ne 22, 3) := by decide +kernel
theorem dX4_heirBy_74 : decode cX4_heirBy 74 = .ok (.iload 7, 2) := by decide +kernel
theorem dX4_heirBy_76 : decode cX4_heirBy 76 = .ok (.sipush 1000, 3) := by decide +kernel
theorem dX4_heirBy_79 : decode cX4_heirBy 79 = .ok (.if_icmp .ne 8, 3) := by decide +kernel
theorem dX4_heirBy_82 : decode cX4_heirBy 82 = .ok (.bipush 9, 2) := by decide +kernel
theorem dX4_heirBy_84 : decode cX4_heirBy 84 = .ok (.goto 5, 3) := by decide +kernel
theorem dX4_heirBy_87 : decode cX4_heirBy 87 = .ok (.iload 7, 2) := by decide +kernel
theorem dX4_heirBy_89 : decode cX4_heirBy 89 = .ok (.iconst 3, 1) := by decide +kernel
theorem dX4_heirBy_90 : decode cX4_heirBy 90 = .ok (.isub, 1) := by decide +kernel
theorem dX4_heirBy_91 : decode cX4_heirBy 91 = .ok (.istore 7, 2) := by decide +kernel
theorem dX4_heirBy_93 : decode cX4_heirBy 93 = .ok (.iload 7, 2) := by decide +kernel
theorem dX4_heirBy_95 : decode cX4_heirBy 95 = .ok (.iload 5, 2) := by decide +kernel
theorem dX4_heirBy_97 : decode cX4_heirBy 97 = .ok (.if_icmp .ge 11, 3) := by decide +kernel
theorem dX4_heirBy_100 : decode cX4_heirBy 100 = .ok (.iload 7, 2) := by decide +kernel
theorem dX4_heirBy_102 : decode cX4_heirBy 102 = .ok (.istore 5, 2) := by decide +kernel
theorem dX4_heirBy_104 : decode cX4_heirBy 104 = .ok (.iload 6, 2) := by decide +kernel
theorem dX4_heirBy_106 : decode cX4_heirBy 106 = .ok (.istore 4, 2) := by decide +kernel
theorem dX4_heirBy_108 : decode cX4_heirBy 108 = .ok (.iinc 6 1, 3) := by decide +kernel
theorem dX4_heirBy_111 : decode cX4_heirBy 111 = .ok (.goto (-81), 3) := by decide +kernel
theorem dX4_heirBy_114 : decode cX4_heirBy 114 = .ok (.iload 4, 2) := by decide +kernel
theorem dX4_heirBy_116 : decode cX4_heirBy 116 = .ok (.ireturn, 1) := by decide +kernel
theorem dX4_nearestKin_0 : decode cX4_nearestKin 0 = .ok (.aload_n 0, 1) := by decide +kernel
theorem dX4_nearestKin_1 : decode cX4_nearestKin 1 = .ok (.iload_n 1, 1) := by decide +kernel
theorem dX4_nearestKin_2 : decode cX4_nearestKin 2 = .ok (.invokevirtual 68, 3) := by decide +kernel
theorem dX4_nearestKin_5 : decode cX4_nearestKin 5 = .ok (.ifCond .ne 5, 3) := by decide +kernel
theorem dX4_nearestKin_8 : decode cX4_nearestKin 8 = .ok (.iconst 0, 1) := by decide +kernel
theorem dX4_nearestKin_9 : decode cX4_nearestKin 9 = .ok (.ireturn, 1) := by decide +kernel
theorem dX4_nearestKin_10 : decode cX4_nearestKin 10 = .ok (.aload_n 0, 1) := by decide +kernel
theorem dX4_nearestKin_11 : decode cX4_nearestKin 11 = .ok (.iload_n 1, 1) := by decide +kernel
theorem dX4_nearestKin_12 : decode cX4_nearestKin 12 = .ok (.invokevirtual 100, 3) := by decide +kernel
theorem dX4_nearestKin_15 : decode cX4_nearestKin 15 = .ok (.iconst 5, 1) := by decide +kernel
theorem dX4_nearestKin_16 : decode cX4_nearestKin 16 = .ok (.istore_n 2, 1) := by decide +kernel
theorem dX4_nearestKin_17 : decode cX4_nearestKin 17 = .ok (.iconst 0, 1) := by decide +kernel
theorem dX4_nearestKin_18 : decode cX4_nearestKin 18 = .ok (.istore_n 3, 1) := by decide +kernel
theorem dX4_nearestKin_19 : decode cX4_nearestKin 19 = .ok (.iconst 0, 1) := by decide +kernel
theorem dX4_nearestKin_20 : decode cX4_nearestKin 20 = .ok (.istore 4, 2) := by decide +kernel
theorem dX4_nearestKin_22 : decode cX4_nearestKin 22 = .ok (.iload 4, 2) := by decide +kernel
theorem dX4_nearestKin_24 : decode cX4_nearestKin 24 = .ok (.aload_n 0, 1) := by decide +kernel
theorem dX4_nearestKin_25 : decode cX4_nearestKin 25 = .ok (.getfield 9, 3) := by decide +kernel
theorem dX4_nearestKin_28 : decode cX4_nearestKin 28 = .ok (.if_icmp .ge 73, 3) := by decide +kernel
theorem dX4_nearestKin_31 : decode cX4_nearestKin 31 = .ok (.iload 4, 2) := by decide +kernel
theorem dX4_nearestKin_33 : decode cX4_nearestKin 33 = .ok (.iload_n 1, 1) := by decide +kernel
theorem dX4_nearestKin_34 : decode cX4_nearestKin 34 = .ok (.if_icmp .eq 61, 3) := by decide +kernel
theorem dX4_nearestKin_37 : decode cX4_nearestKin 37 = .ok (.aload_n 0, 1) := by decide +kernel
theorem dX4_nearestKin_38 : decode cX4_nearestKin 38 = .ok (.iload 4, 2) := by decide +kernel
theorem dX4_nearestKin_40 : decode cX4_nearestKin 40 = .ok (.invokevirtual 79, 3) := by decide +kernel
theorem dX4_nearestKin_43 : decode cX4_nearestKin 43 = .ok (.ifCond .eq 52, 3) := by decide +kernel
theorem dX4_nearestKin_46 : decode cX4_nearestKin 46 = .ok (.aload_n 0, 1) := by decide +kernel
theorem dX4_nearestKin_47 : decode cX4_nearestKin 47 = .ok (.getfield 55, 3) := by decide +kernel
theorem dX4_nearestKin_50 : decode cX4_nearestKin 50 = .ok (.iload 4, 2) := by decide +kernel
theorem dX4_nearestKin_52 : decode cX4_nearestKin 52 = .ok (.iaload, 1) := by decide +kernel
theorem dX4_nearestKin_53 : decode cX4_nearestKin 53 = .ok (.iconst (-1), 1) := by decide +kernel
theorem dX4_nearestKin_54 : decode cX4_nearestKin 54 = .ok (.if_icmp .eq 41, 3) := by decide +kernel
theorem dX4_nearestKin_57 : decode cX4_nearestKin 57 = .ok (.aload_n 0, 1) := by decide +kernel
theorem dX4_nearestKin_58 : decode cX4_nearestKin 58 = .ok (.getfield 55, 3) := by decide +kernel
theorem dX4_nearestKin_61 : decode cX4_nearestKin 61 = .ok (.iload 4, 2) := by decide +kernel
theorem dX4_nearestKin_63 : decode cX4_nearestKin 63 = .ok (.iaload, 1) := by decide +kernel
theorem dX4_nearestKin_64 : decode cX4_nearestKin 64 = .ok (.iload_n 2, 1) := by decide +kernel
theorem dX4_nearestKin_65 : decode cX4_nearestKin 65 = .ok (.if_icmp .gt 30, 3) := by decide +kernel
theorem dX4_nearestKin_68 : decode cX4_nearestKin 68 = .ok (.aload_n 0, 1) := by decide +kernel
theorem dX4_nearestKin_69 : decode cX4_nearestKin 69 = .ok (.getfield 55, 3) := by decide +kernel
theorem dX4_nearestKin_72 : decode cX4_nearestKin 72 = .ok (.iload 4, 2) := by decide +kernel
theorem dX4_nearestKin_74 : decode cX4_nearestKin 74 = .ok (.iaload, 1) := by decide +kernel
theorem dX4_nearestKin_75 : decode cX4_nearestKin 75 = .ok (.iload_n 2, 1) := by decide +kernel
theorem dX4_nearestKin_76 : decode cX4_nearestKin 76 = .ok (.if_icmp .ge 7, 3) := by decide +kernel
theorem dX4_nearestKin_79 : decode cX4_nearestKin 79 = .ok (.iconst 1, 1) := by decide +kernel
theorem dX4_nearestKin_80 : decode cX4_nearestKin 80 = .ok (.goto 6, 3) := by decide +kernel
theorem dX4_nearestKin_83 : decode cX4_nearestKin 83 = .ok (.iload_n 3, 1) := by decide +kernel
theorem dX4_nearestKin_84 : decode cX4_nearestKin 84 = .ok (.iconst 1, 1) := by decide +kernel
theorem dX4_nearestKin_85 : decode cX4_nearestKin 85 = .ok (.iadd, 1) := by decide +kernel
theorem dX4_nearestKin_86 : decode cX4_nearestKin 86 = .ok (.istore_n 3, 1) := by decide +kernel
theorem dX4_nearestKin_87 : decode cX4_nearestKin 87 = .ok (.aload_n 0, 1) := by decide +kernel
theorem dX4_nearestKin_88 : decode cX4_nearestKin 88 = .ok (.getfield 55, 3) := by decide +kernel
theorem dX4_nearestKin_91 : decode cX4_nearestKin 91 = .ok (.iload 4, 2) := by decide +kernel
theorem dX4_nearestKin_93 : decode cX4_nearestKin 93 = .ok (.iaload, 1) := by decide +kernel
theorem dX4_nearestKin_94 : decode cX4_nearestKin 94 = .ok (.istore_n 2, 1) := by decide +kernel
theorem dX4_nearestKin_95 : decode cX4_nearestKin 95 = .ok (.iinc 4 1, 3) := by decide +kernel
theorem dX4_nearestKin_98 : decode cX4_nearestKin 98 = .ok (.goto (-76), 3) := by decide +kernel
theorem dX4_nearestKin_101 : decode cX4_nearestKin 101 = .ok (.iload_n 3, 1) := by decide +kernel
theorem dX4_nearestKin_102 : decode cX4_nearestKin 102 = .ok (.ireturn, 1) := by decide +kernel
theorem dX4_begetters_0 : decode cX4_begetters 0 = .ok (.iconst 0, 1) := by decide +kernel
theorem dX4_begetters_1 : decode cX4_begetters 1 = .ok (.istore_n 3, 1) := by decide +kernel
theorem dX4_begetters_2 : decode cX4_begetters 2 = .ok (.iconst 0, 1) := by decide +kernel
theorem dX4_begetters_3 : decode cX4_begetters 3 = .ok (.istore 4, 2) := by decide +kernel
theorem dX4_begetters_5 : decode cX4_begetters 5 = .ok (.iload 4, 2) := by decide +kernel
theorem dX4_begetters_7 : decode cX4_begetters 7 = .ok (.iload_n 1, 1) := by decide +kernel
theorem dX4_begetters_8 : decode cX4_begetters 8 = .ok (.if_icmp .ge 45, 3) := by decide +kernel
theorem dX4_begetters_11 : decode cX4_begetters 11 = .ok (.aload_n 0, 1) := by decide +kernel
theorem dX4_begetters_12 : decode cX4_begetters 12 = .ok (.iload_n 1, 1) := by decide +kernel
theorem dX4_begetters_13 : decode cX4_begetters 13 = .ok (.invokevirtual 68, 3) := by decide +kernel
theorem dX4_begetters_16 : decode cX4_begetters 16 = .ok (.ifCond .eq 37, 3) := by decide +kernel
theorem dX4_begetters_19 : decode cX4_begetters 19 = .ok (.aload_n 0, 1) := by decide +kernel
theorem dX4_begetters_20 : decode cX4_begetters 20 = .ok (.getfield 40, 3) := by decide +kernel
theorem dX4_begetters_23 : decode cX4_begetters 23 = .ok (.iload 4, 2) := by decide +kernel
theorem dX4_begetters_25 : decode cX4_begetters 25 = .ok (.iaload, 1) := by decide +kernel
theorem dX4_begetters_26 : decode cX4_begetters 26 = .ok (.aload_n 0, 1) := by decide +kernel
theorem dX4_begetters_27 : decode cX4_begetters 27 = .ok (.getfield 40, 3) := by decide +kernel
theorem dX4_begetters_30 : decode cX4_begetters 30 = .ok (.iload_n 1, 1) := by decide +kernel
theorem dX4_begetters_31 : decode cX4_begetters 31 = .ok (.iaload, 1) := by decide +kernel
theorem dX4_begetters_32 : decode cX4_begetters 32 = .ok (.ixor, 1) := by decide +kernel
theorem dX4_begetters_33 : decode cX4_begetters 33 = .ok (.invokestatic 92, 3) := by decide +kernel
theorem dX4_begetters_36 : decode cX4_begetters 36 = .ok (.iload_n 2, 1) := by decide +kernel
theorem dX4_begetters_37 : decode cX4_begetters 37 = .ok (.if_icmp .gt 10, 3) := by decide +kernel
theorem dX4_begetters_40 : decode cX4_begetters 40 = .ok (.iload_n 3, 1) := by decide +kernel
theorem dX4_begetters_41 : decode cX4_begetters 41 = .ok (.iconst 1, 1) := by decide +kernel
theorem dX4_begetters_42 : decode cX4_begetters 42 = .ok (.iload 4, 2) := by decide +kernel
theorem dX4_begetters_44 : decode cX4_begetters 44 = .ok (.ishl, 1) := by decide +kernel
theorem dX4_begetters_45 : decode cX4_begetters 45 = .ok (.ior, 1) := by decide +kernel
theorem dX4_begetters_46 : decode cX4_begetters 46 = .ok (.istore_n 3, 1) := by decide +kernel
theorem dX4_begetters_47 : decode cX4_begetters 47 = .ok (.iinc 4 1, 3) := by decide +kernel
theorem dX4_begetters_50 : decode cX4_begetters 50 = .ok (.goto (-45), 3) := by decide +kernel
theorem dX4_begetters_53 : decode cX4_begetters 53 = .ok (.iload_n 3, 1) := by decide +kernel
theorem dX4_begetters_54 : decode cX4_begetters 54 = .ok (.ireturn, 1) := by decide +kernel
theorem dX4_letFall_0 : decode cX4_letFall 0 = .ok (.aload_n 0, 1) := by decide +kernel
theorem dX4_letFall_1 : decode cX4_letFall 1 = .ok (.iload_n 1, 1) := by decide +kernel
theorem dX4_letFall_2 : decode cX4_letFall 2 = .ok (.invokevirtual 79, 3) := by decide +kernel
theorem dX4_letFall_5 : decode cX4_letFall 5 = .ok (.ifCond .ne 5, 3) := by decide +kernel
theorem dX4_letFall_8 : decode cX4_letFall 8 = .ok (.iconst (-1), 1) := by decide +kernel
theorem dX4_letFall_9 : decode cX4_letFall 9 = .ok (.ireturn, 1) := by decide +kernel
theorem dX4_letFall_10 : decode cX4_letFall 10 = .ok (.aload_n 0, 1) := by decide +kernel
theorem dX4_letFall_11 : decode cX4_letFall 11 = .ok (.aload_n 0, 1) := by decide +kernel
theorem dX4_letFall_12 : decode cX4_letFall 12 = .ok (.getfield 37, 3) := by decide +kernel
theorem dX4_letFall_15 : decode cX4_letFall 15 = .ok (.iload_n 1, 1) := by decide +kernel
theorem dX4_letFall_16 : decode cX4_letFall 16 = .ok (.iaload, 1) := by decide +kernel
theorem dX4_letFall_17 : decode cX4_letFall 17 = .ok (.iload_n 1, 1) := by decide +kernel
theorem dX4_letFall_18 : decode cX4_letFall 18 = .ok (.iconst 0, 1) := by decide +kernel
theorem dX4_letFall_19 : decode cX4_letFall 19 = .ok (.invokevirtual 114, 3) := by decide +kernel
theorem dX4_letFall_22 : decode cX4_letFall 22 = .ok (.istore_n 2, 1) := by decide +kernel
theorem dX4_letFall_23 : decode cX4_letFall 23 = .ok (.iconst 0, 1) := by decide +kernel
theorem dX4_letFall_24 : decode cX4_letFall 24 = .ok (.istore_n 3, 1) := by decide +kernel
theorem dX4_letFall_25 : decode cX4_letFall 25 = .ok (.iload_n 3, 1) := by decide +kernel
theorem dX4_letFall_26 : decode cX4_letFall 26 = .ok (.aload_n 0, 1) := by decide +kernel
theorem dX4_letFall_27 : decode cX4_letFall 27 = .ok (.getfield 18, 3) := by decide +kernel
theorem dX4_letFall_30 : decode cX4_letFall 30 = .ok (.if_icmp .ge 26, 3) := by decide +kernel
theorem dX4_letFall_33 : decode cX4_letFall 33 = .ok (.aload_n 0, 1) := by decide +kernel
theorem dX4_letFall_34 : decode cX4_letFall 34 = .ok (.getfield 49, 3) := by decide +kernel
theorem dX4_letFall_37 : decode cX4_letFall 37 = .ok (.iload_n 3, 1) := by decide +kernel
theorem dX4_letFall_38 : decode cX4_letFall 38 = .ok (.iaload, 1) := by decide +kernel
theorem dX4_letFall_39 : decode cX4_letFall 39 = .ok (.iload_n 1, 1) := by decide +kernel
theorem dX4_letFall_40 : decode cX4_letFall 40 = .ok (.if_icmp .ne 10, 3) := by decide +kernel
theorem dX4_letFall_43 : decode cX4_letFall 43 = .ok (.aload_n 0, 1) := by decide +kernel
theorem dX4_letFall_44 : decode cX4_letFall 44 = .ok (.getfield 49, 3) := by decide +kernel
theorem dX4_letFall_47 : decode cX4_letFall 47 = .ok (.iload_n 3, 1) := by decide +kernel
theorem dX4_letFall_48 : decode cX4_letFall 48 = .ok (.iload_n 2, 1) := by decide +kernel
theorem dX4_letFall_49 : decode cX4_letFall 49 = .ok (.iastore, 1) := by decide +kernel
theorem dX4_letFall_50 : decode cX4_letFall 50 = .ok (.iinc 3 1, 3) := by decide +kernel
theorem dX4_letFall_53 : decode cX4_letFall 53 = .ok (.goto (-28), 3) := by decide +kernel
theorem dX4_letFall_56 : decode cX4_letFall 56 = .ok (.aload_n 0, 1) := by decide +kernel
theorem dX4_letFall_57 : decode cX4_letFall 57 = .ok (.dup, 1) := by decide +kernel
theorem dX4_letFall_58 : decode cX4_letFall 58 = .ok (.getfield 15, 3) := by decide +kernel
theorem dX4_letFall_61 : decode cX4_letFall 61 = .ok (.iconst 1, 1) := by decide +kernel
theorem dX4_letFall_62 : decode cX4_letFall 62 = .ok (.iload_n 1, 1) := by decide +kernel
theorem dX4_letFall_63 : decode cX4_letFall 63 = .ok (.ishl, 1) := by decide +kernel
theorem dX4_letFall_64 : decode cX4_letFall 64 = .ok (.iconst (-1), 1) := by decide +kernel
theorem dX4_letFall_65 : decode cX4_letFall 65 = .ok (.ixor, 1) := by decide +kernel
theorem dX4_letFall_66 : decode cX4_letFall 66 = .ok (.iand, 1) := by decide +kernel
theorem dX4_letFall_67 : decode cX4_letFall 67 = .ok (.putfield 15, 3) := by decide +kernel
theorem dX4_letFall_70 : decode cX4_letFall 70 = .ok (.iload_n 2, 1) := by decide +kernel
theorem dX4_letFall_71 : decode cX4_letFall 71 = .ok (.ireturn, 1) := by decide +kernel
theorem dX4_passYear_0 : decode cX4_passYear 0 = .ok (.aload_n 0, 1) := by decide +kernel
theorem dX4_passYear_1 : decode cX4_passYear 1 = .ok (.dup, 1) := by decide +kernel
theorem dX4_passYear_2 : decode cX4_passYear 2 = .ok (.getfield 21, 3) := by decide +kernel
theorem dX4_passYear_5 : decode cX4_passYear 5 = .ok (.iconst 1, 1) := by decide +kernel
theorem dX4_passYear_6 : decode cX4_passYear 6 = .ok (.iadd, 1) := by decide +kernel
theorem dX4_passYear_7 : decode cX4_passYear 7 = .ok (.putfield 21, 3) := by decide +kernel
theorem dX4_passYear_10 : decode cX4_passYear 10 = .ok (.iconst 0, 1) := by decide +kernel
theorem dX4_passYear_11 : decode cX4_passYear 11 = .ok (.istore_n 1, 1) := by decide +kernel
theorem dX4_passYear_12 : decode cX4_passYear 12 = .ok (.iload_n 1, 1) := by decide +kernel
theorem dX4_passYear_13 : decode cX4_passYear 13 = .ok (.aload_n 0, 1) := by decide +kernel
theorem dX4_passYear_14 : decode cX4_passYear 14 = .ok (.getfield 9, 3) := by decide +kernel
theorem dX4_passYear_17 : decode cX4_passYear 17 = .ok (.if_icmp .ge 39, 3) := by decide +kernel
theorem dX4_passYear_20 : decode cX4_passYear 20 = .ok (.aload_n 0, 1) := by decide +kernel
theorem dX4_passYear_21 : decode cX4_passYear 21 = .ok (.iload_n 1, 1) := by decide +kernel
theorem dX4_passYear_22 : decode cX4_passYear 22 = .ok (.invokevirtual 79, 3) := by decide +kernel
theorem dX4_passYear_25 : decode cX4_passYear 25 = .ok (.ifCond .eq 25, 3) := by decide +kernel
theorem dX4_passYear_28 : decode cX4_passYear 28 = .ok (.aload_n 0, 1) := by decide +kernel
theorem dX4_passYear_29 : decode cX4_passYear 29 = .ok (.getfield 31, 3) := by decide +kernel
theorem dX4_passYear_32 : decode cX4_passYear 32 = .ok (.iload_n 1, 1) := by decide +kernel
theorem dX4_passYear_33 : decode cX4_passYear 33 = .ok (.dup2, 1) := by decide +kernel
theorem dX4_passYear_34 : decode cX4_passYear 34 = .ok (.iaload, 1) := by decide +kernel
theorem dX4_passYear_35 : decode cX4_passYear 35 = .ok (.aload_n 0, 1) := by decide +kernel
theorem dX4_passYear_36 : decode cX4_passYear 36 = .ok (.iload_n 1, 1) := by decide +kernel
theorem dX4_passYear_37 : decode cX4_passYear 37 = .ok (.invokevirtual 89, 3) := by decide +kernel
theorem dX4_passYear_40 : decode cX4_passYear 40 = .ok (.ifCond .eq 7, 3) := by decide +kernel
theorem dX4_passYear_43 : decode cX4_passYear 43 = .ok (.iconst 2, 1) := by decide +kernel
theorem dX4_passYear_44 : decode cX4_passYear 44 = .ok (.goto 4, 3) := by decide +kernel
theorem dX4_passYear_47 : decode cX4_passYear 47 = .ok (.iconst 1, 1) := by decide +kernel
theorem dX4_passYear_48 : decode cX4_passYear 48 = .ok (.iadd, 1) := by decide +kernel
theorem dX4_passYear_49 : decode cX4_passYear 49 = .ok (.iastore, 1) := by decide +kernel
theorem dX4_passYear_50 : decode cX4_passYear 50 = .ok (.iinc 1 1, 3) := by decide +kernel
theorem dX4_passYear_53 : decode cX4_passYear 53 = .ok (.goto (-41), 3) := by decide +kernel
theorem dX4_passYear_56 : decode cX4_passYear 56 = .ok (.iconst 0, 1) := by decide +kernel
theorem dX4_passYear_57 : decode cX4_passYear 57 = .ok (.istore_n 1, 1) := by decide +kernel
theorem dX4_passYear_58 : decode cX4_passYear 58 = .ok (.iload_n 1, 1) := by decide +kernel
theorem dX4_passYear_59 : decode cX4_passYear 59 = .ok (.aload_n 0, 1) := by decide +kernel
theorem dX4_passYear_60 : decode cX4_passYear 60 = .ok (.getfield 9, 3) := by decide +kernel
theorem dX4_passYear_63 : decode cX4_passYear 63 = .ok (.if_icmp .ge 34, 3) := by decide +kernel
theorem dX4_passYear_66 : decode cX4_passYear 66 = .ok (.aload_n 0, 1) := by decide +kernel
theorem dX4_passYear_67 : decode cX4_passYear 67 = .ok (.iload_n 1, 1) := by decide +kernel
theorem dX4_passYear_68 : decode cX4_passYear 68 = .ok (.invokevirtual 79, 3) := by decide +kernel
theorem dX4_passYear_71 : decode cX4_passYear 71 = .ok (.ifCond .eq 20, 3) := by decide +kernel
theorem dX4_passYear_74 : decode cX4_passYear 74 = .ok (.aload_n 0, 1) := by decide +kernel
theorem dX4_passYear_75 : decode cX4_passYear 75 = .ok (.getfield 31, 3) := by decide +kernel
theorem dX4_passYear_78 : decode cX4_passYear 78 = .ok (.iload_n 1, 1) := by decide +kernel
theorem dX4_passYear_79 : decode cX4_passYear 79 = .ok (.iaload, 1) := by decide +kernel
theorem dX4_passYear_80 : decode cX4_passYear 80 = .ok (.bipush 100, 2) := by decide +kernel
theorem dX4_passYear_82 : decode cX4_passYear 82 = .ok (.if_icmp .lt 9, 3) := by decide +kernel
theorem dX4_passYear_85 : decode cX4_passYear 85 = .ok (.aload_n 0, 1) := by decide +kernel
theorem dX4_passYear_86 : decode cX4_passYear 86 = .ok (.iload_n 1, 1) := by decide +kernel
theorem dX4_passYear_87 : decode cX4_passYear 87 = .ok (.invokevirtual 117, 3) := by decide +kernel
theorem dX4_passYear_90 : decode cX4_passYear 90 = .ok (.pop, 1) := by decide +kernel
theorem dX4_passYear_91 : decode cX4_passYear 91 = .ok (.iinc 1 1, 3) := by decide +kernel
theorem dX4_passYear_94 : decode cX4_passYear 94 = .ok (.goto (-36), 3) := by decide +kernel
theorem dX4_passYear_97 : decode cX4_passYear 97 = .ok (.return_, 1) := by decide +kernel
theorem dX4_addTo_0 : decode cX4_addTo 0 = .ok (.lload_n 1, 1) := by decide +kernel
theorem dX4_addTo_1 : decode cX4_addTo 1 = .ok (.lstore_n 3, 1) := by decide +kernel
theorem dX4_addTo_2 : decode cX4_addTo 2 = .ok (.iconst 0, 1) := by decide +kernel
theorem dX4_addTo_3 : decode cX4_addTo 3 = .ok (.istore 5, 2) := by decide +kernel
theorem dX4_addTo_5 : decode cX4_addTo 5 = .ok (.iload 5, 2) := by decide +kernel
theorem dX4_addTo_7 : decode cX4_addTo 7 = .ok (.aload_n 0, 1) := by decide +kernel
theorem dX4_addTo_8 : decode cX4_addTo 8 = .ok (.getfield 9, 3) := by decide +kernel
theorem dX4_addTo_11 : decode cX4_addTo 11 = .ok (.if_icmp .ge 121, 3) := by decide +kernel
theorem dX4_addTo_14 : decode cX4_addTo 14 = .ok (.ldc2_w 120, 3) := by decide +kernel
theorem dX4_addTo_17 : decode cX4_addTo 17 = .ok (.lload_n 3, 1) := by decide +kernel
theorem dX4_addTo_18 : decode cX4_addTo 18 = .ok (.lmul, 1) := by decide +kernel
theorem dX4_addTo_19 : decode cX4_addTo 19 = .ok (.aload_n 0, 1) := by decide +kernel
theorem dX4_addTo_20 : decode cX4_addTo 20 = .ok (.getfield 24, 3) := by decide +kernel
theorem dX4_addTo_23 : decode cX4_addTo 23 = .ok (.iload 5, 2) := by decide +kernel
theorem dX4_addTo_25 : decode cX4_addTo 25 = .ok (.iaload, 1) := by decide +kernel
theorem dX4_addTo_26 : decode cX4_addTo 26 = .ok (.i2l, 1) := by decide +kernel
theorem dX4_addTo_27 : decode cX4_addTo 27 = .ok (.ladd, 1) := by decide +kernel
theorem dX4_addTo_28 : decode cX4_addTo 28 = .ok (.lstore_n 3, 1) := by decide +kernel
theorem dX4_addTo_29 : decode cX4_addTo 29 = .ok (.ldc2_w 120, 3) := by decide +kernel
theorem dX4_addTo_32 : decode cX4_addTo 32 = .ok (.lload_n 3, 1) := by decide +kernel
theorem dX4_addTo_33 : decode cX4_addTo 33 = .ok (.lmul, 1) := by decide +kernel
theorem dX4_addTo_34 : decode cX4_addTo 34 = .ok (.aload_n 0, 1) := by decide +kernel
theorem dX4_addTo_35 : decode cX4_addTo 35 = .ok (.getfield 28, 3) := by decide +kernel
theorem dX4_addTo_38 : decode cX4_addTo 38 = .ok (.iload 5, 2) := by decide +kernel
theorem dX4_addTo_40 : decode cX4_addTo 40 = .ok (.iaload, 1) := by decide +kernel
theorem dX4_addTo_41 : decode cX4_addTo 41 = .ok (.i2l, 1) := by decide +kernel
theorem dX4_addTo_42 : decode cX4_addTo 42 = .ok (.ladd, 1) := by decide +kernel
theorem dX4_addTo_43 : decode cX4_addTo 43 = .ok (.lstore_n 3, 1) := by decide +kernel
theorem dX4_addTo_44 : decode cX4_addTo 44 = .ok (.ldc2_w 120, 3) := by decide +kernel
theorem dX4_addTo_47 : decode cX4_addTo 47 = .ok (.lload_n 3, 1) := by decide +kernel
theorem dX4_addTo_48 : decode cX4_addTo 48 = .ok (.lmul, 1) := by decide +kernel
theorem dX4_addTo_49 : decode cX4_addTo 49 = .ok (.aload_n 0, 1) := by decide +kernel
theorem dX4_addTo_50 : decode cX4_addTo 50 = .ok (.getfield 31, 3) := by decide +kernel
theorem dX4_addTo_53 : decode cX4_addTo 53 = .ok (.iload 5, 2) := by decide +kernel
theorem dX4_addTo_55 : decode cX4_addTo 55 = .ok (.iaload, 1) := by decide +kernel
theorem dX4_addTo_56 : decode cX4_addTo 56 = .ok (.i2l, 1) := by decide +kernel
theorem dX4_addTo_57 : decode cX4_addTo 57 = .ok (.ladd, 1) := by decide +kernel
theorem dX4_addTo_58 : decode cX4_addTo 58 = .ok (.lstore_n 3, 1) := by decide +kernel
theorem dX4_addTo_59 : decode cX4_addTo 59 = .ok (.ldc2_w 120, 3) := by decide +kernel
theorem dX4_addTo_62 : decode cX4_addTo 62 = .ok (.lload_n 3, 1) := by decide +kernel
theorem dX4_addTo_63 : decode cX4_addTo 63 = .ok (.lmul, 1) := by decide +kernel
theorem dX4_addTo_64 : decode cX4_addTo 64 = .ok (.aload_n 0, 1) := by decide +kernel
theorem dX4_addTo_65 : decode cX4_addTo 65 = .ok (.getfield 34, 3) := by decide +kernel
theorem dX4_addTo_68 : decode cX4_addTo 68 = .ok (.iload 5, 2) := by decide +kernel
theorem dX4_addTo_70 : decode cX4_addTo 70 = .ok (.iaload, 1) := by decide +kernel
theorem dX4_addTo_71 : decode cX4_addTo 71 = .ok (.i2l, 1) := by decide +kernel
theorem dX4_addTo_72 : decode cX4_addTo 72 = .ok (.ladd, 1) := by decide +kernel
theorem dX4_addTo_73 : decode cX4_addTo 73 = .ok (.lstore_n 3, 1) := by decide +kernel
theorem dX4_addTo_74 : decode cX4_addTo 74 = .ok (.ldc2_w 120, 3) := by decide +kernel
theorem dX4_addTo_77 : decode cX4_addTo 77 = .ok (.lload_n 3, 1) := by decide +kernel
theorem dX4_addTo_78 : decode cX4_addTo 78 = .ok (.lmul, 1) := by decide +kernel
theorem dX4_addTo_79 : decode cX4_addTo 79 = .ok (.aload_n 0, 1) := by decide +kernel
theorem dX4_addTo_80 : decode cX4_addTo 80 = .ok (.getfield 37, 3) := by decide +kernel
theorem dX4_addTo_83 : decode cX4_addTo 83 = .ok (.iload 5, 2) := by decide +kernel
theorem dX4_addTo_85 : decode cX4_addTo 85 = .ok (.iaload, 1) := by decide +kernel
theorem dX4_addTo_86 : decode cX4_addTo 86 = .ok (.i2l, 1) := by decide +kernel
theorem dX4_addTo_87 : decode cX4_addTo 87 = .ok (.ladd, 1) := by decide +kernel
theorem dX4_addTo_88 : decode cX4_addTo 88 = .ok (.lstore_n 3, 1) := by decide +kernel
theorem dX4_addTo_89 : decode cX4_addTo 89 = .ok (.ldc2_w 120, 3) := by decide +kernel
theorem dX4_addTo_92 : decode cX4_addTo 92 = .ok (.lload_n 3, 1) := by decide +kernel
theorem dX4_addTo_93 : decode cX4_addTo 93 = .ok (.lmul, 1) := by decide +kernel
theorem dX4_addTo_94 : decode cX4_addTo 94 = .ok (.aload_n 0, 1) := by decide +kernel
theorem dX4_addTo_95 : decode cX4_addTo 95 = .ok (.iload 5, 2) := by decide +kernel
theorem dX4_addTo_97 : decode cX4_addTo 97 = .ok (.invokevirtual 79, 3) := by decide +kernel
theorem dX4_addTo_100 : decode cX4_addTo 100 = .ok (.ifCond .eq 7, 3) := by decide +kernel
theorem dX4_addTo_103 : decode cX4_addTo 103 = .ok (.iconst 1, 1) := by decide +kernel
theorem dX4_addTo_104 : decode cX4_addTo 104 = .ok (.goto 4, 3) := by decide +kernel
theorem dX4_addTo_107 : decode cX4_addTo 107 = .ok (.iconst 0, 1) := by decide +kernel
theorem dX4_addTo_108 : decode cX4_addTo 108 = .ok (.i2l, 1) := by decide +kernel
theorem dX4_addTo_109 : decode cX4_addTo 109 = .ok (.ladd, 1) := by decide +kernel
theorem dX4_addTo_110 : decode cX4_addTo 110 = .ok (.lstore_n 3, 1) := by decide +kernel
theorem dX4_addTo_111 : decode cX4_addTo 111 = .ok (.ldc2_w 120, 3) := by decide +kernel
theorem dX4_addTo_114 : decode cX4_addTo 114 = .ok (.lload_n 3, 1) := by decide +kernel
theorem dX4_addTo_115 : decode cX4_addTo 115 = .ok (.lmul, 1) := by decide +kernel
theorem dX4_addTo_116 : decode cX4_addTo 116 = .ok (.aload_n 0, 1) := by decide +kernel
theorem dX4_addTo_117 : decode cX4_addTo 117 = .ok (.getfield 40, 3) := by decide +kernel
theorem dX4_addTo_120 : decode cX4_addTo 120 = .ok (.iload 5, 2) := by decide +kernel
theorem dX4_addTo_122 : decode cX4_addTo 122 = .ok (.iaload, 1) := by decide +kernel
theorem dX4_addTo_123 : decode cX4_addTo 123 = .ok (.i2l, 1) := by decide +kernel
theorem dX4_addTo_124 : decode cX4_addTo 124 = .ok (.ladd, 1) := by decide +kernel
theorem dX4_addTo_125 : decode cX4_addTo 125 = .ok (.lstore_n 3, 1) := by decide +kernel
theorem dX4_addTo_126 : decode cX4_addTo 126 = .ok (.iinc 5 1, 3) := by decide +kernel
theorem dX4_addTo_129 : decode cX4_addTo 129 = .ok (.goto (-124), 3) := by decide +kernel
theorem dX4_addTo_132 : decode cX4_addTo 132 = .ok (.iconst 0, 1) := by decide +kernel
theorem dX4_addTo_133 : decode cX4_addTo 133 = .ok (.istore 5, 2) := by decide +kernel
theorem dX4_addTo_135 : decode cX4_addTo 135 = .ok (.iload 5, 2) := by decide +kernel
theorem dX4_addTo_137 : decode cX4_addTo 137 = .ok (.aload_n 0, 1) := by decide +kernel
theorem dX4_addTo_138 : decode cX4_addTo 138 = .ok (.getfield 9, 3) := by decide +kernel
theorem dX4_addTo_141 : decode cX4_addTo 141 = .ok (.if_icmp .ge 54, 3) := by decide +kernel
theorem dX4_addTo_144 : decode cX4_addTo 144 = .ok (.iload 5, 2) := by decide +kernel
theorem dX4_addTo_146 : decode cX4_addTo 146 = .ok (.iconst 1, 1) := by decide +kernel
theorem dX4_addTo_147 : decode cX4_addTo 147 = .ok (.iadd, 1) := by decide +kernel
theorem dX4_addTo_148 : decode cX4_addTo 148 = .ok (.istore 6, 2) := by decide +kernel
theorem dX4_addTo_150 : decode cX4_addTo 150 = .ok (.iload 6, 2) := by decide +kernel
theorem dX4_addTo_152 : decode cX4_addTo 152 = .ok (.aload_n 0, 1) := by decide +kernel
theorem dX4_addTo_153 : decode cX4_addTo 153 = .ok (.getfield 9, 3) := by decide +kernel
theorem dX4_addTo_156 : decode cX4_addTo 156 = .ok (.if_icmp .ge 33, 3) := by decide +kernel
theorem dX4_addTo_159 : decode cX4_addTo 159 = .ok (.ldc2_w 120, 3) := by decide +kernel
theorem dX4_addTo_162 : decode cX4_addTo 162 = .ok (.lload_n 3, 1) := by decide +kernel
theorem dX4_addTo_163 : decode cX4_addTo 163 = .ok (.lmul, 1) := by decide +kernel
theorem dX4_addTo_164 : decode cX4_addTo 164 = .ok (.aload_n 0, 1) := by decide +kernel
theorem dX4_addTo_165 : decode cX4_addTo 165 = .ok (.iload 5, 2) := by decide +kernel
theorem dX4_addTo_167 : decode cX4_addTo 167 = .ok (.iload 6, 2) := by decide +kernel
theorem dX4_addTo_169 : decode cX4_addTo 169 = .ok (.invokevirtual 76, 3) := by decide +kernel
theorem dX4_addTo_172 : decode cX4_addTo 172 = .ok (.ifCond .eq 7, 3) := by decide +kernel
theorem dX4_addTo_175 : decode cX4_addTo 175 = .ok (.iconst 1, 1) := by decide +kernel
theorem dX4_addTo_176 : decode cX4_addTo 176 = .ok (.goto 4, 3) := by decide +kernel
theorem dX4_addTo_179 : decode cX4_addTo 179 = .ok (.iconst 0, 1) := by decide +kernel
theorem dX4_addTo_180 : decode cX4_addTo 180 = .ok (.i2l, 1) := by decide +kernel
theorem dX4_addTo_181 : decode cX4_addTo 181 = .ok (.ladd, 1) := by decide +kernel
theorem dX4_addTo_182 : decode cX4_addTo 182 = .ok (.lstore_n 3, 1) := by decide +kernel
theorem dX4_addTo_183 : decode cX4_addTo 183 = .ok (.iinc 6 1, 3) := by decide +kernel
theorem dX4_addTo_186 : decode cX4_addTo 186 = .ok (.goto (-36), 3) := by decide +kernel
theorem dX4_addTo_189 : decode cX4_addTo 189 = .ok (.iinc 5 1, 3) := by decide +kernel
theorem dX4_addTo_192 : decode cX4_addTo 192 = .ok (.goto (-57), 3) := by decide +kernel
theorem dX4_addTo_195 : decode cX4_addTo 195 = .ok (.iconst 0, 1) := by decide +kernel
theorem dX4_addTo_196 : decode cX4_addTo 196 = .ok (.istore 5, 2) := by decide +kernel
theorem dX4_addTo_198 : decode cX4_addTo 198 = .ok (.iload 5, 2) := by decide +kernel
theorem dX4_addTo_200 : decode cX4_addTo 200 = .ok (.aload_n 0, 1) := by decide +kernel
theorem dX4_addTo_201 : decode cX4_addTo 201 = .ok (.getfield 18, 3) := by decide +kernel
theorem dX4_addTo_204 : decode cX4_addTo 204 = .ok (.if_icmp .ge 39, 3) := by decide +kernel
theorem dX4_addTo_207 : decode cX4_addTo 207 = .ok (.ldc2_w 120, 3) := by decide +kernel
theorem dX4_addTo_210 : decode cX4_addTo 210 = .ok (.lload_n 3, 1) := by decide +kernel
theorem dX4_addTo_211 : decode cX4_addTo 211 = .ok (.lmul, 1) := by decide +kernel
theorem dX4_addTo_212 : decode cX4_addTo 212 = .ok (.aload_n 0, 1) := by decide +kernel
theorem dX4_addTo_213 : decode cX4_addTo 213 = .ok (.getfield 46, 3) := by decide +kernel
theorem dX4_addTo_216 : decode cX4_addTo 216 = .ok (.iload 5, 2) := by decide +kernel
theorem dX4_addTo_218 : decode cX4_addTo 218 = .ok (.iaload, 1) := by decide +kernel
theorem dX4_addTo_219 : decode cX4_addTo 219 = .ok (.i2l, 1) := by decide +kernel
theorem dX4_addTo_220 : decode cX4_addTo 220 = .ok (.ladd, 1) := by decide +kernel
theorem dX4_addTo_221 : decode cX4_addTo 221 = .ok (.lstore_n 3, 1) := by decide +kernel
theorem dX4_addTo_222 : decode cX4_addTo 222 = .ok (.ldc2_w 120, 3) := by decide +kernel
theorem dX4_addTo_225 : decode cX4_addTo 225 = .ok (.lload_n 3, 1) := by decide +kernel
theorem dX4_addTo_226 : decode cX4_addTo 226 = .ok (.lmul, 1) := by decide +kernel
theorem dX4_addTo_227 : decode cX4_addTo 227 = .ok (.aload_n 0, 1) := by decide +kernel
theorem dX4_addTo_228 : decode cX4_addTo 228 = .ok (.getfield 49, 3) := by decide +kernel
theorem dX4_addTo_231 : decode cX4_addTo 231 = .ok (.iload 5, 2) := by decide +kernel
theorem dX4_addTo_233 : decode cX4_addTo 233 = .ok (.iaload, 1) := by decide +kernel
theorem dX4_addTo_234 : decode cX4_addTo 234 = .ok (.i2l, 1) := by decide +kernel
theorem dX4_addTo_235 : decode cX4_addTo 235 = .ok (.ladd, 1) := by decide +kernel
theorem dX4_addTo_236 : decode cX4_addTo 236 = .ok (.lstore_n 3, 1) := by decide +kernel
theorem dX4_addTo_237 : decode cX4_addTo 237 = .ok (.iinc 5 1, 3) := by decide +kernel
theorem dX4_addTo_240 : decode cX4_addTo 240 = .ok (.goto (-42), 3) := by decide +kernel
theorem dX4_addTo_243 : decode cX4_addTo 243 = .ok (.iconst 0, 1) := by decide +kernel
theorem dX4_addTo_244 : decode cX4_addTo 244 = .ok (.istore 5, 2) := by decide +kernel
theorem dX4_addTo_246 : decode cX4_addTo 246 = .ok (.iload 5, 2) := by decide +kernel
theorem dX4_addTo_248 : decode cX4_addTo 248 = .ok (.iconst 4, 1) := by decide +kernel
theorem dX4_addTo_249 : decode cX4_addTo 249 = .ok (.if_icmp .ge 51, 3) := by decide +kernel
theorem dX4_addTo_252 : decode cX4_addTo 252 = .ok (.iload 5, 2) := by decide +kernel
theorem dX4_addTo_254 : decode cX4_addTo 254 = .ok (.iconst 1, 1) := by decide +kernel
theorem dX4_addTo_255 : decode cX4_addTo 255 = .ok (.iadd, 1) := by decide +kernel
theorem dX4_addTo_256 : decode cX4_addTo 256 = .ok (.istore 6, 2) := by decide +kernel
theorem dX4_addTo_258 : decode cX4_addTo 258 = .ok (.iload 6, 2) := by decide +kernel
theorem dX4_addTo_260 : decode cX4_addTo 260 = .ok (.iconst 4, 1) := by decide +kernel
theorem dX4_addTo_261 : decode cX4_addTo 261 = .ok (.if_icmp .ge 33, 3) := by decide +kernel
theorem dX4_addTo_264 : decode cX4_addTo 264 = .ok (.ldc2_w 120, 3) := by decide +kernel
theorem dX4_addTo_267 : decode cX4_addTo 267 = .ok (.lload_n 3, 1) := by decide +kernel
theorem dX4_addTo_268 : decode cX4_addTo 268 = .ok (.lmul, 1) := by decide +kernel
theorem dX4_addTo_269 : decode cX4_addTo 269 = .ok (.aload_n 0, 1) := by decide +kernel
theorem dX4_addTo_270 : decode cX4_addTo 270 = .ok (.iload 5, 2) := by decide +kernel
theorem dX4_addTo_272 : decode cX4_addTo 272 = .ok (.iload 6, 2) := by decide +kernel
theorem dX4_addTo_274 : decode cX4_addTo 274 = .ok (.invokevirtual 82, 3) := by decide +kernel
theorem dX4_addTo_277 : decode cX4_addTo 277 = .ok (.ifCond .eq 7, 3) := by decide +kernel
theorem dX4_addTo_280 : decode cX4_addTo 280 = .ok (.iconst 1, 1) := by decide +kernel
theorem dX4_addTo_281 : decode cX4_addTo 281 = .ok (.goto 4, 3) := by decide +kernel
theorem dX4_addTo_284 : decode cX4_addTo 284 = .ok (.iconst 0, 1) := by decide +kernel
theorem dX4_addTo_285 : decode cX4_addTo 285 = .ok (.i2l, 1) := by decide +kernel
theorem dX4_addTo_286 : decode cX4_addTo 286 = .ok (.ladd, 1) := by decide +kernel
theorem dX4_addTo_287 : decode cX4_addTo 287 = .ok (.lstore_n 3, 1) := by decide +kernel
theorem dX4_addTo_288 : decode cX4_addTo 288 = .ok (.iinc 6 1, 3) := by decide +kernel
theorem dX4_addTo_291 : decode cX4_addTo 291 = .ok (.goto (-33), 3) := by decide +kernel
theorem dX4_addTo_294 : decode cX4_addTo 294 = .ok (.iinc 5 1, 3) := by decide +kernel
theorem dX4_addTo_297 : decode cX4_addTo 297 = .ok (.goto (-51), 3) := by decide +kernel
theorem dX4_addTo_300 : decode cX4_addTo 300 = .ok (.lload_n 3, 1) := by decide +kernel
theorem dX4_addTo_301 : decode cX4_addTo 301 = .ok (.lreturn, 1) := by decide +kernel
