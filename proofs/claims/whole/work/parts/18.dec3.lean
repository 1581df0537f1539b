theorem dX6_street_0 : decode cX6_street 0 = .ok (.aload_n 0, 1) := by decide +kernel
theorem dX6_street_1 : decode cX6_street 1 = .ok (.getfield 10, 3) := by decide +kernel
theorem dX6_street_4 : decode cX6_street 4 = .ok (.getfield 74, 3) := by decide +kernel
theorem dX6_street_7 : decode cX6_street 7 = .ok (.istore_n 1, 1) := by decide +kernel
theorem dX6_street_8 : decode cX6_street 8 = .ok (.aload_n 0, 1) := by decide +kernel
theorem dX6_street_9 : decode cX6_street 9 = .ok (.getfield 10, 3) := by decide +kernel
theorem dX6_street_12 : decode cX6_street 12 = .ok (.invokevirtual 77, 3) := by decide +kernel
theorem dX6_street_15 : decode cX6_street 15 = .ok (.aload_n 0, 1) := by decide +kernel
theorem dX6_street_16 : decode cX6_street 16 = .ok (.getfield 22, 3) := by decide +kernel
theorem dX6_street_19 : decode cX6_street 19 = .ok (.invokevirtual 80, 3) := by decide +kernel
theorem dX6_street_22 : decode cX6_street 22 = .ok (.iload_n 1, 1) := by decide +kernel
theorem dX6_street_23 : decode cX6_street 23 = .ok (.ireturn, 1) := by decide +kernel
theorem dX6_house_0 : decode cX6_house 0 = .ok (.aload_n 0, 1) := by decide +kernel
theorem dX6_house_1 : decode cX6_house 1 = .ok (.aload_n 0, 1) := by decide +kernel
theorem dX6_house_2 : decode cX6_house 2 = .ok (.getfield 10, 3) := by decide +kernel
theorem dX6_house_5 : decode cX6_house 5 = .ok (.iload_n 1, 1) := by decide +kernel
theorem dX6_house_6 : decode cX6_house 6 = .ok (.iload_n 2, 1) := by decide +kernel
theorem dX6_house_7 : decode cX6_house 7 = .ok (.iload_n 3, 1) := by decide +kernel
theorem dX6_house_8 : decode cX6_house 8 = .ok (.invokevirtual 83, 3) := by decide +kernel
theorem dX6_house_11 : decode cX6_house 11 = .ok (.bipush (-2), 2) := by decide +kernel
theorem dX6_house_13 : decode cX6_house 13 = .ok (.invokevirtual 87, 3) := by decide +kernel
theorem dX6_house_16 : decode cX6_house 16 = .ok (.ireturn, 1) := by decide +kernel
theorem dX6_builtFrom_0 : decode cX6_builtFrom 0 = .ok (.aload_n 0, 1) := by decide +kernel
theorem dX6_builtFrom_1 : decode cX6_builtFrom 1 = .ok (.aload_n 0, 1) := by decide +kernel
theorem dX6_builtFrom_2 : decode cX6_builtFrom 2 = .ok (.getfield 10, 3) := by decide +kernel
theorem dX6_builtFrom_5 : decode cX6_builtFrom 5 = .ok (.iload_n 1, 1) := by decide +kernel
theorem dX6_builtFrom_6 : decode cX6_builtFrom 6 = .ok (.iload_n 2, 1) := by decide +kernel
theorem dX6_builtFrom_7 : decode cX6_builtFrom 7 = .ok (.invokevirtual 91, 3) := by decide +kernel
theorem dX6_builtFrom_10 : decode cX6_builtFrom 10 = .ok (.bipush (-10), 2) := by decide +kernel
theorem dX6_builtFrom_12 : decode cX6_builtFrom 12 = .ok (.invokevirtual 87, 3) := by decide +kernel
theorem dX6_builtFrom_15 : decode cX6_builtFrom 15 = .ok (.ireturn, 1) := by decide +kernel
theorem dX6_will_0 : decode cX6_will 0 = .ok (.aload_n 0, 1) := by decide +kernel
theorem dX6_will_1 : decode cX6_will 1 = .ok (.aload_n 0, 1) := by decide +kernel
theorem dX6_will_2 : decode cX6_will 2 = .ok (.getfield 10, 3) := by decide +kernel
theorem dX6_will_5 : decode cX6_will 5 = .ok (.iload_n 1, 1) := by decide +kernel
theorem dX6_will_6 : decode cX6_will 6 = .ok (.iload_n 2, 1) := by decide +kernel
theorem dX6_will_7 : decode cX6_will 7 = .ok (.invokevirtual 94, 3) := by decide +kernel
theorem dX6_will_10 : decode cX6_will 10 = .ok (.bipush (-2), 2) := by decide +kernel
theorem dX6_will_12 : decode cX6_will 12 = .ok (.invokevirtual 87, 3) := by decide +kernel
theorem dX6_will_15 : decode cX6_will 15 = .ok (.ireturn, 1) := by decide +kernel
theorem dX6_wall_0 : decode cX6_wall 0 = .ok (.aload_n 0, 1) := by decide +kernel
theorem dX6_wall_1 : decode cX6_wall 1 = .ok (.aload_n 0, 1) := by decide +kernel
theorem dX6_wall_2 : decode cX6_wall 2 = .ok (.getfield 10, 3) := by decide +kernel
theorem dX6_wall_5 : decode cX6_wall 5 = .ok (.iload_n 1, 1) := by decide +kernel
theorem dX6_wall_6 : decode cX6_wall 6 = .ok (.iload_n 2, 1) := by decide +kernel
theorem dX6_wall_7 : decode cX6_wall 7 = .ok (.iload_n 3, 1) := by decide +kernel
theorem dX6_wall_8 : decode cX6_wall 8 = .ok (.invokevirtual 97, 3) := by decide +kernel
theorem dX6_wall_11 : decode cX6_wall 11 = .ok (.bipush (-2), 2) := by decide +kernel
theorem dX6_wall_13 : decode cX6_wall 13 = .ok (.invokevirtual 87, 3) := by decide +kernel
theorem dX6_wall_16 : decode cX6_wall 16 = .ok (.ireturn, 1) := by decide +kernel
theorem dX6_one_0 : decode cX6_one 0 = .ok (.aload_n 0, 1) := by decide +kernel
theorem dX6_one_1 : decode cX6_one 1 = .ok (.aload_n 0, 1) := by decide +kernel
theorem dX6_one_2 : decode cX6_one 2 = .ok (.getfield 10, 3) := by decide +kernel
theorem dX6_one_5 : decode cX6_one 5 = .ok (.iload_n 1, 1) := by decide +kernel
theorem dX6_one_6 : decode cX6_one 6 = .ok (.iload_n 2, 1) := by decide +kernel
theorem dX6_one_7 : decode cX6_one 7 = .ok (.invokevirtual 101, 3) := by decide +kernel
theorem dX6_one_10 : decode cX6_one 10 = .ok (.bipush (-2), 2) := by decide +kernel
theorem dX6_one_12 : decode cX6_one 12 = .ok (.invokevirtual 87, 3) := by decide +kernel
theorem dX6_one_15 : decode cX6_one 15 = .ok (.ireturn, 1) := by decide +kernel
theorem dX6_feud_0 : decode cX6_feud 0 = .ok (.aload_n 0, 1) := by decide +kernel
theorem dX6_feud_1 : decode cX6_feud 1 = .ok (.aload_n 0, 1) := by decide +kernel
theorem dX6_feud_2 : decode cX6_feud 2 = .ok (.getfield 10, 3) := by decide +kernel
theorem dX6_feud_5 : decode cX6_feud 5 = .ok (.iload_n 1, 1) := by decide +kernel
theorem dX6_feud_6 : decode cX6_feud 6 = .ok (.iload_n 2, 1) := by decide +kernel
theorem dX6_feud_7 : decode cX6_feud 7 = .ok (.iload_n 3, 1) := by decide +kernel
theorem dX6_feud_8 : decode cX6_feud 8 = .ok (.invokevirtual 104, 3) := by decide +kernel
theorem dX6_feud_11 : decode cX6_feud 11 = .ok (.bipush (-2), 2) := by decide +kernel
theorem dX6_feud_13 : decode cX6_feud 13 = .ok (.invokevirtual 87, 3) := by decide +kernel
theorem dX6_feud_16 : decode cX6_feud 16 = .ok (.ireturn, 1) := by decide +kernel
theorem dX6_mark_0 : decode cX6_mark 0 = .ok (.aload_n 0, 1) := by decide +kernel
theorem dX6_mark_1 : decode cX6_mark 1 = .ok (.aload_n 0, 1) := by decide +kernel
theorem dX6_mark_2 : decode cX6_mark 2 = .ok (.getfield 10, 3) := by decide +kernel
theorem dX6_mark_5 : decode cX6_mark 5 = .ok (.iload_n 1, 1) := by decide +kernel
theorem dX6_mark_6 : decode cX6_mark 6 = .ok (.iload_n 2, 1) := by decide +kernel
theorem dX6_mark_7 : decode cX6_mark 7 = .ok (.invokevirtual 107, 3) := by decide +kernel
theorem dX6_mark_10 : decode cX6_mark 10 = .ok (.bipush (-2), 2) := by decide +kernel
theorem dX6_mark_12 : decode cX6_mark 12 = .ok (.invokevirtual 87, 3) := by decide +kernel
theorem dX6_mark_15 : decode cX6_mark 15 = .ok (.ireturn, 1) := by decide +kernel
theorem dX6_type_0 : decode cX6_type 0 = .ok (.iload_n 1, 1) := by decide +kernel
theorem dX6_type_1 : decode cX6_type 1 = .ok (.ifCond .lt 9, 3) := by decide +kernel
theorem dX6_type_4 : decode cX6_type 4 = .ok (.iload_n 1, 1) := by decide +kernel
theorem dX6_type_5 : decode cX6_type 5 = .ok (.bipush 127, 2) := by decide +kernel
theorem dX6_type_7 : decode cX6_type 7 = .ok (.if_icmp .le 12, 3) := by decide +kernel
theorem dX6_type_10 : decode cX6_type 10 = .ok (.aload_n 0, 1) := by decide +kernel
theorem dX6_type_11 : decode cX6_type 11 = .ok (.bipush (-2), 2) := by decide +kernel
theorem dX6_type_13 : decode cX6_type 13 = .ok (.bipush (-2), 2) := by decide +kernel
theorem dX6_type_15 : decode cX6_type 15 = .ok (.invokevirtual 110, 3) := by decide +kernel
theorem dX6_type_18 : decode cX6_type 18 = .ok (.ireturn, 1) := by decide +kernel
theorem dX6_type_19 : decode cX6_type 19 = .ok (.aload_n 0, 1) := by decide +kernel
theorem dX6_type_20 : decode cX6_type 20 = .ok (.getfield 39, 3) := by decide +kernel
theorem dX6_type_23 : decode cX6_type 23 = .ok (.getfield 113, 3) := by decide +kernel
theorem dX6_type_26 : decode cX6_type 26 = .ok (.sipush 150, 3) := by decide +kernel
theorem dX6_type_29 : decode cX6_type 29 = .ok (.if_icmp .lt 12, 3) := by decide +kernel
theorem dX6_type_32 : decode cX6_type 32 = .ok (.aload_n 0, 1) := by decide +kernel
theorem dX6_type_33 : decode cX6_type 33 = .ok (.bipush (-4), 2) := by decide +kernel
theorem dX6_type_35 : decode cX6_type 35 = .ok (.bipush (-4), 2) := by decide +kernel
theorem dX6_type_37 : decode cX6_type 37 = .ok (.invokevirtual 110, 3) := by decide +kernel
theorem dX6_type_40 : decode cX6_type 40 = .ok (.ireturn, 1) := by decide +kernel
theorem dX6_type_41 : decode cX6_type 41 = .ok (.aload_n 0, 1) := by decide +kernel
theorem dX6_type_42 : decode cX6_type 42 = .ok (.getfield 39, 3) := by decide +kernel
theorem dX6_type_45 : decode cX6_type 45 = .ok (.iload_n 1, 1) := by decide +kernel
theorem dX6_type_46 : decode cX6_type 46 = .ok (.invokevirtual 116, 3) := by decide +kernel
theorem dX6_type_49 : decode cX6_type 49 = .ok (.ireturn, 1) := by decide +kernel
theorem dX6_clear_0 : decode cX6_clear 0 = .ok (.aload_n 0, 1) := by decide +kernel
theorem dX6_clear_1 : decode cX6_clear 1 = .ok (.getfield 39, 3) := by decide +kernel
theorem dX6_clear_4 : decode cX6_clear 4 = .ok (.getfield 113, 3) := by decide +kernel
theorem dX6_clear_7 : decode cX6_clear 7 = .ok (.istore_n 1, 1) := by decide +kernel
theorem dX6_clear_8 : decode cX6_clear 8 = .ok (.aload_n 0, 1) := by decide +kernel
theorem dX6_clear_9 : decode cX6_clear 9 = .ok (.getfield 39, 3) := by decide +kernel
theorem dX6_clear_12 : decode cX6_clear 12 = .ok (.iconst 0, 1) := by decide +kernel
theorem dX6_clear_13 : decode cX6_clear 13 = .ok (.putfield 113, 3) := by decide +kernel
theorem dX6_clear_16 : decode cX6_clear 16 = .ok (.iload_n 1, 1) := by decide +kernel
theorem dX6_clear_17 : decode cX6_clear 17 = .ok (.ireturn, 1) := by decide +kernel
theorem dX6_read_0 : decode cX6_read 0 = .ok (.aload_n 0, 1) := by decide +kernel
theorem dX6_read_1 : decode cX6_read 1 = .ok (.getfield 39, 3) := by decide +kernel
theorem dX6_read_4 : decode cX6_read 4 = .ok (.invokevirtual 120, 3) := by decide +kernel
theorem dX6_read_7 : decode cX6_read 7 = .ok (.istore_n 1, 1) := by decide +kernel
theorem dX6_read_8 : decode cX6_read 8 = .ok (.iload_n 1, 1) := by decide +kernel
theorem dX6_read_9 : decode cX6_read 9 = .ok (.iconst (-1), 1) := by decide +kernel
theorem dX6_read_10 : decode cX6_read 10 = .ok (.if_icmp .eq 8, 3) := by decide +kernel
theorem dX6_read_13 : decode cX6_read 13 = .ok (.bipush (-10), 2) := by decide +kernel
theorem dX6_read_15 : decode cX6_read 15 = .ok (.iload_n 1, 1) := by decide +kernel
theorem dX6_read_16 : decode cX6_read 16 = .ok (.isub, 1) := by decide +kernel
theorem dX6_read_17 : decode cX6_read 17 = .ok (.ireturn, 1) := by decide +kernel
theorem dX6_read_18 : decode cX6_read 18 = .ok (.aload_n 0, 1) := by decide +kernel
theorem dX6_read_19 : decode cX6_read 19 = .ok (.getfield 39, 3) := by decide +kernel
theorem dX6_read_22 : decode cX6_read 22 = .ok (.aload_n 0, 1) := by decide +kernel
theorem dX6_read_23 : decode cX6_read 23 = .ok (.getfield 16, 3) := by decide +kernel
theorem dX6_read_26 : decode cX6_read 26 = .ok (.invokevirtual 124, 3) := by decide +kernel
theorem dX6_read_29 : decode cX6_read 29 = .ok (.istore_n 2, 1) := by decide +kernel
theorem dX6_read_30 : decode cX6_read 30 = .ok (.iload_n 2, 1) := by decide +kernel
theorem dX6_read_31 : decode cX6_read 31 = .ok (.iconst (-1), 1) := by decide +kernel
theorem dX6_read_32 : decode cX6_read 32 = .ok (.if_icmp .eq 9, 3) := by decide +kernel
theorem dX6_read_35 : decode cX6_read 35 = .ok (.sipush (-1000), 3) := by decide +kernel
theorem dX6_read_38 : decode cX6_read 38 = .ok (.iload_n 2, 1) := by decide +kernel
theorem dX6_read_39 : decode cX6_read 39 = .ok (.isub, 1) := by decide +kernel
theorem dX6_read_40 : decode cX6_read 40 = .ok (.ireturn, 1) := by decide +kernel
theorem dX6_read_41 : decode cX6_read 41 = .ok (.aload_n 0, 1) := by decide +kernel
theorem dX6_read_42 : decode cX6_read 42 = .ok (.getfield 10, 3) := by decide +kernel
theorem dX6_read_45 : decode cX6_read 45 = .ok (.aload_n 0, 1) := by decide +kernel
theorem dX6_read_46 : decode cX6_read 46 = .ok (.getfield 16, 3) := by decide +kernel
theorem dX6_read_49 : decode cX6_read 49 = .ok (.invokevirtual 128, 3) := by decide +kernel
theorem dX6_read_52 : decode cX6_read 52 = .ok (.aload_n 0, 1) := by decide +kernel
theorem dX6_read_53 : decode cX6_read 53 = .ok (.getfield 22, 3) := by decide +kernel
theorem dX6_read_56 : decode cX6_read 56 = .ok (.invokevirtual 80, 3) := by decide +kernel
theorem dX6_read_59 : decode cX6_read 59 = .ok (.aload_n 0, 1) := by decide +kernel
theorem dX6_read_60 : decode cX6_read 60 = .ok (.getfield 39, 3) := by decide +kernel
theorem dX6_read_63 : decode cX6_read 63 = .ok (.getfield 132, 3) := by decide +kernel
theorem dX6_read_66 : decode cX6_read 66 = .ok (.ireturn, 1) := by decide +kernel
theorem dX6_fall_0 : decode cX6_fall 0 = .ok (.aload_n 0, 1) := by decide +kernel
theorem dX6_fall_1 : decode cX6_fall 1 = .ok (.getfield 10, 3) := by decide +kernel
theorem dX6_fall_4 : decode cX6_fall 4 = .ok (.iload_n 1, 1) := by decide +kernel
theorem dX6_fall_5 : decode cX6_fall 5 = .ok (.invokevirtual 135, 3) := by decide +kernel
theorem dX6_fall_8 : decode cX6_fall 8 = .ok (.ifCond .ne 12, 3) := by decide +kernel
theorem dX6_fall_11 : decode cX6_fall 11 = .ok (.aload_n 0, 1) := by decide +kernel
theorem dX6_fall_12 : decode cX6_fall 12 = .ok (.bipush (-2), 2) := by decide +kernel
theorem dX6_fall_14 : decode cX6_fall 14 = .ok (.bipush (-10), 2) := by decide +kernel
theorem dX6_fall_16 : decode cX6_fall 16 = .ok (.invokevirtual 110, 3) := by decide +kernel
theorem dX6_fall_19 : decode cX6_fall 19 = .ok (.ireturn, 1) := by decide +kernel
theorem dX6_fall_20 : decode cX6_fall 20 = .ok (.aload_n 0, 1) := by decide +kernel
theorem dX6_fall_21 : decode cX6_fall 21 = .ok (.getfield 10, 3) := by decide +kernel
theorem dX6_fall_24 : decode cX6_fall 24 = .ok (.iload_n 1, 1) := by decide +kernel
theorem dX6_fall_25 : decode cX6_fall 25 = .ok (.invokevirtual 139, 3) := by decide +kernel
theorem dX6_fall_28 : decode cX6_fall 28 = .ok (.ifCond .ne 12, 3) := by decide +kernel
theorem dX6_fall_31 : decode cX6_fall 31 = .ok (.aload_n 0, 1) := by decide +kernel
theorem dX6_fall_32 : decode cX6_fall 32 = .ok (.bipush (-3), 2) := by decide +kernel
theorem dX6_fall_34 : decode cX6_fall 34 = .ok (.bipush (-20), 2) := by decide +kernel
theorem dX6_fall_36 : decode cX6_fall 36 = .ok (.invokevirtual 110, 3) := by decide +kernel
theorem dX6_fall_39 : decode cX6_fall 39 = .ok (.ireturn, 1) := by decide +kernel
theorem dX6_fall_40 : decode cX6_fall 40 = .ok (.aload_n 0, 1) := by decide +kernel
theorem dX6_fall_41 : decode cX6_fall 41 = .ok (.getfield 22, 3) := by decide +kernel
theorem dX6_fall_44 : decode cX6_fall 44 = .ok (.aload_n 0, 1) := by decide +kernel
theorem dX6_fall_45 : decode cX6_fall 45 = .ok (.getfield 10, 3) := by decide +kernel
theorem dX6_fall_48 : decode cX6_fall 48 = .ok (.invokevirtual 142, 3) := by decide +kernel
theorem dX6_fall_51 : decode cX6_fall 51 = .ok (.aload_n 0, 1) := by decide +kernel
theorem dX6_fall_52 : decode cX6_fall 52 = .ok (.getfield 10, 3) := by decide +kernel
theorem dX6_fall_55 : decode cX6_fall 55 = .ok (.iload_n 1, 1) := by decide +kernel
theorem dX6_fall_56 : decode cX6_fall 56 = .ok (.invokevirtual 145, 3) := by decide +kernel
theorem dX6_fall_59 : decode cX6_fall 59 = .ok (.ireturn, 1) := by decide +kernel
theorem dX6_year_0 : decode cX6_year 0 = .ok (.iload_n 1, 1) := by decide +kernel
theorem dX6_year_1 : decode cX6_year 1 = .ok (.iconst 1, 1) := by decide +kernel
theorem dX6_year_2 : decode cX6_year 2 = .ok (.if_icmp .lt 9, 3) := by decide +kernel
theorem dX6_year_5 : decode cX6_year 5 = .ok (.iload_n 1, 1) := by decide +kernel
theorem dX6_year_6 : decode cX6_year 6 = .ok (.bipush 20, 2) := by decide +kernel
theorem dX6_year_8 : decode cX6_year 8 = .ok (.if_icmp .le 12, 3) := by decide +kernel
theorem dX6_year_11 : decode cX6_year 11 = .ok (.aload_n 0, 1) := by decide +kernel
theorem dX6_year_12 : decode cX6_year 12 = .ok (.bipush (-2), 2) := by decide +kernel
theorem dX6_year_14 : decode cX6_year 14 = .ok (.bipush (-2), 2) := by decide +kernel
theorem dX6_year_16 : decode cX6_year 16 = .ok (.invokevirtual 110, 3) := by decide +kernel
theorem dX6_year_19 : decode cX6_year 19 = .ok (.ireturn, 1) := by decide +kernel
theorem dX6_year_20 : decode cX6_year 20 = .ok (.iconst 0, 1) := by decide +kernel
theorem dX6_year_21 : decode cX6_year 21 = .ok (.istore_n 2, 1) := by decide +kernel
theorem dX6_year_22 : decode cX6_year 22 = .ok (.iload_n 2, 1) := by decide +kernel
theorem dX6_year_23 : decode cX6_year 23 = .ok (.iload_n 1, 1) := by decide +kernel
theorem dX6_year_24 : decode cX6_year 24 = .ok (.if_icmp .ge 27, 3) := by decide +kernel
theorem dX6_year_27 : decode cX6_year 27 = .ok (.aload_n 0, 1) := by decide +kernel
theorem dX6_year_28 : decode cX6_year 28 = .ok (.getfield 22, 3) := by decide +kernel
theorem dX6_year_31 : decode cX6_year 31 = .ok (.aload_n 0, 1) := by decide +kernel
theorem dX6_year_32 : decode cX6_year 32 = .ok (.getfield 10, 3) := by decide +kernel
theorem dX6_year_35 : decode cX6_year 35 = .ok (.invokevirtual 142, 3) := by decide +kernel
theorem dX6_year_38 : decode cX6_year 38 = .ok (.aload_n 0, 1) := by decide +kernel
theorem dX6_year_39 : decode cX6_year 39 = .ok (.getfield 10, 3) := by decide +kernel
theorem dX6_year_42 : decode cX6_year 42 = .ok (.invokevirtual 148, 3) := by decide +kernel
theorem dX6_year_45 : decode cX6_year 45 = .ok (.iinc 2 1, 3) := by decide +kernel
theorem dX6_year_48 : decode cX6_year 48 = .ok (.goto (-26), 3) := by decide +kernel
theorem dX6_year_51 : decode cX6_year 51 = .ok (.aload_n 0, 1) := by decide +kernel
theorem dX6_year_52 : decode cX6_year 52 = .ok (.getfield 10, 3) := by decide +kernel
theorem dX6_year_55 : decode cX6_year 55 = .ok (.getfield 151, 3) := by decide +kernel
theorem dX6_year_58 : decode cX6_year 58 = .ok (.invokestatic 154, 3) := by decide +kernel
theorem dX6_year_61 : decode cX6_year 61 = .ok (.ireturn, 1) := by decide +kernel
theorem dX6_move_0 : decode cX6_move 0 = .ok (.aload_n 0, 1) := by decide +kernel
theorem dX6_move_1 : decode cX6_move 1 = .ok (.getfield 10, 3) := by decide +kernel
theorem dX6_move_4 : decode cX6_move 4 = .ok (.iload_n 1, 1) := by decide +kernel
theorem dX6_move_5 : decode cX6_move 5 = .ok (.invokevirtual 159, 3) := by decide +kernel
theorem dX6_move_8 : decode cX6_move 8 = .ok (.ifCond .eq 19, 3) := by decide +kernel
theorem dX6_move_11 : decode cX6_move 11 = .ok (.iload_n 2, 1) := by decide +kernel
theorem dX6_move_12 : decode cX6_move 12 = .ok (.iconst (-1), 1) := by decide +kernel
theorem dX6_move_13 : decode cX6_move 13 = .ok (.if_icmp .eq 23, 3) := by decide +kernel
theorem dX6_move_16 : decode cX6_move 16 = .ok (.aload_n 0, 1) := by decide +kernel
theorem dX6_move_17 : decode cX6_move 17 = .ok (.getfield 10, 3) := by decide +kernel
theorem dX6_move_20 : decode cX6_move 20 = .ok (.iload_n 2, 1) := by decide +kernel
theorem dX6_move_21 : decode cX6_move 21 = .ok (.invokevirtual 135, 3) := by decide +kernel
theorem dX6_move_24 : decode cX6_move 24 = .ok (.ifCond .ne 12, 3) := by decide +kernel
theorem dX6_move_27 : decode cX6_move 27 = .ok (.aload_n 0, 1) := by decide +kernel
theorem dX6_move_28 : decode cX6_move 28 = .ok (.bipush (-2), 2) := by decide +kernel
theorem dX6_move_30 : decode cX6_move 30 = .ok (.bipush (-10), 2) := by decide +kernel
theorem dX6_move_32 : decode cX6_move 32 = .ok (.invokevirtual 110, 3) := by decide +kernel
theorem dX6_move_35 : decode cX6_move 35 = .ok (.ireturn, 1) := by decide +kernel
theorem dX6_move_36 : decode cX6_move 36 = .ok (.iload_n 2, 1) := by decide +kernel
theorem dX6_move_37 : decode cX6_move 37 = .ok (.iconst (-1), 1) := by decide +kernel
theorem dX6_move_38 : decode cX6_move 38 = .ok (.if_icmp .eq 14, 3) := by decide +kernel
theorem dX6_move_41 : decode cX6_move 41 = .ok (.aload_n 0, 1) := by decide +kernel
theorem dX6_move_42 : decode cX6_move 42 = .ok (.getfield 10, 3) := by decide +kernel
theorem dX6_move_45 : decode cX6_move 45 = .ok (.iload_n 2, 1) := by decide +kernel
theorem dX6_move_46 : decode cX6_move 46 = .ok (.invokevirtual 139, 3) := by decide +kernel
theorem dX6_move_49 : decode cX6_move 49 = .ok (.ifCond .eq 16, 3) := by decide +kernel
theorem dX6_move_52 : decode cX6_move 52 = .ok (.aload_n 0, 1) := by decide +kernel
theorem dX6_move_53 : decode cX6_move 53 = .ok (.getfield 10, 3) := by decide +kernel
theorem dX6_move_56 : decode cX6_move 56 = .ok (.getfield 162, 3) := by decide +kernel
theorem dX6_move_59 : decode cX6_move 59 = .ok (.iload_n 1, 1) := by decide +kernel
theorem dX6_move_60 : decode cX6_move 60 = .ok (.iaload, 1) := by decide +kernel
theorem dX6_move_61 : decode cX6_move 61 = .ok (.iload_n 2, 1) := by decide +kernel
theorem dX6_move_62 : decode cX6_move 62 = .ok (.if_icmp .ne 12, 3) := by decide +kernel
theorem dX6_move_65 : decode cX6_move 65 = .ok (.aload_n 0, 1) := by decide +kernel
theorem dX6_move_66 : decode cX6_move 66 = .ok (.bipush (-3), 2) := by decide +kernel
theorem dX6_move_68 : decode cX6_move 68 = .ok (.bipush (-20), 2) := by decide +kernel
theorem dX6_move_70 : decode cX6_move 70 = .ok (.invokevirtual 110, 3) := by decide +kernel
theorem dX6_move_73 : decode cX6_move 73 = .ok (.ireturn, 1) := by decide +kernel
theorem dX6_move_74 : decode cX6_move 74 = .ok (.aload_n 0, 1) := by decide +kernel
theorem dX6_move_75 : decode cX6_move 75 = .ok (.getfield 10, 3) := by decide +kernel
theorem dX6_move_78 : decode cX6_move 78 = .ok (.getfield 162, 3) := by decide +kernel
theorem dX6_move_81 : decode cX6_move 81 = .ok (.iload_n 1, 1) := by decide +kernel
theorem dX6_move_82 : decode cX6_move 82 = .ok (.iaload, 1) := by decide +kernel
theorem dX6_move_83 : decode cX6_move 83 = .ok (.istore_n 3, 1) := by decide +kernel
theorem dX6_move_84 : decode cX6_move 84 = .ok (.aload_n 0, 1) := by decide +kernel
theorem dX6_move_85 : decode cX6_move 85 = .ok (.getfield 22, 3) := by decide +kernel
theorem dX6_move_88 : decode cX6_move 88 = .ok (.aload_n 0, 1) := by decide +kernel
theorem dX6_move_89 : decode cX6_move 89 = .ok (.getfield 10, 3) := by decide +kernel
theorem dX6_move_92 : decode cX6_move 92 = .ok (.invokevirtual 142, 3) := by decide +kernel
theorem dX6_move_95 : decode cX6_move 95 = .ok (.aload_n 0, 1) := by decide +kernel
theorem dX6_move_96 : decode cX6_move 96 = .ok (.getfield 10, 3) := by decide +kernel
theorem dX6_move_99 : decode cX6_move 99 = .ok (.getfield 162, 3) := by decide +kernel
theorem dX6_move_102 : decode cX6_move 102 = .ok (.iload_n 1, 1) := by decide +kernel
theorem dX6_move_103 : decode cX6_move 103 = .ok (.iload_n 2, 1) := by decide +kernel
theorem dX6_move_104 : decode cX6_move 104 = .ok (.iastore, 1) := by decide +kernel
theorem dX6_move_105 : decode cX6_move 105 = .ok (.iload_n 3, 1) := by decide +kernel
theorem dX6_move_106 : decode cX6_move 106 = .ok (.ireturn, 1) := by decide +kernel
theorem dX6_undo_0 : decode cX6_undo 0 = .ok (.aload_n 0, 1) := by decide +kernel
theorem dX6_undo_1 : decode cX6_undo 1 = .ok (.getfield 22, 3) := by decide +kernel
theorem dX6_undo_4 : decode cX6_undo 4 = .ok (.getfield 166, 3) := by decide +kernel
theorem dX6_undo_7 : decode cX6_undo 7 = .ok (.ifCond .ne 12, 3) := by decide +kernel
theorem dX6_undo_10 : decode cX6_undo 10 = .ok (.aload_n 0, 1) := by decide +kernel
theorem dX6_undo_11 : decode cX6_undo 11 = .ok (.bipush (-3), 2) := by decide +kernel
theorem dX6_undo_13 : decode cX6_undo 13 = .ok (.bipush (-3), 2) := by decide +kernel
theorem dX6_undo_15 : decode cX6_undo 15 = .ok (.invokevirtual 110, 3) := by decide +kernel
theorem dX6_undo_18 : decode cX6_undo 18 = .ok (.ireturn, 1) := by decide +kernel
theorem dX6_undo_19 : decode cX6_undo 19 = .ok (.aload_n 0, 1) := by decide +kernel
theorem dX6_undo_20 : decode cX6_undo 20 = .ok (.getfield 22, 3) := by decide +kernel
theorem dX6_undo_23 : decode cX6_undo 23 = .ok (.aload_n 0, 1) := by decide +kernel
theorem dX6_undo_24 : decode cX6_undo 24 = .ok (.getfield 10, 3) := by decide +kernel
theorem dX6_undo_27 : decode cX6_undo 27 = .ok (.invokevirtual 169, 3) := by decide +kernel
theorem dX6_undo_30 : decode cX6_undo 30 = .ok (.iconst 1, 1) := by decide +kernel
theorem dX6_undo_31 : decode cX6_undo 31 = .ok (.ireturn, 1) := by decide +kernel
theorem dX6_of_0 : decode cX6_of 0 = .ok (.aload_n 0, 1) := by decide +kernel
theorem dX6_of_1 : decode cX6_of 1 = .ok (.getfield 10, 3) := by decide +kernel
theorem dX6_of_4 : decode cX6_of 4 = .ok (.iload_n 1, 1) := by decide +kernel
theorem dX6_of_5 : decode cX6_of 5 = .ok (.invokevirtual 135, 3) := by decide +kernel
theorem dX6_of_8 : decode cX6_of 8 = .ok (.ifCond .ne 12, 3) := by decide +kernel
theorem dX6_of_11 : decode cX6_of 11 = .ok (.aload_n 0, 1) := by decide +kernel
theorem dX6_of_12 : decode cX6_of 12 = .ok (.bipush (-2), 2) := by decide +kernel
theorem dX6_of_14 : decode cX6_of 14 = .ok (.bipush (-10), 2) := by decide +kernel
theorem dX6_of_16 : decode cX6_of 16 = .ok (.invokevirtual 110, 3) := by decide +kernel
theorem dX6_of_19 : decode cX6_of 19 = .ok (.ireturn, 1) := by decide +kernel
theorem dX6_of_20 : decode cX6_of 20 = .ok (.iload_n 2, 1) := by decide +kernel
theorem dX6_of_21 : decode cX6_of 21 = .ok (.tableswitch 133 0 7 #[47, 57, 67, 77, 87, 97, 114, 123], 47) := by decide +kernel
theorem dX6_of_68 : decode cX6_of 68 = .ok (.aload_n 0, 1) := by decide +kernel
theorem dX6_of_69 : decode cX6_of 69 = .ok (.getfield 10, 3) := by decide +kernel
theorem dX6_of_72 : decode cX6_of 72 = .ok (.getfield 172, 3) := by decide +kernel
theorem dX6_of_75 : decode cX6_of 75 = .ok (.iload_n 1, 1) := by decide +kernel
theorem dX6_of_76 : decode cX6_of 76 = .ok (.iaload, 1) := by decide +kernel
theorem dX6_of_77 : decode cX6_of 77 = .ok (.ireturn, 1) := by decide +kernel
theorem dX6_of_78 : decode cX6_of 78 = .ok (.aload_n 0, 1) := by decide +kernel
theorem dX6_of_79 : decode cX6_of 79 = .ok (.getfield 10, 3) := by decide +kernel
theorem dX6_of_82 : decode cX6_of 82 = .ok (.getfield 175, 3) := by decide +kernel
theorem dX6_of_85 : decode cX6_of 85 = .ok (.iload_n 1, 1) := by decide +kernel
theorem dX6_of_86 : decode cX6_of 86 = .ok (.iaload, 1) := by decide +kernel
theorem dX6_of_87 : decode cX6_of 87 = .ok (.ireturn, 1) := by decide +kernel
theorem dX6_of_88 : decode cX6_of 88 = .ok (.aload_n 0, 1) := by decide +kernel
theorem dX6_of_89 : decode cX6_of 89 = .ok (.getfield 10, 3) := by decide +kernel
theorem dX6_of_92 : decode cX6_of 92 = .ok (.getfield 178, 3) := by decide +kernel
theorem dX6_of_95 : decode cX6_of 95 = .ok (.iload_n 1, 1) := by decide +kernel
theorem dX6_of_96 : decode cX6_of 96 = .ok (.iaload, 1) := by decide +kernel
theorem dX6_of_97 : decode cX6_of 97 = .ok (.ireturn, 1) := by decide +kernel
theorem dX6_of_98 : decode cX6_of 98 = .ok (.aload_n 0, 1) := by decide +kernel
theorem dX6_of_99 : decode cX6_of 99 = .ok (.getfield 10, 3) := by decide +kernel
theorem dX6_of_102 : decode cX6_of 102 = .ok (.getfield 181, 3) := by decide +kernel
theorem dX6_of_105 : decode cX6_of 105 = .ok (.iload_n 1, 1) := by decide +kernel
theorem dX6_of_106 : decode cX6_of 106 = .ok (.iaload, 1) := by decide +kernel
theorem dX6_of_107 : decode cX6_of 107 = .ok (.ireturn, 1) := by decide +kernel
theorem dX6_of_108 : decode cX6_of 108 = .ok (.aload_n 0, 1) := by decide +kernel
theorem dX6_of_109 : decode cX6_of 109 = .ok (.getfield 10, 3) := by decide +kernel
theorem dX6_of_112 : decode cX6_of 112 = .ok (.getfield 184, 3) := by decide +kernel
theorem dX6_of_115 : decode cX6_of 115 = .ok (.iload_n 1, 1) := by decide +kernel
theorem dX6_of_116 : decode cX6_of 116 = .ok (.iaload, 1) := by decide +kernel
theorem dX6_of_117 : decode cX6_of 117 = .ok (.ireturn, 1) := by decide +kernel
theorem dX6_of_118 : decode cX6_of 118 = .ok (.aload_n 0, 1) := by decide +kernel
theorem dX6_of_119 : decode cX6_of 119 = .ok (.getfield 10, 3) := by decide +kernel
theorem dX6_of_122 : decode cX6_of 122 = .ok (.iload_n 1, 1) := by decide +kernel
theorem dX6_of_123 : decode cX6_of 123 = .ok (.invokevirtual 139, 3) := by decide +kernel
theorem dX6_of_126 : decode cX6_of 126 = .ok (.ifCond .eq 7, 3) := by decide +kernel
theorem dX6_of_129 : decode cX6_of 129 = .ok (.iconst 1, 1) := by decide +kernel
theorem dX6_of_130 : decode cX6_of 130 = .ok (.goto 4, 3) := by decide +kernel
theorem dX6_of_133 : decode cX6_of 133 = .ok (.iconst 0, 1) := by decide +kernel
theorem dX6_of_134 : decode cX6_of 134 = .ok (.ireturn, 1) := by decide +kernel
theorem dX6_of_135 : decode cX6_of 135 = .ok (.aload_n 0, 1) := by decide +kernel
theorem dX6_of_136 : decode cX6_of 136 = .ok (.getfield 10, 3) := by decide +kernel
theorem dX6_of_139 : decode cX6_of 139 = .ok (.iload_n 1, 1) := by decide +kernel
theorem dX6_of_140 : decode cX6_of 140 = .ok (.invokevirtual 187, 3) := by decide +kernel
theorem dX6_of_143 : decode cX6_of 143 = .ok (.ireturn, 1) := by decide +kernel
theorem dX6_of_144 : decode cX6_of 144 = .ok (.aload_n 0, 1) := by decide +kernel
theorem dX6_of_145 : decode cX6_of 145 = .ok (.getfield 10, 3) := by decide +kernel
theorem dX6_of_148 : decode cX6_of 148 = .ok (.getfield 190, 3) := by decide +kernel
theorem dX6_of_151 : decode cX6_of 151 = .ok (.iload_n 1, 1) := by decide +kernel
theorem dX6_of_152 : decode cX6_of 152 = .ok (.iaload, 1) := by decide +kernel
theorem dX6_of_153 : decode cX6_of 153 = .ok (.ireturn, 1) := by decide +kernel
theorem dX6_of_154 : decode cX6_of 154 = .ok (.aload_n 0, 1) := by decide +kernel
theorem dX6_of_155 : decode cX6_of 155 = .ok (.bipush (-2), 2) := by decide +kernel
theorem dX6_of_157 : decode cX6_of 157 = .ok (.bipush (-10), 2) := by decide +kernel
theorem dX6_of_159 : decode cX6_of 159 = .ok (.invokevirtual 110, 3) := by decide +kernel
theorem dX6_of_162 : decode cX6_of 162 = .ok (.ireturn, 1) := by decide +kernel
theorem dX6_who_0 : decode cX6_who 0 = .ok (.aload_n 0, 1) := by decide +kernel
theorem dX6_who_1 : decode cX6_who 1 = .ok (.getfield 10, 3) := by decide +kernel
theorem dX6_who_4 : decode cX6_who 4 = .ok (.iload_n 1, 1) := by decide +kernel
theorem dX6_who_5 : decode cX6_who 5 = .ok (.invokevirtual 159, 3) := by decide +kernel
theorem dX6_who_8 : decode cX6_who 8 = .ok (.ifCond .eq 12, 3) := by decide +kernel
theorem dX6_who_11 : decode cX6_who 11 = .ok (.iload_n 2, 1) := by decide +kernel
theorem dX6_who_12 : decode cX6_who 12 = .ok (.ifCond .lt 8, 3) := by decide +kernel
theorem dX6_who_15 : decode cX6_who 15 = .ok (.iload_n 2, 1) := by decide +kernel
theorem dX6_who_16 : decode cX6_who 16 = .ok (.iconst 1, 1) := by decide +kernel
theorem dX6_who_17 : decode cX6_who 17 = .ok (.if_icmp .le 12, 3) := by decide +kernel
theorem dX6_who_20 : decode cX6_who 20 = .ok (.aload_n 0, 1) := by decide +kernel
theorem dX6_who_21 : decode cX6_who 21 = .ok (.bipush (-2), 2) := by decide +kernel
theorem dX6_who_23 : decode cX6_who 23 = .ok (.bipush (-10), 2) := by decide +kernel
theorem dX6_who_25 : decode cX6_who 25 = .ok (.invokevirtual 110, 3) := by decide +kernel
theorem dX6_who_28 : decode cX6_who 28 = .ok (.ireturn, 1) := by decide +kernel
theorem dX6_who_29 : decode cX6_who 29 = .ok (.iload_n 2, 1) := by decide +kernel
theorem dX6_who_30 : decode cX6_who 30 = .ok (.ifCond .ne 15, 3) := by decide +kernel
theorem dX6_who_33 : decode cX6_who 33 = .ok (.aload_n 0, 1) := by decide +kernel
theorem dX6_who_34 : decode cX6_who 34 = .ok (.getfield 10, 3) := by decide +kernel
theorem dX6_who_37 : decode cX6_who 37 = .ok (.getfield 193, 3) := by decide +kernel
theorem dX6_who_40 : decode cX6_who 40 = .ok (.iload_n 1, 1) := by decide +kernel
theorem dX6_who_41 : decode cX6_who 41 = .ok (.iaload, 1) := by decide +kernel
theorem dX6_who_42 : decode cX6_who 42 = .ok (.goto 12, 3) := by decide +kernel
theorem dX6_who_45 : decode cX6_who 45 = .ok (.aload_n 0, 1) := by decide +kernel
theorem dX6_who_46 : decode cX6_who 46 = .ok (.getfield 10, 3) := by decide +kernel
theorem dX6_who_49 : decode cX6_who 49 = .ok (.getfield 162, 3) := by decide +kernel
theorem dX6_who_52 : decode cX6_who 52 = .ok (.iload_n 1, 1) := by decide +kernel
theorem dX6_who_53 : decode cX6_who 53 = .ok (.iaload, 1) := by decide +kernel
theorem dX6_who_54 : decode cX6_who 54 = .ok (.ireturn, 1) := by decide +kernel
theorem dX6_degree_0 : decode cX6_degree 0 = .ok (.aload_n 0, 1) := by decide +kernel
theorem dX6_degree_1 : decode cX6_degree 1 = .ok (.getfield 10, 3) := by decide +kernel
theorem dX6_degree_4 : decode cX6_degree 4 = .ok (.iload_n 1, 1) := by decide +kernel
theorem dX6_degree_5 : decode cX6_degree 5 = .ok (.invokevirtual 135, 3) := by decide +kernel
theorem dX6_degree_8 : decode cX6_degree 8 = .ok (.ifCond .eq 14, 3) := by decide +kernel
theorem dX6_degree_11 : decode cX6_degree 11 = .ok (.aload_n 0, 1) := by decide +kernel
theorem dX6_degree_12 : decode cX6_degree 12 = .ok (.getfield 10, 3) := by decide +kernel
theorem dX6_degree_15 : decode cX6_degree 15 = .ok (.iload_n 2, 1) := by decide +kernel
theorem dX6_degree_16 : decode cX6_degree 16 = .ok (.invokevirtual 135, 3) := by decide +kernel
theorem dX6_degree_19 : decode cX6_degree 19 = .ok (.ifCond .ne 12, 3) := by decide +kernel
theorem dX6_degree_22 : decode cX6_degree 22 = .ok (.aload_n 0, 1) := by decide +kernel
theorem dX6_degree_23 : decode cX6_degree 23 = .ok (.bipush (-2), 2) := by decide +kernel
theorem dX6_degree_25 : decode cX6_degree 25 = .ok (.bipush (-2), 2) := by decide +kernel
theorem dX6_degree_27 : decode cX6_degree 27 = .ok (.invokevirtual 110, 3) := by decide +kernel
theorem dX6_degree_30 : decode cX6_degree 30 = .ok (.ireturn, 1) := by decide +kernel
theorem dX6_degree_31 : decode cX6_degree 31 = .ok (.aload_n 0, 1) := by decide +kernel
theorem dX6_degree_32 : decode cX6_degree 32 = .ok (.getfield 10, 3) := by decide +kernel
theorem dX6_degree_35 : decode cX6_degree 35 = .ok (.iload_n 1, 1) := by decide +kernel
theorem dX6_degree_36 : decode cX6_degree 36 = .ok (.iload_n 2, 1) := by decide +kernel
theorem dX6_degree_37 : decode cX6_degree 37 = .ok (.invokevirtual 196, 3) := by decide +kernel
theorem dX6_degree_40 : decode cX6_degree 40 = .ok (.ireturn, 1) := by decide +kernel
theorem dX6_rank_0 : decode cX6_rank 0 = .ok (.aload_n 0, 1) := by decide +kernel
theorem dX6_rank_1 : decode cX6_rank 1 = .ok (.getfield 10, 3) := by decide +kernel
theorem dX6_rank_4 : decode cX6_rank 4 = .ok (.iload_n 1, 1) := by decide +kernel
theorem dX6_rank_5 : decode cX6_rank 5 = .ok (.iload_n 2, 1) := by decide +kernel
theorem dX6_rank_6 : decode cX6_rank 6 = .ok (.invokevirtual 199, 3) := by decide +kernel
theorem dX6_rank_9 : decode cX6_rank 9 = .ok (.ifCond .ne 13, 3) := by decide +kernel
theorem dX6_rank_12 : decode cX6_rank 12 = .ok (.aload_n 0, 1) := by decide +kernel
theorem dX6_rank_13 : decode cX6_rank 13 = .ok (.bipush (-2), 2) := by decide +kernel
theorem dX6_rank_15 : decode cX6_rank 15 = .ok (.sipush (-1000), 3) := by decide +kernel
theorem dX6_rank_18 : decode cX6_rank 18 = .ok (.invokevirtual 110, 3) := by decide +kernel
theorem dX6_rank_21 : decode cX6_rank 21 = .ok (.ireturn, 1) := by decide +kernel
theorem dX6_rank_22 : decode cX6_rank 22 = .ok (.aload_n 0, 1) := by decide +kernel
theorem dX6_rank_23 : decode cX6_rank 23 = .ok (.getfield 10, 3) := by decide +kernel
theorem dX6_rank_26 : decode cX6_rank 26 = .ok (.iload_n 1, 1) := by decide +kernel
theorem dX6_rank_27 : decode cX6_rank 27 = .ok (.iload_n 2, 1) := by decide +kernel
theorem dX6_rank_28 : decode cX6_rank 28 = .ok (.invokevirtual 203, 3) := by decide +kernel
theorem dX6_rank_31 : decode cX6_rank 31 = .ok (.ireturn, 1) := by decide +kernel
theorem dX6_heir_0 : decode cX6_heir 0 = .ok (.aload_n 0, 1) := by decide +kernel
theorem dX6_heir_1 : decode cX6_heir 1 = .ok (.getfield 10, 3) := by decide +kernel
theorem dX6_heir_4 : decode cX6_heir 4 = .ok (.iload_n 1, 1) := by decide +kernel
theorem dX6_heir_5 : decode cX6_heir 5 = .ok (.invokevirtual 135, 3) := by decide +kernel
theorem dX6_heir_8 : decode cX6_heir 8 = .ok (.ifCond .ne 12, 3) := by decide +kernel
theorem dX6_heir_11 : decode cX6_heir 11 = .ok (.aload_n 0, 1) := by decide +kernel
theorem dX6_heir_12 : decode cX6_heir 12 = .ok (.bipush (-2), 2) := by decide +kernel
theorem dX6_heir_14 : decode cX6_heir 14 = .ok (.bipush (-10), 2) := by decide +kernel
theorem dX6_heir_16 : decode cX6_heir 16 = .ok (.invokevirtual 110, 3) := by decide +kernel
theorem dX6_heir_19 : decode cX6_heir 19 = .ok (.ireturn, 1) := by decide +kernel
theorem dX6_heir_20 : decode cX6_heir 20 = .ok (.aload_n 0, 1) := by decide +kernel
theorem dX6_heir_21 : decode cX6_heir 21 = .ok (.getfield 10, 3) := by decide +kernel
theorem dX6_heir_24 : decode cX6_heir 24 = .ok (.iload_n 1, 1) := by decide +kernel
theorem dX6_heir_25 : decode cX6_heir 25 = .ok (.invokevirtual 206, 3) := by decide +kernel
theorem dX6_heir_28 : decode cX6_heir 28 = .ok (.ireturn, 1) := by decide +kernel
theorem dX6_wills_0 : decode cX6_wills 0 = .ok (.aload_n 0, 1) := by decide +kernel
theorem dX6_wills_1 : decode cX6_wills 1 = .ok (.getfield 10, 3) := by decide +kernel
theorem dX6_wills_4 : decode cX6_wills 4 = .ok (.iload_n 1, 1) := by decide +kernel
theorem dX6_wills_5 : decode cX6_wills 5 = .ok (.iload_n 2, 1) := by decide +kernel
theorem dX6_wills_6 : decode cX6_wills 6 = .ok (.invokevirtual 199, 3) := by decide +kernel
theorem dX6_wills_9 : decode cX6_wills 9 = .ok (.ifCond .ne 12, 3) := by decide +kernel
theorem dX6_wills_12 : decode cX6_wills 12 = .ok (.aload_n 0, 1) := by decide +kernel
theorem dX6_wills_13 : decode cX6_wills 13 = .ok (.bipush (-2), 2) := by decide +kernel
theorem dX6_wills_15 : decode cX6_wills 15 = .ok (.bipush (-2), 2) := by decide +kernel
theorem dX6_wills_17 : decode cX6_wills 17 = .ok (.invokevirtual 110, 3) := by decide +kernel
theorem dX6_wills_20 : decode cX6_wills 20 = .ok (.ireturn, 1) := by decide +kernel
theorem dX6_wills_21 : decode cX6_wills 21 = .ok (.iconst 0, 1) := by decide +kernel
theorem dX6_wills_22 : decode cX6_wills 22 = .ok (.istore_n 3, 1) := by decide +kernel
theorem dX6_wills_23 : decode cX6_wills 23 = .ok (.iconst 0, 1) := by decide +kernel
theorem dX6_wills_24 : decode cX6_wills 24 = .ok (.istore 4, 2) := by decide +kernel
theorem dX6_wills_26 : decode cX6_wills 26 = .ok (.iload 4, 2) := by decide +kernel
theorem dX6_wills_28 : decode cX6_wills 28 = .ok (.bipush 6, 2) := by decide +kernel
theorem dX6_wills_30 : decode cX6_wills 30 = .ok (.if_icmp .ge 31, 3) := by decide +kernel
theorem dX6_wills_33 : decode cX6_wills 33 = .ok (.aload_n 0, 1) := by decide +kernel
theorem dX6_wills_34 : decode cX6_wills 34 = .ok (.getfield 10, 3) := by decide +kernel
theorem dX6_wills_37 : decode cX6_wills 37 = .ok (.iload 4, 2) := by decide +kernel
theorem dX6_wills_39 : decode cX6_wills 39 = .ok (.iload_n 1, 1) := by decide +kernel
theorem dX6_wills_40 : decode cX6_wills 40 = .ok (.iconst 0, 1) := by decide +kernel
theorem dX6_wills_41 : decode cX6_wills 41 = .ok (.invokevirtual 209, 3) := by decide +kernel
theorem dX6_wills_44 : decode cX6_wills 44 = .ok (.iload_n 2, 1) := by decide +kernel
theorem dX6_wills_45 : decode cX6_wills 45 = .ok (.if_icmp .ne 10, 3) := by decide +kernel
theorem dX6_wills_48 : decode cX6_wills 48 = .ok (.iload_n 3, 1) := by decide +kernel
theorem dX6_wills_49 : decode cX6_wills 49 = .ok (.iconst 1, 1) := by decide +kernel
theorem dX6_wills_50 : decode cX6_wills 50 = .ok (.iload 4, 2) := by decide +kernel
theorem dX6_wills_52 : decode cX6_wills 52 = .ok (.ishl, 1) := by decide +kernel
theorem dX6_wills_53 : decode cX6_wills 53 = .ok (.ior, 1) := by decide +kernel
theorem dX6_wills_54 : decode cX6_wills 54 = .ok (.istore_n 3, 1) := by decide +kernel
theorem dX6_wills_55 : decode cX6_wills 55 = .ok (.iinc 4 1, 3) := by decide +kernel
theorem dX6_wills_58 : decode cX6_wills 58 = .ok (.goto (-32), 3) := by decide +kernel
theorem dX6_wills_61 : decode cX6_wills 61 = .ok (.iload_n 3, 1) := by decide +kernel
theorem dX6_wills_62 : decode cX6_wills 62 = .ok (.ireturn, 1) := by decide +kernel
theorem dX6_buildFor_0 : decode cX6_buildFor 0 = .ok (.aload_n 0, 1) := by decide +kernel
theorem dX6_buildFor_1 : decode cX6_buildFor 1 = .ok (.getfield 10, 3) := by decide +kernel
theorem dX6_buildFor_4 : decode cX6_buildFor 4 = .ok (.iload_n 1, 1) := by decide +kernel
theorem dX6_buildFor_5 : decode cX6_buildFor 5 = .ok (.iload_n 2, 1) := by decide +kernel
theorem dX6_buildFor_6 : decode cX6_buildFor 6 = .ok (.invokevirtual 199, 3) := by decide +kernel
theorem dX6_buildFor_9 : decode cX6_buildFor 9 = .ok (.ifCond .ne 12, 3) := by decide +kernel
theorem dX6_buildFor_12 : decode cX6_buildFor 12 = .ok (.aload_n 0, 1) := by decide +kernel
theorem dX6_buildFor_13 : decode cX6_buildFor 13 = .ok (.bipush (-2), 2) := by decide +kernel
theorem dX6_buildFor_15 : decode cX6_buildFor 15 = .ok (.bipush (-2), 2) := by decide +kernel
theorem dX6_buildFor_17 : decode cX6_buildFor 17 = .ok (.invokevirtual 110, 3) := by decide +kernel
theorem dX6_buildFor_20 : decode cX6_buildFor 20 = .ok (.ireturn, 1) := by decide +kernel
theorem dX6_buildFor_21 : decode cX6_buildFor 21 = .ok (.aload_n 0, 1) := by decide +kernel
theorem dX6_buildFor_22 : decode cX6_buildFor 22 = .ok (.getfield 10, 3) := by decide +kernel
theorem dX6_buildFor_25 : decode cX6_buildFor 25 = .ok (.iload_n 1, 1) := by decide +kernel
theorem dX6_buildFor_26 : decode cX6_buildFor 26 = .ok (.invokevirtual 206, 3) := by decide +kernel
theorem dX6_buildFor_29 : decode cX6_buildFor 29 = .ok (.iload_n 2, 1) := by decide +kernel
theorem dX6_buildFor_30 : decode cX6_buildFor 30 = .ok (.if_icmp .ne 6, 3) := by decide +kernel
theorem dX6_buildFor_33 : decode cX6_buildFor 33 = .ok (.bipush 99, 2) := by decide +kernel
theorem dX6_buildFor_35 : decode cX6_buildFor 35 = .ok (.ireturn, 1) := by decide +kernel
theorem dX6_buildFor_36 : decode cX6_buildFor 36 = .ok (.aload_n 0, 1) := by decide +kernel
theorem dX6_buildFor_37 : decode cX6_buildFor 37 = .ok (.getfield 16, 3) := by decide +kernel
theorem dX6_buildFor_40 : decode cX6_buildFor 40 = .ok (.aload_n 0, 1) := by decide +kernel
theorem dX6_buildFor_41 : decode cX6_buildFor 41 = .ok (.getfield 10, 3) := by decide +kernel
theorem dX6_buildFor_44 : decode cX6_buildFor 44 = .ok (.invokevirtual 128, 3) := by decide +kernel
theorem dX6_buildFor_47 : decode cX6_buildFor 47 = .ok (.iconst 0, 1) := by decide +kernel
theorem dX6_buildFor_48 : decode cX6_buildFor 48 = .ok (.istore_n 3, 1) := by decide +kernel
theorem dX6_buildFor_49 : decode cX6_buildFor 49 = .ok (.iload_n 3, 1) := by decide +kernel
theorem dX6_buildFor_50 : decode cX6_buildFor 50 = .ok (.aload_n 0, 1) := by decide +kernel
theorem dX6_buildFor_51 : decode cX6_buildFor 51 = .ok (.getfield 16, 3) := by decide +kernel
theorem dX6_buildFor_54 : decode cX6_buildFor 54 = .ok (.getfield 74, 3) := by decide +kernel
theorem dX6_buildFor_57 : decode cX6_buildFor 57 = .ok (.if_icmp .ge 65, 3) := by decide +kernel
theorem dX6_buildFor_60 : decode cX6_buildFor 60 = .ok (.iload_n 3, 1) := by decide +kernel
theorem dX6_buildFor_61 : decode cX6_buildFor 61 = .ok (.iconst 1, 1) := by decide +kernel
theorem dX6_buildFor_62 : decode cX6_buildFor 62 = .ok (.iadd, 1) := by decide +kernel
theorem dX6_buildFor_63 : decode cX6_buildFor 63 = .ok (.istore 4, 2) := by decide +kernel
theorem dX6_buildFor_65 : decode cX6_buildFor 65 = .ok (.iload 4, 2) := by decide +kernel
theorem dX6_buildFor_67 : decode cX6_buildFor 67 = .ok (.aload_n 0, 1) := by decide +kernel
theorem dX6_buildFor_68 : decode cX6_buildFor 68 = .ok (.getfield 16, 3) := by decide +kernel
theorem dX6_buildFor_71 : decode cX6_buildFor 71 = .ok (.getfield 74, 3) := by decide +kernel
theorem dX6_buildFor_74 : decode cX6_buildFor 74 = .ok (.if_icmp .ge 42, 3) := by decide +kernel
theorem dX6_buildFor_77 : decode cX6_buildFor 77 = .ok (.aload_n 0, 1) := by decide +kernel
theorem dX6_buildFor_78 : decode cX6_buildFor 78 = .ok (.getfield 16, 3) := by decide +kernel
theorem dX6_buildFor_81 : decode cX6_buildFor 81 = .ok (.iload_n 3, 1) := by decide +kernel
theorem dX6_buildFor_82 : decode cX6_buildFor 82 = .ok (.iload 4, 2) := by decide +kernel
theorem dX6_buildFor_84 : decode cX6_buildFor 84 = .ok (.invokevirtual 212, 3) := by decide +kernel
theorem dX6_buildFor_87 : decode cX6_buildFor 87 = .ok (.ifCond .eq 23, 3) := by decide +kernel
theorem dX6_buildFor_90 : decode cX6_buildFor 90 = .ok (.aload_n 0, 1) := by decide +kernel
theorem dX6_buildFor_91 : decode cX6_buildFor 91 = .ok (.iload_n 1, 1) := by decide +kernel
theorem dX6_buildFor_92 : decode cX6_buildFor 92 = .ok (.iload_n 3, 1) := by decide +kernel
theorem dX6_buildFor_93 : decode cX6_buildFor 93 = .ok (.iload 4, 2) := by decide +kernel
theorem dX6_buildFor_95 : decode cX6_buildFor 95 = .ok (.invokevirtual 215, 3) := by decide +kernel
theorem dX6_buildFor_98 : decode cX6_buildFor 98 = .ok (.iload_n 2, 1) := by decide +kernel
theorem dX6_buildFor_99 : decode cX6_buildFor 99 = .ok (.if_icmp .ne 11, 3) := by decide +kernel
theorem dX6_buildFor_102 : decode cX6_buildFor 102 = .ok (.bipush 10, 2) := by decide +kernel
theorem dX6_buildFor_104 : decode cX6_buildFor 104 = .ok (.iload_n 3, 1) := by decide +kernel
theorem dX6_buildFor_105 : decode cX6_buildFor 105 = .ok (.imul, 1) := by decide +kernel
theorem dX6_buildFor_106 : decode cX6_buildFor 106 = .ok (.iload 4, 2) := by decide +kernel
theorem dX6_buildFor_108 : decode cX6_buildFor 108 = .ok (.iadd, 1) := by decide +kernel
theorem dX6_buildFor_109 : decode cX6_buildFor 109 = .ok (.ireturn, 1) := by decide +kernel
theorem dX6_buildFor_110 : decode cX6_buildFor 110 = .ok (.iinc 4 1, 3) := by decide +kernel
theorem dX6_buildFor_113 : decode cX6_buildFor 113 = .ok (.goto (-48), 3) := by decide +kernel
theorem dX6_buildFor_116 : decode cX6_buildFor 116 = .ok (.iinc 3 1, 3) := by decide +kernel
theorem dX6_buildFor_119 : decode cX6_buildFor 119 = .ok (.goto (-70), 3) := by decide +kernel
theorem dX6_buildFor_122 : decode cX6_buildFor 122 = .ok (.iconst (-1), 1) := by decide +kernel
theorem dX6_buildFor_123 : decode cX6_buildFor 123 = .ok (.ireturn, 1) := by decide +kernel
theorem dX6_adopts_0 : decode cX6_adopts 0 = .ok (.aload_n 0, 1) := by decide +kernel
theorem dX6_adopts_1 : decode cX6_adopts 1 = .ok (.getfield 10, 3) := by decide +kernel
theorem dX6_adopts_4 : decode cX6_adopts 4 = .ok (.iload_n 1, 1) := by decide +kernel
theorem dX6_adopts_5 : decode cX6_adopts 5 = .ok (.iload_n 2, 1) := by decide +kernel
theorem dX6_adopts_6 : decode cX6_adopts 6 = .ok (.invokevirtual 199, 3) := by decide +kernel
theorem dX6_adopts_9 : decode cX6_adopts 9 = .ok (.ifCond .ne 12, 3) := by decide +kernel
theorem dX6_adopts_12 : decode cX6_adopts 12 = .ok (.aload_n 0, 1) := by decide +kernel
theorem dX6_adopts_13 : decode cX6_adopts 13 = .ok (.bipush (-2), 2) := by decide +kernel
theorem dX6_adopts_15 : decode cX6_adopts 15 = .ok (.bipush (-2), 2) := by decide +kernel
theorem dX6_adopts_17 : decode cX6_adopts 17 = .ok (.invokevirtual 110, 3) := by decide +kernel
theorem dX6_adopts_20 : decode cX6_adopts 20 = .ok (.ireturn, 1) := by decide +kernel
theorem dX6_adopts_21 : decode cX6_adopts 21 = .ok (.aload_n 0, 1) := by decide +kernel
theorem dX6_adopts_22 : decode cX6_adopts 22 = .ok (.getfield 10, 3) := by decide +kernel
theorem dX6_adopts_25 : decode cX6_adopts 25 = .ok (.iload_n 1, 1) := by decide +kernel
theorem dX6_adopts_26 : decode cX6_adopts 26 = .ok (.iload_n 2, 1) := by decide +kernel
theorem dX6_adopts_27 : decode cX6_adopts 27 = .ok (.invokevirtual 212, 3) := by decide +kernel
theorem dX6_adopts_30 : decode cX6_adopts 30 = .ok (.ifCond .ne 12, 3) := by decide +kernel
theorem dX6_adopts_33 : decode cX6_adopts 33 = .ok (.aload_n 0, 1) := by decide +kernel
theorem dX6_adopts_34 : decode cX6_adopts 34 = .ok (.bipush (-3), 2) := by decide +kernel
theorem dX6_adopts_36 : decode cX6_adopts 36 = .ok (.bipush (-3), 2) := by decide +kernel
theorem dX6_adopts_38 : decode cX6_adopts 38 = .ok (.invokevirtual 110, 3) := by decide +kernel
theorem dX6_adopts_41 : decode cX6_adopts 41 = .ok (.ireturn, 1) := by decide +kernel
theorem dX6_adopts_42 : decode cX6_adopts 42 = .ok (.aload_n 0, 1) := by decide +kernel
theorem dX6_adopts_43 : decode cX6_adopts 43 = .ok (.getfield 16, 3) := by decide +kernel
theorem dX6_adopts_46 : decode cX6_adopts 46 = .ok (.aload_n 0, 1) := by decide +kernel
theorem dX6_adopts_47 : decode cX6_adopts 47 = .ok (.getfield 10, 3) := by decide +kernel
theorem dX6_adopts_50 : decode cX6_adopts 50 = .ok (.invokevirtual 128, 3) := by decide +kernel
theorem dX6_adopts_53 : decode cX6_adopts 53 = .ok (.iconst 0, 1) := by decide +kernel
theorem dX6_adopts_54 : decode cX6_adopts 54 = .ok (.istore_n 3, 1) := by decide +kernel
theorem dX6_adopts_55 : decode cX6_adopts 55 = .ok (.iconst 0, 1) := by decide +kernel
theorem dX6_adopts_56 : decode cX6_adopts 56 = .ok (.istore 4, 2) := by decide +kernel
theorem dX6_adopts_58 : decode cX6_adopts 58 = .ok (.iload 4, 2) := by decide +kernel
theorem dX6_adopts_60 : decode cX6_adopts 60 = .ok (.aload_n 0, 1) := by decide +kernel
theorem dX6_adopts_61 : decode cX6_adopts 61 = .ok (.getfield 10, 3) := by decide +kernel
theorem dX6_adopts_64 : decode cX6_adopts 64 = .ok (.getfield 74, 3) := by decide +kernel
theorem dX6_adopts_67 : decode cX6_adopts 67 = .ok (.if_icmp .ge 32, 3) := by decide +kernel
theorem dX6_adopts_70 : decode cX6_adopts 70 = .ok (.aload_n 0, 1) := by decide +kernel
theorem dX6_adopts_71 : decode cX6_adopts 71 = .ok (.iload 4, 2) := by decide +kernel
theorem dX6_adopts_73 : decode cX6_adopts 73 = .ok (.iload_n 1, 1) := by decide +kernel
theorem dX6_adopts_74 : decode cX6_adopts 74 = .ok (.iload_n 2, 1) := by decide +kernel
theorem dX6_adopts_75 : decode cX6_adopts 75 = .ok (.invokevirtual 215, 3) := by decide +kernel
theorem dX6_adopts_78 : decode cX6_adopts 78 = .ok (.aload_n 0, 1) := by decide +kernel
theorem dX6_adopts_79 : decode cX6_adopts 79 = .ok (.getfield 10, 3) := by decide +kernel
theorem dX6_adopts_82 : decode cX6_adopts 82 = .ok (.iload 4, 2) := by decide +kernel
theorem dX6_adopts_84 : decode cX6_adopts 84 = .ok (.invokevirtual 206, 3) := by decide +kernel
theorem dX6_adopts_87 : decode cX6_adopts 87 = .ok (.if_icmp .eq 6, 3) := by decide +kernel
theorem dX6_adopts_90 : decode cX6_adopts 90 = .ok (.iinc 3 1, 3) := by decide +kernel
theorem dX6_adopts_93 : decode cX6_adopts 93 = .ok (.iinc 4 1, 3) := by decide +kernel
theorem dX6_adopts_96 : decode cX6_adopts 96 = .ok (.goto (-38), 3) := by decide +kernel
theorem dX6_adopts_99 : decode cX6_adopts 99 = .ok (.iload_n 3, 1) := by decide +kernel
theorem dX6_adopts_100 : decode cX6_adopts 100 = .ok (.ireturn, 1) := by decide +kernel
theorem dX6_lives_0 : decode cX6_lives 0 = .ok (.aload_n 0, 1) := by decide +kernel
theorem dX6_lives_1 : decode cX6_lives 1 = .ok (.getfield 10, 3) := by decide +kernel
theorem dX6_lives_4 : decode cX6_lives 4 = .ok (.iload_n 1, 1) := by decide +kernel
theorem dX6_lives_5 : decode cX6_lives 5 = .ok (.invokevirtual 159, 3) := by decide +kernel
theorem dX6_lives_8 : decode cX6_lives 8 = .ok (.ifCond .eq 13, 3) := by decide +kernel
theorem dX6_lives_11 : decode cX6_lives 11 = .ok (.iload_n 2, 1) := by decide +kernel
theorem dX6_lives_12 : decode cX6_lives 12 = .ok (.ifCond .lt 9, 3) := by decide +kernel
theorem dX6_lives_15 : decode cX6_lives 15 = .ok (.iload_n 2, 1) := by decide +kernel
theorem dX6_lives_16 : decode cX6_lives 16 = .ok (.bipush 60, 2) := by decide +kernel
theorem dX6_lives_18 : decode cX6_lives 18 = .ok (.if_icmp .le 12, 3) := by decide +kernel
theorem dX6_lives_21 : decode cX6_lives 21 = .ok (.aload_n 0, 1) := by decide +kernel
theorem dX6_lives_22 : decode cX6_lives 22 = .ok (.bipush (-2), 2) := by decide +kernel
theorem dX6_lives_24 : decode cX6_lives 24 = .ok (.bipush (-10), 2) := by decide +kernel
theorem dX6_lives_26 : decode cX6_lives 26 = .ok (.invokevirtual 110, 3) := by decide +kernel
theorem dX6_lives_29 : decode cX6_lives 29 = .ok (.ireturn, 1) := by decide +kernel
theorem dX6_lives_30 : decode cX6_lives 30 = .ok (.aload_n 0, 1) := by decide +kernel
theorem dX6_lives_31 : decode cX6_lives 31 = .ok (.iload_n 2, 1) := by decide +kernel
theorem dX6_lives_32 : decode cX6_lives 32 = .ok (.invokevirtual 218, 3) := by decide +kernel
theorem dX6_lives_35 : decode cX6_lives 35 = .ok (.aload_n 0, 1) := by decide +kernel
theorem dX6_lives_36 : decode cX6_lives 36 = .ok (.getfield 16, 3) := by decide +kernel
theorem dX6_lives_39 : decode cX6_lives 39 = .ok (.getfield 162, 3) := by decide +kernel
theorem dX6_lives_42 : decode cX6_lives 42 = .ok (.iload_n 1, 1) := by decide +kernel
theorem dX6_lives_43 : decode cX6_lives 43 = .ok (.iaload, 1) := by decide +kernel
theorem dX6_lives_44 : decode cX6_lives 44 = .ok (.ireturn, 1) := by decide +kernel
theorem dX6_stand_0 : decode cX6_stand 0 = .ok (.iload_n 1, 1) := by decide +kernel
theorem dX6_stand_1 : decode cX6_stand 1 = .ok (.ifCond .lt 9, 3) := by decide +kernel
theorem dX6_stand_4 : decode cX6_stand 4 = .ok (.iload_n 1, 1) := by decide +kernel
theorem dX6_stand_5 : decode cX6_stand 5 = .ok (.bipush 60, 2) := by decide +kernel
theorem dX6_stand_7 : decode cX6_stand 7 = .ok (.if_icmp .le 12, 3) := by decide +kernel
theorem dX6_stand_10 : decode cX6_stand 10 = .ok (.aload_n 0, 1) := by decide +kernel
theorem dX6_stand_11 : decode cX6_stand 11 = .ok (.bipush (-2), 2) := by decide +kernel
theorem dX6_stand_13 : decode cX6_stand 13 = .ok (.bipush (-2), 2) := by decide +kernel
theorem dX6_stand_15 : decode cX6_stand 15 = .ok (.invokevirtual 110, 3) := by decide +kernel
theorem dX6_stand_18 : decode cX6_stand 18 = .ok (.ireturn, 1) := by decide +kernel
theorem dX6_stand_19 : decode cX6_stand 19 = .ok (.aload_n 0, 1) := by decide +kernel
theorem dX6_stand_20 : decode cX6_stand 20 = .ok (.iload_n 1, 1) := by decide +kernel
theorem dX6_stand_21 : decode cX6_stand 21 = .ok (.invokevirtual 218, 3) := by decide +kernel
theorem dX6_stand_24 : decode cX6_stand 24 = .ok (.aload_n 0, 1) := by decide +kernel
theorem dX6_stand_25 : decode cX6_stand 25 = .ok (.getfield 16, 3) := by decide +kernel
theorem dX6_stand_28 : decode cX6_stand 28 = .ok (.getfield 151, 3) := by decide +kernel
theorem dX6_stand_31 : decode cX6_stand 31 = .ok (.ireturn, 1) := by decide +kernel
theorem dX6_overfull_0 : decode cX6_overfull 0 = .ok (.iload_n 1, 1) := by decide +kernel
theorem dX6_overfull_1 : decode cX6_overfull 1 = .ok (.ifCond .lt 8, 3) := by decide +kernel
theorem dX6_overfull_4 : decode cX6_overfull 4 = .ok (.iload_n 1, 1) := by decide +kernel
theorem dX6_overfull_5 : decode cX6_overfull 5 = .ok (.iconst 1, 1) := by decide +kernel
theorem dX6_overfull_6 : decode cX6_overfull 6 = .ok (.if_icmp .le 12, 3) := by decide +kernel
theorem dX6_overfull_9 : decode cX6_overfull 9 = .ok (.aload_n 0, 1) := by decide +kernel
theorem dX6_overfull_10 : decode cX6_overfull 10 = .ok (.bipush (-2), 2) := by decide +kernel
theorem dX6_overfull_12 : decode cX6_overfull 12 = .ok (.bipush (-10), 2) := by decide +kernel
theorem dX6_overfull_14 : decode cX6_overfull 14 = .ok (.invokevirtual 110, 3) := by decide +kernel
theorem dX6_overfull_17 : decode cX6_overfull 17 = .ok (.ireturn, 1) := by decide +kernel
theorem dX6_overfull_18 : decode cX6_overfull 18 = .ok (.aload_n 0, 1) := by decide +kernel
theorem dX6_overfull_19 : decode cX6_overfull 19 = .ok (.getfield 16, 3) := by decide +kernel
theorem dX6_overfull_22 : decode cX6_overfull 22 = .ok (.aload_n 0, 1) := by decide +kernel
theorem dX6_overfull_23 : decode cX6_overfull 23 = .ok (.getfield 10, 3) := by decide +kernel
theorem dX6_overfull_26 : decode cX6_overfull 26 = .ok (.invokevirtual 128, 3) := by decide +kernel
theorem dX6_overfull_29 : decode cX6_overfull 29 = .ok (.iconst 0, 1) := by decide +kernel
theorem dX6_overfull_30 : decode cX6_overfull 30 = .ok (.istore_n 2, 1) := by decide +kernel
theorem dX6_overfull_31 : decode cX6_overfull 31 = .ok (.iload_n 2, 1) := by decide +kernel
theorem dX6_overfull_32 : decode cX6_overfull 32 = .ok (.bipush 60, 2) := by decide +kernel
theorem dX6_overfull_34 : decode cX6_overfull 34 = .ok (.if_icmp .gt 39, 3) := by decide +kernel
theorem dX6_overfull_37 : decode cX6_overfull 37 = .ok (.aload_n 0, 1) := by decide +kernel
theorem dX6_overfull_38 : decode cX6_overfull 38 = .ok (.getfield 16, 3) := by decide +kernel
theorem dX6_overfull_41 : decode cX6_overfull 41 = .ok (.invokevirtual 222, 3) := by decide +kernel
theorem dX6_overfull_44 : decode cX6_overfull 44 = .ok (.istore_n 3, 1) := by decide +kernel
theorem dX6_overfull_45 : decode cX6_overfull 45 = .ok (.iload_n 3, 1) := by decide +kernel
theorem dX6_overfull_46 : decode cX6_overfull 46 = .ok (.iconst (-1), 1) := by decide +kernel
theorem dX6_overfull_47 : decode cX6_overfull 47 = .ok (.if_icmp .eq 13, 3) := by decide +kernel
theorem dX6_overfull_50 : decode cX6_overfull 50 = .ok (.iload_n 1, 1) := by decide +kernel
theorem dX6_overfull_51 : decode cX6_overfull 51 = .ok (.ifCond .ne 7, 3) := by decide +kernel
theorem dX6_overfull_54 : decode cX6_overfull 54 = .ok (.iload_n 2, 1) := by decide +kernel
theorem dX6_overfull_55 : decode cX6_overfull 55 = .ok (.goto 4, 3) := by decide +kernel
theorem dX6_overfull_58 : decode cX6_overfull 58 = .ok (.iload_n 3, 1) := by decide +kernel
theorem dX6_overfull_59 : decode cX6_overfull 59 = .ok (.ireturn, 1) := by decide +kernel
theorem dX6_overfull_60 : decode cX6_overfull 60 = .ok (.aload_n 0, 1) := by decide +kernel
theorem dX6_overfull_61 : decode cX6_overfull 61 = .ok (.getfield 16, 3) := by decide +kernel
theorem dX6_overfull_64 : decode cX6_overfull 64 = .ok (.invokevirtual 148, 3) := by decide +kernel
theorem dX6_overfull_67 : decode cX6_overfull 67 = .ok (.iinc 2 1, 3) := by decide +kernel
theorem dX6_overfull_70 : decode cX6_overfull 70 = .ok (.goto (-39), 3) := by decide +kernel
theorem dX6_overfull_73 : decode cX6_overfull 73 = .ok (.iconst (-1), 1) := by decide +kernel
theorem dX6_overfull_74 : decode cX6_overfull 74 = .ok (.ireturn, 1) := by decide +kernel
theorem dX6_orders_0 : decode cX6_orders 0 = .ok (.iload_n 1, 1) := by decide +kernel
theorem dX6_orders_1 : decode cX6_orders 1 = .ok (.aload_n 0, 1) := by decide +kernel
theorem dX6_orders_2 : decode cX6_orders 2 = .ok (.getfield 10, 3) := by decide +kernel
theorem dX6_orders_5 : decode cX6_orders 5 = .ok (.getfield 151, 3) := by decide +kernel
theorem dX6_orders_8 : decode cX6_orders 8 = .ok (.iconst (-1), 1) := by decide +kernel
theorem dX6_orders_9 : decode cX6_orders 9 = .ok (.ixor, 1) := by decide +kernel
theorem dX6_orders_10 : decode cX6_orders 10 = .ok (.iand, 1) := by decide +kernel
theorem dX6_orders_11 : decode cX6_orders 11 = .ok (.ifCond .ne 18, 3) := by decide +kernel
theorem dX6_orders_14 : decode cX6_orders 14 = .ok (.aload_n 0, 1) := by decide +kernel
theorem dX6_orders_15 : decode cX6_orders 15 = .ok (.getfield 10, 3) := by decide +kernel
theorem dX6_orders_18 : decode cX6_orders 18 = .ok (.iload_n 2, 1) := by decide +kernel
theorem dX6_orders_19 : decode cX6_orders 19 = .ok (.invokevirtual 159, 3) := by decide +kernel
theorem dX6_orders_22 : decode cX6_orders 22 = .ok (.ifCond .eq 7, 3) := by decide +kernel
theorem dX6_orders_25 : decode cX6_orders 25 = .ok (.iconst 1, 1) := by decide +kernel
theorem dX6_orders_26 : decode cX6_orders 26 = .ok (.goto 4, 3) := by decide +kernel
theorem dX6_orders_29 : decode cX6_orders 29 = .ok (.iconst 0, 1) := by decide +kernel
theorem dX6_orders_30 : decode cX6_orders 30 = .ok (.istore 5, 2) := by decide +kernel
theorem dX6_orders_32 : decode cX6_orders 32 = .ok (.iload 5, 2) := by decide +kernel
theorem dX6_orders_34 : decode cX6_orders 34 = .ok (.ifCond .eq 25, 3) := by decide +kernel
theorem dX6_orders_37 : decode cX6_orders 37 = .ok (.iload_n 3, 1) := by decide +kernel
theorem dX6_orders_38 : decode cX6_orders 38 = .ok (.iconst (-1), 1) := by decide +kernel
theorem dX6_orders_39 : decode cX6_orders 39 = .ok (.if_icmp .eq 14, 3) := by decide +kernel
theorem dX6_orders_42 : decode cX6_orders 42 = .ok (.aload_n 0, 1) := by decide +kernel
theorem dX6_orders_43 : decode cX6_orders 43 = .ok (.getfield 10, 3) := by decide +kernel
theorem dX6_orders_46 : decode cX6_orders 46 = .ok (.iload_n 3, 1) := by decide +kernel
theorem dX6_orders_47 : decode cX6_orders 47 = .ok (.invokevirtual 135, 3) := by decide +kernel
theorem dX6_orders_50 : decode cX6_orders 50 = .ok (.ifCond .eq 9, 3) := by decide +kernel
theorem dX6_orders_53 : decode cX6_orders 53 = .ok (.iload 4, 2) := by decide +kernel
theorem dX6_orders_55 : decode cX6_orders 55 = .ok (.iconst (-1), 1) := by decide +kernel
theorem dX6_orders_56 : decode cX6_orders 56 = .ok (.if_icmp .ge 12, 3) := by decide +kernel
theorem dX6_orders_59 : decode cX6_orders 59 = .ok (.aload_n 0, 1) := by decide +kernel
theorem dX6_orders_60 : decode cX6_orders 60 = .ok (.bipush (-2), 2) := by decide +kernel
theorem dX6_orders_62 : decode cX6_orders 62 = .ok (.bipush (-10), 2) := by decide +kernel
theorem dX6_orders_64 : decode cX6_orders 64 = .ok (.invokevirtual 110, 3) := by decide +kernel
theorem dX6_orders_67 : decode cX6_orders 67 = .ok (.ireturn, 1) := by decide +kernel
theorem dX6_orders_68 : decode cX6_orders 68 = .ok (.aload_n 0, 1) := by decide +kernel
theorem dX6_orders_69 : decode cX6_orders 69 = .ok (.getfield 46, 3) := by decide +kernel
theorem dX6_orders_72 : decode cX6_orders 72 = .ok (.aload_n 0, 1) := by decide +kernel
theorem dX6_orders_73 : decode cX6_orders 73 = .ok (.getfield 10, 3) := by decide +kernel
theorem dX6_orders_76 : decode cX6_orders 76 = .ok (.iload_n 1, 1) := by decide +kernel
theorem dX6_orders_77 : decode cX6_orders 77 = .ok (.iload_n 2, 1) := by decide +kernel
theorem dX6_orders_78 : decode cX6_orders 78 = .ok (.iload_n 3, 1) := by decide +kernel
theorem dX6_orders_79 : decode cX6_orders 79 = .ok (.invokevirtual 225, 3) := by decide +kernel
theorem dX6_orders_82 : decode cX6_orders 82 = .ok (.iload 4, 2) := by decide +kernel
theorem dX6_orders_84 : decode cX6_orders 84 = .ok (.iconst (-1), 1) := by decide +kernel
theorem dX6_orders_85 : decode cX6_orders 85 = .ok (.if_icmp .ne 11, 3) := by decide +kernel
theorem dX6_orders_88 : decode cX6_orders 88 = .ok (.aload_n 0, 1) := by decide +kernel
theorem dX6_orders_89 : decode cX6_orders 89 = .ok (.getfield 46, 3) := by decide +kernel
theorem dX6_orders_92 : decode cX6_orders 92 = .ok (.getfield 229, 3) := by decide +kernel
theorem dX6_orders_95 : decode cX6_orders 95 = .ok (.ireturn, 1) := by decide +kernel
theorem dX6_orders_96 : decode cX6_orders 96 = .ok (.aload_n 0, 1) := by decide +kernel
theorem dX6_orders_97 : decode cX6_orders 97 = .ok (.getfield 46, 3) := by decide +kernel
theorem dX6_orders_100 : decode cX6_orders 100 = .ok (.getfield 229, 3) := by decide +kernel
theorem dX6_orders_103 : decode cX6_orders 103 = .ok (.ifCond .ne 5, 3) := by decide +kernel
theorem dX6_orders_106 : decode cX6_orders 106 = .ok (.iconst (-1), 1) := by decide +kernel
theorem dX6_orders_107 : decode cX6_orders 107 = .ok (.ireturn, 1) := by decide +kernel
theorem dX6_orders_108 : decode cX6_orders 108 = .ok (.iload 4, 2) := by decide +kernel
theorem dX6_orders_110 : decode cX6_orders 110 = .ok (.iload_n 1, 1) := by decide +kernel
theorem dX6_orders_111 : decode cX6_orders 111 = .ok (.invokestatic 154, 3) := by decide +kernel
theorem dX6_orders_114 : decode cX6_orders 114 = .ok (.if_icmp .ge 9, 3) := by decide +kernel
theorem dX6_orders_117 : decode cX6_orders 117 = .ok (.iload 4, 2) := by decide +kernel
theorem dX6_orders_119 : decode cX6_orders 119 = .ok (.iconst 5, 1) := by decide +kernel
theorem dX6_orders_120 : decode cX6_orders 120 = .ok (.if_icmp .lt 6, 3) := by decide +kernel
theorem dX6_orders_123 : decode cX6_orders 123 = .ok (.bipush (-5), 2) := by decide +kernel
theorem dX6_orders_125 : decode cX6_orders 125 = .ok (.ireturn, 1) := by decide +kernel
theorem dX6_orders_126 : decode cX6_orders 126 = .ok (.aload_n 0, 1) := by decide +kernel
theorem dX6_orders_127 : decode cX6_orders 127 = .ok (.getfield 46, 3) := by decide +kernel
theorem dX6_orders_130 : decode cX6_orders 130 = .ok (.getfield 232, 3) := by decide +kernel
theorem dX6_orders_133 : decode cX6_orders 133 = .ok (.iload 4, 2) := by decide +kernel
theorem dX6_orders_135 : decode cX6_orders 135 = .ok (.iaload, 1) := by decide +kernel
theorem dX6_orders_136 : decode cX6_orders 136 = .ok (.ireturn, 1) := by decide +kernel
theorem dX6_safe_0 : decode cX6_safe 0 = .ok (.aload_n 0, 1) := by decide +kernel
theorem dX6_safe_1 : decode cX6_safe 1 = .ok (.getfield 10, 3) := by decide +kernel
theorem dX6_safe_4 : decode cX6_safe 4 = .ok (.iload_n 1, 1) := by decide +kernel
theorem dX6_safe_5 : decode cX6_safe 5 = .ok (.invokevirtual 159, 3) := by decide +kernel
theorem dX6_safe_8 : decode cX6_safe 8 = .ok (.ifCond .ne 12, 3) := by decide +kernel
theorem dX6_safe_11 : decode cX6_safe 11 = .ok (.aload_n 0, 1) := by decide +kernel
theorem dX6_safe_12 : decode cX6_safe 12 = .ok (.bipush (-2), 2) := by decide +kernel
theorem dX6_safe_14 : decode cX6_safe 14 = .ok (.bipush (-2), 2) := by decide +kernel
theorem dX6_safe_16 : decode cX6_safe 16 = .ok (.invokevirtual 110, 3) := by decide +kernel
theorem dX6_safe_19 : decode cX6_safe 19 = .ok (.ireturn, 1) := by decide +kernel
theorem dX6_safe_20 : decode cX6_safe 20 = .ok (.iconst 0, 1) := by decide +kernel
theorem dX6_safe_21 : decode cX6_safe 21 = .ok (.istore_n 2, 1) := by decide +kernel
theorem dX6_safe_22 : decode cX6_safe 22 = .ok (.iconst 0, 1) := by decide +kernel
theorem dX6_safe_23 : decode cX6_safe 23 = .ok (.istore_n 3, 1) := by decide +kernel
theorem dX6_safe_24 : decode cX6_safe 24 = .ok (.iload_n 3, 1) := by decide +kernel
theorem dX6_safe_25 : decode cX6_safe 25 = .ok (.bipush 6, 2) := by decide +kernel
theorem dX6_safe_27 : decode cX6_safe 27 = .ok (.if_icmp .ge 41, 3) := by decide +kernel
theorem dX6_safe_30 : decode cX6_safe 30 = .ok (.aload_n 0, 1) := by decide +kernel
theorem dX6_safe_31 : decode cX6_safe 31 = .ok (.getfield 10, 3) := by decide +kernel
theorem dX6_safe_34 : decode cX6_safe 34 = .ok (.getfield 151, 3) := by decide +kernel
theorem dX6_safe_37 : decode cX6_safe 37 = .ok (.ifCond .eq 19, 3) := by decide +kernel
theorem dX6_safe_40 : decode cX6_safe 40 = .ok (.aload_n 0, 1) := by decide +kernel
theorem dX6_safe_41 : decode cX6_safe 41 = .ok (.getfield 46, 3) := by decide +kernel
theorem dX6_safe_44 : decode cX6_safe 44 = .ok (.aload_n 0, 1) := by decide +kernel
theorem dX6_safe_45 : decode cX6_safe 45 = .ok (.getfield 10, 3) := by decide +kernel
theorem dX6_safe_48 : decode cX6_safe 48 = .ok (.iload_n 3, 1) := by decide +kernel
theorem dX6_safe_49 : decode cX6_safe 49 = .ok (.iload_n 1, 1) := by decide +kernel
theorem dX6_safe_50 : decode cX6_safe 50 = .ok (.invokevirtual 235, 3) := by decide +kernel
theorem dX6_safe_53 : decode cX6_safe 53 = .ok (.ifCond .eq 9, 3) := by decide +kernel
theorem dX6_safe_56 : decode cX6_safe 56 = .ok (.iload_n 2, 1) := by decide +kernel
theorem dX6_safe_57 : decode cX6_safe 57 = .ok (.iconst 1, 1) := by decide +kernel
theorem dX6_safe_58 : decode cX6_safe 58 = .ok (.iload_n 3, 1) := by decide +kernel
theorem dX6_safe_59 : decode cX6_safe 59 = .ok (.ishl, 1) := by decide +kernel
theorem dX6_safe_60 : decode cX6_safe 60 = .ok (.ior, 1) := by decide +kernel
theorem dX6_safe_61 : decode cX6_safe 61 = .ok (.istore_n 2, 1) := by decide +kernel
theorem dX6_safe_62 : decode cX6_safe 62 = .ok (.iinc 3 1, 3) := by decide +kernel
theorem dX6_safe_65 : decode cX6_safe 65 = .ok (.goto (-41), 3) := by decide +kernel
theorem dX6_safe_68 : decode cX6_safe 68 = .ok (.iload_n 2, 1) := by decide +kernel
theorem dX6_safe_69 : decode cX6_safe 69 = .ok (.ireturn, 1) := by decide +kernel
theorem dX6_moves_0 : decode cX6_moves 0 = .ok (.iload_n 1, 1) := by decide +kernel
theorem dX6_moves_1 : decode cX6_moves 1 = .ok (.iconst (-1), 1) := by decide +kernel
theorem dX6_moves_2 : decode cX6_moves 2 = .ok (.if_icmp .ge 12, 3) := by decide +kernel
theorem dX6_moves_5 : decode cX6_moves 5 = .ok (.aload_n 0, 1) := by decide +kernel
theorem dX6_moves_6 : decode cX6_moves 6 = .ok (.bipush (-2), 2) := by decide +kernel
theorem dX6_moves_8 : decode cX6_moves 8 = .ok (.bipush (-10), 2) := by decide +kernel
theorem dX6_moves_10 : decode cX6_moves 10 = .ok (.invokevirtual 110, 3) := by decide +kernel
theorem dX6_moves_13 : decode cX6_moves 13 = .ok (.ireturn, 1) := by decide +kernel
theorem dX6_moves_14 : decode cX6_moves 14 = .ok (.aload_n 0, 1) := by decide +kernel
theorem dX6_moves_15 : decode cX6_moves 15 = .ok (.getfield 53, 3) := by decide +kernel
theorem dX6_moves_18 : decode cX6_moves 18 = .ok (.aload_n 0, 1) := by decide +kernel
theorem dX6_moves_19 : decode cX6_moves 19 = .ok (.getfield 10, 3) := by decide +kernel
theorem dX6_moves_22 : decode cX6_moves 22 = .ok (.invokevirtual 239, 3) := by decide +kernel
theorem dX6_moves_25 : decode cX6_moves 25 = .ok (.istore_n 2, 1) := by decide +kernel
theorem dX6_moves_26 : decode cX6_moves 26 = .ok (.iload_n 2, 1) := by decide +kernel
theorem dX6_moves_27 : decode cX6_moves 27 = .ok (.iconst (-1), 1) := by decide +kernel
theorem dX6_moves_28 : decode cX6_moves 28 = .ok (.if_icmp .eq 8, 3) := by decide +kernel
theorem dX6_moves_31 : decode cX6_moves 31 = .ok (.iload_n 1, 1) := by decide +kernel
theorem dX6_moves_32 : decode cX6_moves 32 = .ok (.iconst (-1), 1) := by decide +kernel
theorem dX6_moves_33 : decode cX6_moves 33 = .ok (.if_icmp .ne 5, 3) := by decide +kernel
theorem dX6_moves_36 : decode cX6_moves 36 = .ok (.iload_n 2, 1) := by decide +kernel
theorem dX6_moves_37 : decode cX6_moves 37 = .ok (.ireturn, 1) := by decide +kernel
theorem dX6_moves_38 : decode cX6_moves 38 = .ok (.iload_n 1, 1) := by decide +kernel
theorem dX6_moves_39 : decode cX6_moves 39 = .ok (.aload_n 0, 1) := by decide +kernel
theorem dX6_moves_40 : decode cX6_moves 40 = .ok (.getfield 10, 3) := by decide +kernel
theorem dX6_moves_43 : decode cX6_moves 43 = .ok (.getfield 241, 3) := by decide +kernel
theorem dX6_moves_46 : decode cX6_moves 46 = .ok (.if_icmp .ge 9, 3) := by decide +kernel
theorem dX6_moves_49 : decode cX6_moves 49 = .ok (.iload_n 1, 1) := by decide +kernel
theorem dX6_moves_50 : decode cX6_moves 50 = .ok (.bipush 6, 2) := by decide +kernel
theorem dX6_moves_52 : decode cX6_moves 52 = .ok (.if_icmp .lt 6, 3) := by decide +kernel
theorem dX6_moves_55 : decode cX6_moves 55 = .ok (.bipush (-5), 2) := by decide +kernel
theorem dX6_moves_57 : decode cX6_moves 57 = .ok (.ireturn, 1) := by decide +kernel
theorem dX6_moves_58 : decode cX6_moves 58 = .ok (.aload_n 0, 1) := by decide +kernel
theorem dX6_moves_59 : decode cX6_moves 59 = .ok (.getfield 53, 3) := by decide +kernel
theorem dX6_moves_62 : decode cX6_moves 62 = .ok (.getfield 244, 3) := by decide +kernel
theorem dX6_moves_65 : decode cX6_moves 65 = .ok (.iload_n 1, 1) := by decide +kernel
theorem dX6_moves_66 : decode cX6_moves 66 = .ok (.iaload, 1) := by decide +kernel
theorem dX6_moves_67 : decode cX6_moves 67 = .ok (.ireturn, 1) := by decide +kernel
theorem dX6_share_0 : decode cX6_share 0 = .ok (.aload_n 0, 1) := by decide +kernel
theorem dX6_share_1 : decode cX6_share 1 = .ok (.getfield 10, 3) := by decide +kernel
theorem dX6_share_4 : decode cX6_share 4 = .ok (.iload_n 1, 1) := by decide +kernel
theorem dX6_share_5 : decode cX6_share 5 = .ok (.invokevirtual 135, 3) := by decide +kernel
theorem dX6_share_8 : decode cX6_share 8 = .ok (.ifCond .ne 12, 3) := by decide +kernel
theorem dX6_share_11 : decode cX6_share 11 = .ok (.aload_n 0, 1) := by decide +kernel
theorem dX6_share_12 : decode cX6_share 12 = .ok (.bipush (-2), 2) := by decide +kernel
theorem dX6_share_14 : decode cX6_share 14 = .ok (.bipush (-2), 2) := by decide +kernel
theorem dX6_share_16 : decode cX6_share 16 = .ok (.invokevirtual 110, 3) := by decide +kernel
theorem dX6_share_19 : decode cX6_share 19 = .ok (.ireturn, 1) := by decide +kernel
theorem dX6_share_20 : decode cX6_share 20 = .ok (.aload_n 0, 1) := by decide +kernel
theorem dX6_share_21 : decode cX6_share 21 = .ok (.getfield 10, 3) := by decide +kernel
theorem dX6_share_24 : decode cX6_share 24 = .ok (.iload_n 1, 1) := by decide +kernel
theorem dX6_share_25 : decode cX6_share 25 = .ok (.invokevirtual 247, 3) := by decide +kernel
theorem dX6_share_28 : decode cX6_share 28 = .ok (.istore_n 2, 1) := by decide +kernel
theorem dX6_share_29 : decode cX6_share 29 = .ok (.aload_n 0, 1) := by decide +kernel
theorem dX6_share_30 : decode cX6_share 30 = .ok (.iload_n 2, 1) := by decide +kernel
theorem dX6_share_31 : decode cX6_share 31 = .ok (.ifCond .ne 7, 3) := by decide +kernel
theorem dX6_share_34 : decode cX6_share 34 = .ok (.lconst 0, 1) := by decide +kernel
theorem dX6_share_35 : decode cX6_share 35 = .ok (.goto 13, 3) := by decide +kernel
theorem dX6_share_38 : decode cX6_share 38 = .ok (.aload_n 0, 1) := by decide +kernel
theorem dX6_share_39 : decode cX6_share 39 = .ok (.getfield 10, 3) := by decide +kernel
theorem dX6_share_42 : decode cX6_share 42 = .ok (.getfield 175, 3) := by decide +kernel
theorem dX6_share_45 : decode cX6_share 45 = .ok (.iload_n 1, 1) := by decide +kernel
theorem dX6_share_46 : decode cX6_share 46 = .ok (.iaload, 1) := by decide +kernel
theorem dX6_share_47 : decode cX6_share 47 = .ok (.i2l, 1) := by decide +kernel
theorem dX6_share_48 : decode cX6_share 48 = .ok (.putfield 57, 3) := by decide +kernel
theorem dX6_share_51 : decode cX6_share 51 = .ok (.aload_n 0, 1) := by decide +kernel
theorem dX6_share_52 : decode cX6_share 52 = .ok (.iload_n 2, 1) := by decide +kernel
theorem dX6_share_53 : decode cX6_share 53 = .ok (.ifCond .ne 7, 3) := by decide +kernel
theorem dX6_share_56 : decode cX6_share 56 = .ok (.lconst 1, 1) := by decide +kernel
theorem dX6_share_57 : decode cX6_share 57 = .ok (.goto 5, 3) := by decide +kernel
theorem dX6_share_60 : decode cX6_share 60 = .ok (.iload_n 2, 1) := by decide +kernel
theorem dX6_share_61 : decode cX6_share 61 = .ok (.i2l, 1) := by decide +kernel
theorem dX6_share_62 : decode cX6_share 62 = .ok (.putfield 61, 3) := by decide +kernel
theorem dX6_share_65 : decode cX6_share 65 = .ok (.aload_n 0, 1) := by decide +kernel
theorem dX6_share_66 : decode cX6_share 66 = .ok (.invokevirtual 250, 3) := by decide +kernel
theorem dX6_share_69 : decode cX6_share 69 = .ok (.iload_n 2, 1) := by decide +kernel
theorem dX6_share_70 : decode cX6_share 70 = .ok (.ireturn, 1) := by decide +kernel
theorem dX6_plaster_0 : decode cX6_plaster 0 = .ok (.iload_n 1, 1) := by decide +kernel
theorem dX6_plaster_1 : decode cX6_plaster 1 = .ok (.ifCond .lt 25, 3) := by decide +kernel
theorem dX6_plaster_4 : decode cX6_plaster 4 = .ok (.iload_n 1, 1) := by decide +kernel
theorem dX6_plaster_5 : decode cX6_plaster 5 = .ok (.bipush 8, 2) := by decide +kernel
theorem dX6_plaster_7 : decode cX6_plaster 7 = .ok (.if_icmp .gt 19, 3) := by decide +kernel
theorem dX6_plaster_10 : decode cX6_plaster 10 = .ok (.iload_n 2, 1) := by decide +kernel
theorem dX6_plaster_11 : decode cX6_plaster 11 = .ok (.iconst (-1), 1) := by decide +kernel
theorem dX6_plaster_12 : decode cX6_plaster 12 = .ok (.if_icmp .eq 23, 3) := by decide +kernel
theorem dX6_plaster_15 : decode cX6_plaster 15 = .ok (.aload_n 0, 1) := by decide +kernel
theorem dX6_plaster_16 : decode cX6_plaster 16 = .ok (.getfield 10, 3) := by decide +kernel
theorem dX6_plaster_19 : decode cX6_plaster 19 = .ok (.iload_n 2, 1) := by decide +kernel
theorem dX6_plaster_20 : decode cX6_plaster 20 = .ok (.invokevirtual 135, 3) := by decide +kernel
theorem dX6_plaster_23 : decode cX6_plaster 23 = .ok (.ifCond .ne 12, 3) := by decide +kernel
theorem dX6_plaster_26 : decode cX6_plaster 26 = .ok (.aload_n 0, 1) := by decide +kernel
theorem dX6_plaster_27 : decode cX6_plaster 27 = .ok (.bipush (-2), 2) := by decide +kernel
theorem dX6_plaster_29 : decode cX6_plaster 29 = .ok (.bipush (-10), 2) := by decide +kernel
theorem dX6_plaster_31 : decode cX6_plaster 31 = .ok (.invokevirtual 110, 3) := by decide +kernel
theorem dX6_plaster_34 : decode cX6_plaster 34 = .ok (.ireturn, 1) := by decide +kernel
theorem dX6_plaster_35 : decode cX6_plaster 35 = .ok (.iload_n 2, 1) := by decide +kernel
theorem dX6_plaster_36 : decode cX6_plaster 36 = .ok (.iconst (-1), 1) := by decide +kernel
theorem dX6_plaster_37 : decode cX6_plaster 37 = .ok (.if_icmp .eq 16, 3) := by decide +kernel
theorem dX6_plaster_40 : decode cX6_plaster 40 = .ok (.aload_n 0, 1) := by decide +kernel
theorem dX6_plaster_41 : decode cX6_plaster 41 = .ok (.getfield 10, 3) := by decide +kernel
theorem dX6_plaster_44 : decode cX6_plaster 44 = .ok (.iload_n 2, 1) := by decide +kernel
theorem dX6_plaster_45 : decode cX6_plaster 45 = .ok (.iload_n 1, 1) := by decide +kernel
theorem dX6_plaster_46 : decode cX6_plaster 46 = .ok (.invokevirtual 253, 3) := by decide +kernel
theorem dX6_plaster_49 : decode cX6_plaster 49 = .ok (.invokestatic 256, 3) := by decide +kernel
theorem dX6_plaster_52 : decode cX6_plaster 52 = .ok (.ireturn, 1) := by decide +kernel
theorem dX6_plaster_53 : decode cX6_plaster 53 = .ok (.iconst 1, 1) := by decide +kernel
theorem dX6_plaster_54 : decode cX6_plaster 54 = .ok (.istore_n 3, 1) := by decide +kernel
theorem dX6_plaster_55 : decode cX6_plaster 55 = .ok (.iconst 1, 1) := by decide +kernel
theorem dX6_plaster_56 : decode cX6_plaster 56 = .ok (.istore 4, 2) := by decide +kernel
theorem dX6_plaster_58 : decode cX6_plaster 58 = .ok (.iload 4, 2) := by decide +kernel
theorem dX6_plaster_60 : decode cX6_plaster 60 = .ok (.aload_n 0, 1) := by decide +kernel
theorem dX6_plaster_61 : decode cX6_plaster 61 = .ok (.getfield 10, 3) := by decide +kernel
theorem dX6_plaster_64 : decode cX6_plaster 64 = .ok (.getfield 74, 3) := by decide +kernel
theorem dX6_plaster_67 : decode cX6_plaster 67 = .ok (.if_icmp .ge 25, 3) := by decide +kernel
theorem dX6_plaster_70 : decode cX6_plaster 70 = .ok (.iload_n 3, 1) := by decide +kernel
theorem dX6_plaster_71 : decode cX6_plaster 71 = .ok (.aload_n 0, 1) := by decide +kernel
theorem dX6_plaster_72 : decode cX6_plaster 72 = .ok (.getfield 10, 3) := by decide +kernel
theorem dX6_plaster_75 : decode cX6_plaster 75 = .ok (.iload 4, 2) := by decide +kernel
theorem dX6_plaster_77 : decode cX6_plaster 77 = .ok (.iload_n 1, 1) := by decide +kernel
theorem dX6_plaster_78 : decode cX6_plaster 78 = .ok (.invokevirtual 253, 3) := by decide +kernel
theorem dX6_plaster_81 : decode cX6_plaster 81 = .ok (.invokestatic 154, 3) := by decide +kernel
theorem dX6_plaster_84 : decode cX6_plaster 84 = .ok (.imul, 1) := by decide +kernel
theorem dX6_plaster_85 : decode cX6_plaster 85 = .ok (.istore_n 3, 1) := by decide +kernel
theorem dX6_plaster_86 : decode cX6_plaster 86 = .ok (.iinc 4 1, 3) := by decide +kernel
theorem dX6_plaster_89 : decode cX6_plaster 89 = .ok (.goto (-31), 3) := by decide +kernel
theorem dX6_plaster_92 : decode cX6_plaster 92 = .ok (.iload_n 3, 1) := by decide +kernel
theorem dX6_plaster_93 : decode cX6_plaster 93 = .ok (.ireturn, 1) := by decide +kernel
theorem dX6_gables_0 : decode cX6_gables 0 = .ok (.iload_n 1, 1) := by decide +kernel
theorem dX6_gables_1 : decode cX6_gables 1 = .ok (.ifCond .lt 9, 3) := by decide +kernel
theorem dX6_gables_4 : decode cX6_gables 4 = .ok (.iload_n 1, 1) := by decide +kernel
theorem dX6_gables_5 : decode cX6_gables 5 = .ok (.bipush 8, 2) := by decide +kernel
theorem dX6_gables_7 : decode cX6_gables 7 = .ok (.if_icmp .le 12, 3) := by decide +kernel
theorem dX6_gables_10 : decode cX6_gables 10 = .ok (.aload_n 0, 1) := by decide +kernel
theorem dX6_gables_11 : decode cX6_gables 11 = .ok (.bipush (-2), 2) := by decide +kernel
theorem dX6_gables_13 : decode cX6_gables 13 = .ok (.bipush (-2), 2) := by decide +kernel
theorem dX6_gables_15 : decode cX6_gables 15 = .ok (.invokevirtual 110, 3) := by decide +kernel
theorem dX6_gables_18 : decode cX6_gables 18 = .ok (.ireturn, 1) := by decide +kernel
theorem dX6_gables_19 : decode cX6_gables 19 = .ok (.iconst 0, 1) := by decide +kernel
theorem dX6_gables_20 : decode cX6_gables 20 = .ok (.istore_n 2, 1) := by decide +kernel
theorem dX6_gables_21 : decode cX6_gables 21 = .ok (.iconst 1, 1) := by decide +kernel
theorem dX6_gables_22 : decode cX6_gables 22 = .ok (.istore_n 3, 1) := by decide +kernel
theorem dX6_gables_23 : decode cX6_gables 23 = .ok (.iload_n 3, 1) := by decide +kernel
theorem dX6_gables_24 : decode cX6_gables 24 = .ok (.aload_n 0, 1) := by decide +kernel
theorem dX6_gables_25 : decode cX6_gables 25 = .ok (.getfield 10, 3) := by decide +kernel
theorem dX6_gables_28 : decode cX6_gables 28 = .ok (.getfield 74, 3) := by decide +kernel
theorem dX6_gables_31 : decode cX6_gables 31 = .ok (.if_icmp .ge 27, 3) := by decide +kernel
theorem dX6_gables_34 : decode cX6_gables 34 = .ok (.aload_n 0, 1) := by decide +kernel
theorem dX6_gables_35 : decode cX6_gables 35 = .ok (.getfield 10, 3) := by decide +kernel
theorem dX6_gables_38 : decode cX6_gables 38 = .ok (.iload_n 3, 1) := by decide +kernel
theorem dX6_gables_39 : decode cX6_gables 39 = .ok (.iload_n 1, 1) := by decide +kernel
theorem dX6_gables_40 : decode cX6_gables 40 = .ok (.invokevirtual 253, 3) := by decide +kernel
theorem dX6_gables_43 : decode cX6_gables 43 = .ok (.ifCond .ne 9, 3) := by decide +kernel
theorem dX6_gables_46 : decode cX6_gables 46 = .ok (.iload_n 2, 1) := by decide +kernel
theorem dX6_gables_47 : decode cX6_gables 47 = .ok (.iconst 1, 1) := by decide +kernel
theorem dX6_gables_48 : decode cX6_gables 48 = .ok (.iload_n 3, 1) := by decide +kernel
theorem dX6_gables_49 : decode cX6_gables 49 = .ok (.ishl, 1) := by decide +kernel
theorem dX6_gables_50 : decode cX6_gables 50 = .ok (.ior, 1) := by decide +kernel
theorem dX6_gables_51 : decode cX6_gables 51 = .ok (.istore_n 2, 1) := by decide +kernel
theorem dX6_gables_52 : decode cX6_gables 52 = .ok (.iinc 3 1, 3) := by decide +kernel
theorem dX6_gables_55 : decode cX6_gables 55 = .ok (.goto (-32), 3) := by decide +kernel
theorem dX6_gables_58 : decode cX6_gables 58 = .ok (.iload_n 2, 1) := by decide +kernel
theorem dX6_gables_59 : decode cX6_gables 59 = .ok (.ireturn, 1) := by decide +kernel
theorem dX6_doors_0 : decode cX6_doors 0 = .ok (.iload_n 1, 1) := by decide +kernel
theorem dX6_doors_1 : decode cX6_doors 1 = .ok (.iload_n 3, 1) := by decide +kernel
theorem dX6_doors_2 : decode cX6_doors 2 = .ok (.if_icmp .eq 35, 3) := by decide +kernel
theorem dX6_doors_5 : decode cX6_doors 5 = .ok (.iload_n 2, 1) := by decide +kernel
theorem dX6_doors_6 : decode cX6_doors 6 = .ok (.iload_n 3, 1) := by decide +kernel
theorem dX6_doors_7 : decode cX6_doors 7 = .ok (.if_icmp .eq 30, 3) := by decide +kernel
theorem dX6_doors_10 : decode cX6_doors 10 = .ok (.aload_n 0, 1) := by decide +kernel
theorem dX6_doors_11 : decode cX6_doors 11 = .ok (.getfield 10, 3) := by decide +kernel
theorem dX6_doors_14 : decode cX6_doors 14 = .ok (.iload_n 1, 1) := by decide +kernel
theorem dX6_doors_15 : decode cX6_doors 15 = .ok (.iload_n 2, 1) := by decide +kernel
theorem dX6_doors_16 : decode cX6_doors 16 = .ok (.invokevirtual 199, 3) := by decide +kernel
theorem dX6_doors_19 : decode cX6_doors 19 = .ok (.ifCond .eq 18, 3) := by decide +kernel
theorem dX6_doors_22 : decode cX6_doors 22 = .ok (.aload_n 0, 1) := by decide +kernel
theorem dX6_doors_23 : decode cX6_doors 23 = .ok (.getfield 10, 3) := by decide +kernel
theorem dX6_doors_26 : decode cX6_doors 26 = .ok (.iload_n 3, 1) := by decide +kernel
theorem dX6_doors_27 : decode cX6_doors 27 = .ok (.invokevirtual 135, 3) := by decide +kernel
theorem dX6_doors_30 : decode cX6_doors 30 = .ok (.ifCond .eq 7, 3) := by decide +kernel
theorem dX6_doors_33 : decode cX6_doors 33 = .ok (.iconst 1, 1) := by decide +kernel
theorem dX6_doors_34 : decode cX6_doors 34 = .ok (.goto 4, 3) := by decide +kernel
theorem dX6_doors_37 : decode cX6_doors 37 = .ok (.iconst 0, 1) := by decide +kernel
theorem dX6_doors_38 : decode cX6_doors 38 = .ok (.istore 5, 2) := by decide +kernel
theorem dX6_doors_40 : decode cX6_doors 40 = .ok (.iload 5, 2) := by decide +kernel
theorem dX6_doors_42 : decode cX6_doors 42 = .ok (.ifCond .eq 14, 3) := by decide +kernel
theorem dX6_doors_45 : decode cX6_doors 45 = .ok (.iload 4, 2) := by decide +kernel
theorem dX6_doors_47 : decode cX6_doors 47 = .ok (.ifCond .lt 9, 3) := by decide +kernel
theorem dX6_doors_50 : decode cX6_doors 50 = .ok (.iload 4, 2) := by decide +kernel
theorem dX6_doors_52 : decode cX6_doors 52 = .ok (.iconst 1, 1) := by decide +kernel
theorem dX6_doors_53 : decode cX6_doors 53 = .ok (.if_icmp .le 12, 3) := by decide +kernel
theorem dX6_doors_56 : decode cX6_doors 56 = .ok (.aload_n 0, 1) := by decide +kernel
theorem dX6_doors_57 : decode cX6_doors 57 = .ok (.bipush (-2), 2) := by decide +kernel
theorem dX6_doors_59 : decode cX6_doors 59 = .ok (.bipush (-10), 2) := by decide +kernel
theorem dX6_doors_61 : decode cX6_doors 61 = .ok (.invokevirtual 110, 3) := by decide +kernel
theorem dX6_doors_64 : decode cX6_doors 64 = .ok (.ireturn, 1) := by decide +kernel
theorem dX6_doors_65 : decode cX6_doors 65 = .ok (.aload_n 0, 1) := by decide +kernel
theorem dX6_doors_66 : decode cX6_doors 66 = .ok (.getfield 10, 3) := by decide +kernel
theorem dX6_doors_69 : decode cX6_doors 69 = .ok (.iload_n 1, 1) := by decide +kernel
theorem dX6_doors_70 : decode cX6_doors 70 = .ok (.invokevirtual 139, 3) := by decide +kernel
theorem dX6_doors_73 : decode cX6_doors 73 = .ok (.ifCond .eq 25, 3) := by decide +kernel
theorem dX6_doors_76 : decode cX6_doors 76 = .ok (.aload_n 0, 1) := by decide +kernel
theorem dX6_doors_77 : decode cX6_doors 77 = .ok (.getfield 10, 3) := by decide +kernel
theorem dX6_doors_80 : decode cX6_doors 80 = .ok (.iload_n 2, 1) := by decide +kernel
theorem dX6_doors_81 : decode cX6_doors 81 = .ok (.invokevirtual 139, 3) := by decide +kernel
theorem dX6_doors_84 : decode cX6_doors 84 = .ok (.ifCond .eq 14, 3) := by decide +kernel
theorem dX6_doors_87 : decode cX6_doors 87 = .ok (.aload_n 0, 1) := by decide +kernel
theorem dX6_doors_88 : decode cX6_doors 88 = .ok (.getfield 10, 3) := by decide +kernel
theorem dX6_doors_91 : decode cX6_doors 91 = .ok (.iload_n 3, 1) := by decide +kernel
theorem dX6_doors_92 : decode cX6_doors 92 = .ok (.invokevirtual 139, 3) := by decide +kernel
theorem dX6_doors_95 : decode cX6_doors 95 = .ok (.ifCond .ne 12, 3) := by decide +kernel
theorem dX6_doors_98 : decode cX6_doors 98 = .ok (.aload_n 0, 1) := by decide +kernel
theorem dX6_doors_99 : decode cX6_doors 99 = .ok (.bipush (-3), 2) := by decide +kernel
theorem dX6_doors_101 : decode cX6_doors 101 = .ok (.bipush (-20), 2) := by decide +kernel
theorem dX6_doors_103 : decode cX6_doors 103 = .ok (.invokevirtual 110, 3) := by decide +kernel
theorem dX6_doors_106 : decode cX6_doors 106 = .ok (.ireturn, 1) := by decide +kernel
theorem dX6_doors_107 : decode cX6_doors 107 = .ok (.iconst 0, 1) := by decide +kernel
theorem dX6_doors_108 : decode cX6_doors 108 = .ok (.istore 6, 2) := by decide +kernel
theorem dX6_doors_110 : decode cX6_doors 110 = .ok (.iconst (-1), 1) := by decide +kernel
theorem dX6_doors_111 : decode cX6_doors 111 = .ok (.istore 7, 2) := by decide +kernel
theorem dX6_doors_113 : decode cX6_doors 113 = .ok (.iconst 0, 1) := by decide +kernel
theorem dX6_doors_114 : decode cX6_doors 114 = .ok (.istore 8, 2) := by decide +kernel
theorem dX6_doors_116 : decode cX6_doors 116 = .ok (.iload 8, 2) := by decide +kernel
theorem dX6_doors_118 : decode cX6_doors 118 = .ok (.iconst 4, 1) := by decide +kernel
theorem dX6_doors_119 : decode cX6_doors 119 = .ok (.if_icmp .ge 58, 3) := by decide +kernel
theorem dX6_doors_122 : decode cX6_doors 122 = .ok (.iload 8, 2) := by decide +kernel
theorem dX6_doors_124 : decode cX6_doors 124 = .ok (.iconst 1, 1) := by decide +kernel
theorem dX6_doors_125 : decode cX6_doors 125 = .ok (.ishr, 1) := by decide +kernel
theorem dX6_doors_126 : decode cX6_doors 126 = .ok (.istore 9, 2) := by decide +kernel
theorem dX6_doors_128 : decode cX6_doors 128 = .ok (.iload 8, 2) := by decide +kernel
theorem dX6_doors_130 : decode cX6_doors 130 = .ok (.iconst 1, 1) := by decide +kernel
theorem dX6_doors_131 : decode cX6_doors 131 = .ok (.iand, 1) := by decide +kernel
theorem dX6_doors_132 : decode cX6_doors 132 = .ok (.istore 10, 2) := by decide +kernel
theorem dX6_doors_134 : decode cX6_doors 134 = .ok (.aload_n 0, 1) := by decide +kernel
theorem dX6_doors_135 : decode cX6_doors 135 = .ok (.iload_n 1, 1) := by decide +kernel
theorem dX6_doors_136 : decode cX6_doors 136 = .ok (.iload_n 2, 1) := by decide +kernel
theorem dX6_doors_137 : decode cX6_doors 137 = .ok (.iload_n 3, 1) := by decide +kernel
theorem dX6_doors_138 : decode cX6_doors 138 = .ok (.iload 9, 2) := by decide +kernel
theorem dX6_doors_140 : decode cX6_doors 140 = .ok (.iload 10, 2) := by decide +kernel
theorem dX6_doors_142 : decode cX6_doors 142 = .ok (.invokevirtual 259, 3) := by decide +kernel
theorem dX6_doors_145 : decode cX6_doors 145 = .ok (.ifCond .eq 26, 3) := by decide +kernel
theorem dX6_doors_148 : decode cX6_doors 148 = .ok (.iload 6, 2) := by decide +kernel
theorem dX6_doors_150 : decode cX6_doors 150 = .ok (.ifCond .ne 14, 3) := by decide +kernel
theorem dX6_doors_153 : decode cX6_doors 153 = .ok (.bipush 10, 2) := by decide +kernel
theorem dX6_doors_155 : decode cX6_doors 155 = .ok (.iload 9, 2) := by decide +kernel
theorem dX6_doors_157 : decode cX6_doors 157 = .ok (.imul, 1) := by decide +kernel
theorem dX6_doors_158 : decode cX6_doors 158 = .ok (.iload 10, 2) := by decide +kernel
theorem dX6_doors_160 : decode cX6_doors 160 = .ok (.iadd, 1) := by decide +kernel
theorem dX6_doors_161 : decode cX6_doors 161 = .ok (.goto 5, 3) := by decide +kernel
theorem dX6_doors_164 : decode cX6_doors 164 = .ok (.iload 7, 2) := by decide +kernel
theorem dX6_doors_166 : decode cX6_doors 166 = .ok (.istore 7, 2) := by decide +kernel
theorem dX6_doors_168 : decode cX6_doors 168 = .ok (.iinc 6 1, 3) := by decide +kernel
theorem dX6_doors_171 : decode cX6_doors 171 = .ok (.iinc 8 1, 3) := by decide +kernel
theorem dX6_doors_174 : decode cX6_doors 174 = .ok (.goto (-58), 3) := by decide +kernel
theorem dX6_doors_177 : decode cX6_doors 177 = .ok (.iload 4, 2) := by decide +kernel
theorem dX6_doors_179 : decode cX6_doors 179 = .ok (.ifCond .ne 8, 3) := by decide +kernel
theorem dX6_doors_182 : decode cX6_doors 182 = .ok (.iload 6, 2) := by decide +kernel
theorem dX6_doors_184 : decode cX6_doors 184 = .ok (.goto 5, 3) := by decide +kernel
theorem dX6_doors_187 : decode cX6_doors 187 = .ok (.iload 7, 2) := by decide +kernel
theorem dX6_doors_189 : decode cX6_doors 189 = .ok (.ireturn, 1) := by decide +kernel
theorem dX6_drawn_0 : decode cX6_drawn 0 = .ok (.iload_n 1, 1) := by decide +kernel
theorem dX6_drawn_1 : decode cX6_drawn 1 = .ok (.ifCond .lt 19, 3) := by decide +kernel
theorem dX6_drawn_4 : decode cX6_drawn 4 = .ok (.iload_n 1, 1) := by decide +kernel
theorem dX6_drawn_5 : decode cX6_drawn 5 = .ok (.ldc_w 263, 3) := by decide +kernel
theorem dX6_drawn_8 : decode cX6_drawn 8 = .ok (.if_icmp .gt 12, 3) := by decide +kernel
theorem dX6_drawn_11 : decode cX6_drawn 11 = .ok (.iload_n 2, 1) := by decide +kernel
theorem dX6_drawn_12 : decode cX6_drawn 12 = .ok (.ifCond .lt 8, 3) := by decide +kernel
theorem dX6_drawn_15 : decode cX6_drawn 15 = .ok (.iload_n 2, 1) := by decide +kernel
theorem dX6_drawn_16 : decode cX6_drawn 16 = .ok (.iconst 5, 1) := by decide +kernel
theorem dX6_drawn_17 : decode cX6_drawn 17 = .ok (.if_icmp .le 12, 3) := by decide +kernel
theorem dX6_drawn_20 : decode cX6_drawn 20 = .ok (.aload_n 0, 1) := by decide +kernel
theorem dX6_drawn_21 : decode cX6_drawn 21 = .ok (.bipush (-2), 2) := by decide +kernel
theorem dX6_drawn_23 : decode cX6_drawn 23 = .ok (.bipush (-2), 2) := by decide +kernel
theorem dX6_drawn_25 : decode cX6_drawn 25 = .ok (.invokevirtual 110, 3) := by decide +kernel
theorem dX6_drawn_28 : decode cX6_drawn 28 = .ok (.ireturn, 1) := by decide +kernel
theorem dX6_drawn_29 : decode cX6_drawn 29 = .ok (.aload_n 0, 1) := by decide +kernel
theorem dX6_drawn_30 : decode cX6_drawn 30 = .ok (.getfield 16, 3) := by decide +kernel
theorem dX6_drawn_33 : decode cX6_drawn 33 = .ok (.aload_n 0, 1) := by decide +kernel
theorem dX6_drawn_34 : decode cX6_drawn 34 = .ok (.getfield 10, 3) := by decide +kernel
theorem dX6_drawn_37 : decode cX6_drawn 37 = .ok (.invokevirtual 128, 3) := by decide +kernel
theorem dX6_drawn_40 : decode cX6_drawn 40 = .ok (.iload_n 1, 1) := by decide +kernel
theorem dX6_drawn_41 : decode cX6_drawn 41 = .ok (.i2l, 1) := by decide +kernel
theorem dX6_drawn_42 : decode cX6_drawn 42 = .ok (.lstore_n 3, 1) := by decide +kernel
theorem dX6_drawn_43 : decode cX6_drawn 43 = .ok (.iconst 0, 1) := by decide +kernel
theorem dX6_drawn_44 : decode cX6_drawn 44 = .ok (.istore 5, 2) := by decide +kernel
theorem dX6_drawn_46 : decode cX6_drawn 46 = .ok (.iload 5, 2) := by decide +kernel
theorem dX6_drawn_48 : decode cX6_drawn 48 = .ok (.iload_n 2, 1) := by decide +kernel
theorem dX6_drawn_49 : decode cX6_drawn 49 = .ok (.if_icmp .ge 65, 3) := by decide +kernel
theorem dX6_drawn_52 : decode cX6_drawn 52 = .ok (.aload_n 0, 1) := by decide +kernel
theorem dX6_drawn_53 : decode cX6_drawn 53 = .ok (.getfield 16, 3) := by decide +kernel
theorem dX6_drawn_56 : decode cX6_drawn 56 = .ok (.getfield 151, 3) := by decide +kernel
theorem dX6_drawn_59 : decode cX6_drawn 59 = .ok (.invokestatic 154, 3) := by decide +kernel
theorem dX6_drawn_62 : decode cX6_drawn 62 = .ok (.istore 6, 2) := by decide +kernel
theorem dX6_drawn_64 : decode cX6_drawn 64 = .ok (.iload 6, 2) := by decide +kernel
theorem dX6_drawn_66 : decode cX6_drawn 66 = .ok (.ifCond .le 42, 3) := by decide +kernel
theorem dX6_drawn_69 : decode cX6_drawn 69 = .ok (.lload_n 3, 1) := by decide +kernel
theorem dX6_drawn_70 : decode cX6_drawn 70 = .ok (.ldc2_w 264, 3) := by decide +kernel
theorem dX6_drawn_73 : decode cX6_drawn 73 = .ok (.lmul, 1) := by decide +kernel
theorem dX6_drawn_74 : decode cX6_drawn 74 = .ok (.ldc2_w 266, 3) := by decide +kernel
theorem dX6_drawn_77 : decode cX6_drawn 77 = .ok (.ladd, 1) := by decide +kernel
theorem dX6_drawn_78 : decode cX6_drawn 78 = .ok (.ldc2_w 268, 3) := by decide +kernel
theorem dX6_drawn_81 : decode cX6_drawn 81 = .ok (.lrem, 1) := by decide +kernel
theorem dX6_drawn_82 : decode cX6_drawn 82 = .ok (.lstore_n 3, 1) := by decide +kernel
theorem dX6_drawn_83 : decode cX6_drawn 83 = .ok (.aload_n 0, 1) := by decide +kernel
theorem dX6_drawn_84 : decode cX6_drawn 84 = .ok (.getfield 16, 3) := by decide +kernel
theorem dX6_drawn_87 : decode cX6_drawn 87 = .ok (.aload_n 0, 1) := by decide +kernel
theorem dX6_drawn_88 : decode cX6_drawn 88 = .ok (.getfield 16, 3) := by decide +kernel
theorem dX6_drawn_91 : decode cX6_drawn 91 = .ok (.lload_n 3, 1) := by decide +kernel
theorem dX6_drawn_92 : decode cX6_drawn 92 = .ok (.ldc2_w 270, 3) := by decide +kernel
theorem dX6_drawn_95 : decode cX6_drawn 95 = .ok (.ldiv, 1) := by decide +kernel
theorem dX6_drawn_96 : decode cX6_drawn 96 = .ok (.iload 6, 2) := by decide +kernel
theorem dX6_drawn_98 : decode cX6_drawn 98 = .ok (.i2l, 1) := by decide +kernel
theorem dX6_drawn_99 : decode cX6_drawn 99 = .ok (.lrem, 1) := by decide +kernel
theorem dX6_drawn_100 : decode cX6_drawn 100 = .ok (.l2i, 1) := by decide +kernel
theorem dX6_drawn_101 : decode cX6_drawn 101 = .ok (.invokevirtual 272, 3) := by decide +kernel
theorem dX6_drawn_104 : decode cX6_drawn 104 = .ok (.invokevirtual 145, 3) := by decide +kernel
theorem dX6_drawn_107 : decode cX6_drawn 107 = .ok (.pop, 1) := by decide +kernel
theorem dX6_drawn_108 : decode cX6_drawn 108 = .ok (.iinc 5 1, 3) := by decide +kernel
theorem dX6_drawn_111 : decode cX6_drawn 111 = .ok (.goto (-65), 3) := by decide +kernel
theorem dX6_drawn_114 : decode cX6_drawn 114 = .ok (.aload_n 0, 1) := by decide +kernel
theorem dX6_drawn_115 : decode cX6_drawn 115 = .ok (.getfield 16, 3) := by decide +kernel
theorem dX6_drawn_118 : decode cX6_drawn 118 = .ok (.iconst (-1), 1) := by decide +kernel
theorem dX6_drawn_119 : decode cX6_drawn 119 = .ok (.invokevirtual 275, 3) := by decide +kernel
theorem dX6_drawn_122 : decode cX6_drawn 122 = .ok (.ireturn, 1) := by decide +kernel
theorem dX6_part_0 : decode cX6_part 0 = .ok (.iload_n 1, 1) := by decide +kernel
theorem dX6_part_1 : decode cX6_part 1 = .ok (.ifCond .lt 8, 3) := by decide +kernel
theorem dX6_part_4 : decode cX6_part 4 = .ok (.iload_n 1, 1) := by decide +kernel
theorem dX6_part_5 : decode cX6_part 5 = .ok (.iconst 1, 1) := by decide +kernel
theorem dX6_part_6 : decode cX6_part 6 = .ok (.if_icmp .le 13, 3) := by decide +kernel
theorem dX6_part_9 : decode cX6_part 9 = .ok (.aload_n 0, 1) := by decide +kernel
theorem dX6_part_10 : decode cX6_part 10 = .ok (.bipush (-2), 2) := by decide +kernel
theorem dX6_part_12 : decode cX6_part 12 = .ok (.bipush (-2), 2) := by decide +kernel
theorem dX6_part_14 : decode cX6_part 14 = .ok (.invokevirtual 110, 3) := by decide +kernel
theorem dX6_part_17 : decode cX6_part 17 = .ok (.i2l, 1) := by decide +kernel
theorem dX6_part_18 : decode cX6_part 18 = .ok (.lreturn, 1) := by decide +kernel
theorem dX6_part_19 : decode cX6_part 19 = .ok (.iload_n 1, 1) := by decide +kernel
theorem dX6_part_20 : decode cX6_part 20 = .ok (.ifCond .ne 10, 3) := by decide +kernel
theorem dX6_part_23 : decode cX6_part 23 = .ok (.aload_n 0, 1) := by decide +kernel
theorem dX6_part_24 : decode cX6_part 24 = .ok (.getfield 57, 3) := by decide +kernel
theorem dX6_part_27 : decode cX6_part 27 = .ok (.goto 7, 3) := by decide +kernel
theorem dX6_part_30 : decode cX6_part 30 = .ok (.aload_n 0, 1) := by decide +kernel
theorem dX6_part_31 : decode cX6_part 31 = .ok (.getfield 61, 3) := by decide +kernel
theorem dX6_part_34 : decode cX6_part 34 = .ok (.lreturn, 1) := by decide +kernel
theorem dX6_image_0 : decode cX6_image 0 = .ok (.iload_n 1, 1) := by decide +kernel
theorem dX6_image_1 : decode cX6_image 1 = .ok (.ifCond .lt 8, 3) := by decide +kernel
theorem dX6_image_4 : decode cX6_image 4 = .ok (.iload_n 1, 1) := by decide +kernel
theorem dX6_image_5 : decode cX6_image 5 = .ok (.iconst 1, 1) := by decide +kernel
theorem dX6_image_6 : decode cX6_image 6 = .ok (.if_icmp .le 12, 3) := by decide +kernel
theorem dX6_image_9 : decode cX6_image 9 = .ok (.aload_n 0, 1) := by decide +kernel
theorem dX6_image_10 : decode cX6_image 10 = .ok (.bipush (-2), 2) := by decide +kernel
theorem dX6_image_12 : decode cX6_image 12 = .ok (.bipush (-2), 2) := by decide +kernel
theorem dX6_image_14 : decode cX6_image 14 = .ok (.invokevirtual 110, 3) := by decide +kernel
theorem dX6_image_17 : decode cX6_image 17 = .ok (.ireturn, 1) := by decide +kernel
theorem dX6_image_18 : decode cX6_image 18 = .ok (.aload_n 0, 1) := by decide +kernel
theorem dX6_image_19 : decode cX6_image 19 = .ok (.iload_n 1, 1) := by decide +kernel
theorem dX6_image_20 : decode cX6_image 20 = .ok (.invokevirtual 278, 3) := by decide +kernel
theorem dX6_image_23 : decode cX6_image 23 = .ok (.aload_n 0, 1) := by decide +kernel
theorem dX6_image_24 : decode cX6_image 24 = .ok (.getfield 10, 3) := by decide +kernel
theorem dX6_image_27 : decode cX6_image 27 = .ok (.aload_n 0, 1) := by decide +kernel
theorem dX6_image_28 : decode cX6_image 28 = .ok (.getfield 22, 3) := by decide +kernel
theorem dX6_image_31 : decode cX6_image 31 = .ok (.invokevirtual 282, 3) := by decide +kernel
theorem dX6_image_34 : decode cX6_image 34 = .ok (.iconst 1, 1) := by decide +kernel
theorem dX6_image_35 : decode cX6_image 35 = .ok (.ireturn, 1) := by decide +kernel
theorem dX6_from_0 : decode cX6_from 0 = .ok (.iload_n 1, 1) := by decide +kernel
theorem dX6_from_1 : decode cX6_from 1 = .ok (.ifCond .lt 8, 3) := by decide +kernel
theorem dX6_from_4 : decode cX6_from 4 = .ok (.iload_n 1, 1) := by decide +kernel
theorem dX6_from_5 : decode cX6_from 5 = .ok (.iconst 1, 1) := by decide +kernel
theorem dX6_from_6 : decode cX6_from 6 = .ok (.if_icmp .le 12, 3) := by decide +kernel
theorem dX6_from_9 : decode cX6_from 9 = .ok (.aload_n 0, 1) := by decide +kernel
theorem dX6_from_10 : decode cX6_from 10 = .ok (.bipush (-2), 2) := by decide +kernel
theorem dX6_from_12 : decode cX6_from 12 = .ok (.bipush (-2), 2) := by decide +kernel
theorem dX6_from_14 : decode cX6_from 14 = .ok (.invokevirtual 110, 3) := by decide +kernel
theorem dX6_from_17 : decode cX6_from 17 = .ok (.ireturn, 1) := by decide +kernel
theorem dX6_from_18 : decode cX6_from 18 = .ok (.aload_n 0, 1) := by decide +kernel
theorem dX6_from_19 : decode cX6_from 19 = .ok (.iload_n 1, 1) := by decide +kernel
theorem dX6_from_20 : decode cX6_from 20 = .ok (.invokevirtual 278, 3) := by decide +kernel
theorem dX6_from_23 : decode cX6_from 23 = .ok (.getfield 285, 3) := by decide +kernel
theorem dX6_from_26 : decode cX6_from 26 = .ok (.ifCond .ne 12, 3) := by decide +kernel
theorem dX6_from_29 : decode cX6_from 29 = .ok (.aload_n 0, 1) := by decide +kernel
theorem dX6_from_30 : decode cX6_from 30 = .ok (.bipush (-3), 2) := by decide +kernel
theorem dX6_from_32 : decode cX6_from 32 = .ok (.bipush (-3), 2) := by decide +kernel
theorem dX6_from_34 : decode cX6_from 34 = .ok (.invokevirtual 110, 3) := by decide +kernel
theorem dX6_from_37 : decode cX6_from 37 = .ok (.ireturn, 1) := by decide +kernel
theorem dX6_from_38 : decode cX6_from 38 = .ok (.aload_n 0, 1) := by decide +kernel
theorem dX6_from_39 : decode cX6_from 39 = .ok (.iload_n 1, 1) := by decide +kernel
theorem dX6_from_40 : decode cX6_from 40 = .ok (.invokevirtual 278, 3) := by decide +kernel
theorem dX6_from_43 : decode cX6_from 43 = .ok (.aload_n 0, 1) := by decide +kernel
theorem dX6_from_44 : decode cX6_from 44 = .ok (.getfield 10, 3) := by decide +kernel
theorem dX6_from_47 : decode cX6_from 47 = .ok (.aload_n 0, 1) := by decide +kernel
theorem dX6_from_48 : decode cX6_from 48 = .ok (.getfield 22, 3) := by decide +kernel
theorem dX6_from_51 : decode cX6_from 51 = .ok (.invokevirtual 289, 3) := by decide +kernel
theorem dX6_from_54 : decode cX6_from 54 = .ok (.iconst 1, 1) := by decide +kernel
theorem dX6_from_55 : decode cX6_from 55 = .ok (.ireturn, 1) := by decide +kernel
theorem dX6_status_0 : decode cX6_status 0 = .ok (.iload_n 1, 1) := by decide +kernel
theorem dX6_status_1 : decode cX6_status 1 = .ok (.tableswitch 42 0 2 #[27, 32, 37], 27) := by decide +kernel
theorem dX6_status_28 : decode cX6_status 28 = .ok (.aload_n 0, 1) := by decide +kernel
theorem dX6_status_29 : decode cX6_status 29 = .ok (.getfield 64, 3) := by decide +kernel
theorem dX6_status_32 : decode cX6_status 32 = .ok (.ireturn, 1) := by decide +kernel
theorem dX6_status_33 : decode cX6_status 33 = .ok (.aload_n 0, 1) := by decide +kernel
theorem dX6_status_34 : decode cX6_status 34 = .ok (.getfield 68, 3) := by decide +kernel
theorem dX6_status_37 : decode cX6_status 37 = .ok (.ireturn, 1) := by decide +kernel
theorem dX6_status_38 : decode cX6_status 38 = .ok (.aload_n 0, 1) := by decide +kernel
theorem dX6_status_39 : decode cX6_status 39 = .ok (.getfield 71, 3) := by decide +kernel
theorem dX6_status_42 : decode cX6_status 42 = .ok (.ireturn, 1) := by decide +kernel
theorem dX6_status_43 : decode cX6_status 43 = .ok (.aload_n 0, 1) := by decide +kernel
theorem dX6_status_44 : decode cX6_status 44 = .ok (.bipush (-2), 2) := by decide +kernel
theorem dX6_status_46 : decode cX6_status 46 = .ok (.iconst (-1), 1) := by decide +kernel
theorem dX6_status_47 : decode cX6_status 47 = .ok (.invokevirtual 110, 3) := by decide +kernel
theorem dX6_status_50 : decode cX6_status 50 = .ok (.ireturn, 1) := by decide +kernel
theorem dX6_count_0 : decode cX6_count 0 = .ok (.iload_n 1, 1) := by decide +kernel
theorem dX6_count_1 : decode cX6_count 1 = .ok (.ifCond .lt 9, 3) := by decide +kernel
theorem dX6_count_4 : decode cX6_count 4 = .ok (.iload_n 1, 1) := by decide +kernel
theorem dX6_count_5 : decode cX6_count 5 = .ok (.bipush 8, 2) := by decide +kernel
theorem dX6_count_7 : decode cX6_count 7 = .ok (.if_icmp .le 12, 3) := by decide +kernel
theorem dX6_count_10 : decode cX6_count 10 = .ok (.aload_n 0, 1) := by decide +kernel
theorem dX6_count_11 : decode cX6_count 11 = .ok (.bipush (-2), 2) := by decide +kernel
theorem dX6_count_13 : decode cX6_count 13 = .ok (.bipush (-2), 2) := by decide +kernel
theorem dX6_count_15 : decode cX6_count 15 = .ok (.invokevirtual 110, 3) := by decide +kernel
theorem dX6_count_18 : decode cX6_count 18 = .ok (.ireturn, 1) := by decide +kernel
theorem dX6_count_19 : decode cX6_count 19 = .ok (.aload_n 0, 1) := by decide +kernel
theorem dX6_count_20 : decode cX6_count 20 = .ok (.iload_n 1, 1) := by decide +kernel
theorem dX6_count_21 : decode cX6_count 21 = .ok (.invokevirtual 292, 3) := by decide +kernel
theorem dX6_count_24 : decode cX6_count 24 = .ok (.ireturn, 1) := by decide +kernel
theorem dX6_digest_0 : decode cX6_digest 0 = .ok (.ldc2_w 295, 3) := by decide +kernel
theorem dX6_digest_3 : decode cX6_digest 3 = .ok (.lstore_n 1, 1) := by decide +kernel
theorem dX6_digest_4 : decode cX6_digest 4 = .ok (.iconst 0, 1) := by decide +kernel
theorem dX6_digest_5 : decode cX6_digest 5 = .ok (.istore_n 3, 1) := by decide +kernel
theorem dX6_digest_6 : decode cX6_digest 6 = .ok (.iload_n 3, 1) := by decide +kernel
theorem dX6_digest_7 : decode cX6_digest 7 = .ok (.bipush 8, 2) := by decide +kernel
theorem dX6_digest_9 : decode cX6_digest 9 = .ok (.if_icmp .gt 22, 3) := by decide +kernel
theorem dX6_digest_12 : decode cX6_digest 12 = .ok (.ldc2_w 297, 3) := by decide +kernel
theorem dX6_digest_15 : decode cX6_digest 15 = .ok (.lload_n 1, 1) := by decide +kernel
theorem dX6_digest_16 : decode cX6_digest 16 = .ok (.lmul, 1) := by decide +kernel
theorem dX6_digest_17 : decode cX6_digest 17 = .ok (.aload_n 0, 1) := by decide +kernel
theorem dX6_digest_18 : decode cX6_digest 18 = .ok (.iload_n 3, 1) := by decide +kernel
theorem dX6_digest_19 : decode cX6_digest 19 = .ok (.invokevirtual 292, 3) := by decide +kernel
theorem dX6_digest_22 : decode cX6_digest 22 = .ok (.i2l, 1) := by decide +kernel
theorem dX6_digest_23 : decode cX6_digest 23 = .ok (.ladd, 1) := by decide +kernel
theorem dX6_digest_24 : decode cX6_digest 24 = .ok (.lstore_n 1, 1) := by decide +kernel
theorem dX6_digest_25 : decode cX6_digest 25 = .ok (.iinc 3 1, 3) := by decide +kernel
theorem dX6_digest_28 : decode cX6_digest 28 = .ok (.goto (-22), 3) := by decide +kernel
theorem dX6_digest_31 : decode cX6_digest 31 = .ok (.aload_n 0, 1) := by decide +kernel
theorem dX6_digest_32 : decode cX6_digest 32 = .ok (.getfield 10, 3) := by decide +kernel
theorem dX6_digest_35 : decode cX6_digest 35 = .ok (.lload_n 1, 1) := by decide +kernel
theorem dX6_digest_36 : decode cX6_digest 36 = .ok (.invokevirtual 299, 3) := by decide +kernel
theorem dX6_digest_39 : decode cX6_digest 39 = .ok (.lstore_n 1, 1) := by decide +kernel
theorem dX6_digest_40 : decode cX6_digest 40 = .ok (.ldc2_w 297, 3) := by decide +kernel
theorem dX6_digest_43 : decode cX6_digest 43 = .ok (.lload_n 1, 1) := by decide +kernel
theorem dX6_digest_44 : decode cX6_digest 44 = .ok (.lmul, 1) := by decide +kernel
theorem dX6_digest_45 : decode cX6_digest 45 = .ok (.aload_n 0, 1) := by decide +kernel
theorem dX6_digest_46 : decode cX6_digest 46 = .ok (.getfield 57, 3) := by decide +kernel
theorem dX6_digest_49 : decode cX6_digest 49 = .ok (.ladd, 1) := by decide +kernel
theorem dX6_digest_50 : decode cX6_digest 50 = .ok (.lstore_n 1, 1) := by decide +kernel
theorem dX6_digest_51 : decode cX6_digest 51 = .ok (.ldc2_w 297, 3) := by decide +kernel
theorem dX6_digest_54 : decode cX6_digest 54 = .ok (.lload_n 1, 1) := by decide +kernel
theorem dX6_digest_55 : decode cX6_digest 55 = .ok (.lmul, 1) := by decide +kernel
theorem dX6_digest_56 : decode cX6_digest 56 = .ok (.aload_n 0, 1) := by decide +kernel
theorem dX6_digest_57 : decode cX6_digest 57 = .ok (.getfield 61, 3) := by decide +kernel
theorem dX6_digest_60 : decode cX6_digest 60 = .ok (.ladd, 1) := by decide +kernel
theorem dX6_digest_61 : decode cX6_digest 61 = .ok (.lreturn, 1) := by decide +kernel
theorem dX6_told_0 : decode cX6_told 0 = .ok (.iload_n 1, 1) := by decide +kernel
theorem dX6_told_1 : decode cX6_told 1 = .ok (.bipush (-2), 2) := by decide +kernel
theorem dX6_told_3 : decode cX6_told 3 = .ok (.if_icmp .ne 11, 3) := by decide +kernel
theorem dX6_told_6 : decode cX6_told 6 = .ok (.aload_n 0, 1) := by decide +kernel
theorem dX6_told_7 : decode cX6_told 7 = .ok (.bipush (-2), 2) := by decide +kernel
theorem dX6_told_9 : decode cX6_told 9 = .ok (.iload_n 2, 1) := by decide +kernel
theorem dX6_told_10 : decode cX6_told 10 = .ok (.invokevirtual 110, 3) := by decide +kernel
theorem dX6_told_13 : decode cX6_told 13 = .ok (.ireturn, 1) := by decide +kernel
theorem dX6_told_14 : decode cX6_told 14 = .ok (.iload_n 1, 1) := by decide +kernel
theorem dX6_told_15 : decode cX6_told 15 = .ok (.iconst (-1), 1) := by decide +kernel
theorem dX6_told_16 : decode cX6_told 16 = .ok (.if_icmp .ge 10, 3) := by decide +kernel
theorem dX6_told_19 : decode cX6_told 19 = .ok (.aload_n 0, 1) := by decide +kernel
theorem dX6_told_20 : decode cX6_told 20 = .ok (.iload_n 1, 1) := by decide +kernel
theorem dX6_told_21 : decode cX6_told 21 = .ok (.iload_n 1, 1) := by decide +kernel
theorem dX6_told_22 : decode cX6_told 22 = .ok (.invokevirtual 110, 3) := by decide +kernel
theorem dX6_told_25 : decode cX6_told 25 = .ok (.ireturn, 1) := by decide +kernel
theorem dX6_told_26 : decode cX6_told 26 = .ok (.aload_n 0, 1) := by decide +kernel
theorem dX6_told_27 : decode cX6_told 27 = .ok (.getfield 22, 3) := by decide +kernel
theorem dX6_told_30 : decode cX6_told 30 = .ok (.invokevirtual 80, 3) := by decide +kernel
theorem dX6_told_33 : decode cX6_told 33 = .ok (.iload_n 1, 1) := by decide +kernel
theorem dX6_told_34 : decode cX6_told 34 = .ok (.ireturn, 1) := by decide +kernel
theorem dX6_refused_0 : decode cX6_refused 0 = .ok (.iload_n 1, 1) := by decide +kernel
theorem dX6_refused_1 : decode cX6_refused 1 = .ok (.bipush (-2), 2) := by decide +kernel
theorem dX6_refused_3 : decode cX6_refused 3 = .ok (.if_icmp .ne 16, 3) := by decide +kernel
theorem dX6_refused_6 : decode cX6_refused 6 = .ok (.aload_n 0, 1) := by decide +kernel
theorem dX6_refused_7 : decode cX6_refused 7 = .ok (.dup, 1) := by decide +kernel
theorem dX6_refused_8 : decode cX6_refused 8 = .ok (.getfield 64, 3) := by decide +kernel
theorem dX6_refused_11 : decode cX6_refused 11 = .ok (.iconst 1, 1) := by decide +kernel
theorem dX6_refused_12 : decode cX6_refused 12 = .ok (.iadd, 1) := by decide +kernel
theorem dX6_refused_13 : decode cX6_refused 13 = .ok (.putfield 64, 3) := by decide +kernel
theorem dX6_refused_16 : decode cX6_refused 16 = .ok (.goto 38, 3) := by decide +kernel
theorem dX6_refused_19 : decode cX6_refused 19 = .ok (.iload_n 1, 1) := by decide +kernel
theorem dX6_refused_20 : decode cX6_refused 20 = .ok (.bipush (-3), 2) := by decide +kernel
theorem dX6_refused_22 : decode cX6_refused 22 = .ok (.if_icmp .ne 16, 3) := by decide +kernel
theorem dX6_refused_25 : decode cX6_refused 25 = .ok (.aload_n 0, 1) := by decide +kernel
theorem dX6_refused_26 : decode cX6_refused 26 = .ok (.dup, 1) := by decide +kernel
theorem dX6_refused_27 : decode cX6_refused 27 = .ok (.getfield 68, 3) := by decide +kernel
theorem dX6_refused_30 : decode cX6_refused 30 = .ok (.iconst 1, 1) := by decide +kernel
theorem dX6_refused_31 : decode cX6_refused 31 = .ok (.iadd, 1) := by decide +kernel
theorem dX6_refused_32 : decode cX6_refused 32 = .ok (.putfield 68, 3) := by decide +kernel
theorem dX6_refused_35 : decode cX6_refused 35 = .ok (.goto 19, 3) := by decide +kernel
theorem dX6_refused_38 : decode cX6_refused 38 = .ok (.iload_n 1, 1) := by decide +kernel
theorem dX6_refused_39 : decode cX6_refused 39 = .ok (.bipush (-4), 2) := by decide +kernel
theorem dX6_refused_41 : decode cX6_refused 41 = .ok (.if_icmp .ne 13, 3) := by decide +kernel
theorem dX6_refused_44 : decode cX6_refused 44 = .ok (.aload_n 0, 1) := by decide +kernel
theorem dX6_refused_45 : decode cX6_refused 45 = .ok (.dup, 1) := by decide +kernel
theorem dX6_refused_46 : decode cX6_refused 46 = .ok (.getfield 71, 3) := by decide +kernel
theorem dX6_refused_49 : decode cX6_refused 49 = .ok (.iconst 1, 1) := by decide +kernel
theorem dX6_refused_50 : decode cX6_refused 50 = .ok (.iadd, 1) := by decide +kernel
theorem dX6_refused_51 : decode cX6_refused 51 = .ok (.putfield 71, 3) := by decide +kernel
theorem dX6_refused_54 : decode cX6_refused 54 = .ok (.iload_n 2, 1) := by decide +kernel
theorem dX6_refused_55 : decode cX6_refused 55 = .ok (.ireturn, 1) := by decide +kernel
theorem dX6_imageAt_0 : decode cX6_imageAt 0 = .ok (.iload_n 1, 1) := by decide +kernel
theorem dX6_imageAt_1 : decode cX6_imageAt 1 = .ok (.ifCond .ne 10, 3) := by decide +kernel
theorem dX6_imageAt_4 : decode cX6_imageAt 4 = .ok (.aload_n 0, 1) := by decide +kernel
theorem dX6_imageAt_5 : decode cX6_imageAt 5 = .ok (.getfield 29, 3) := by decide +kernel
theorem dX6_imageAt_8 : decode cX6_imageAt 8 = .ok (.goto 7, 3) := by decide +kernel
theorem dX6_imageAt_11 : decode cX6_imageAt 11 = .ok (.aload_n 0, 1) := by decide +kernel
theorem dX6_imageAt_12 : decode cX6_imageAt 12 = .ok (.getfield 33, 3) := by decide +kernel
theorem dX6_imageAt_15 : decode cX6_imageAt 15 = .ok (.areturn, 1) := by decide +kernel
theorem dX6_amount_0 : decode cX6_amount 0 = .ok (.iload_n 1, 1) := by decide +kernel
theorem dX6_amount_1 : decode cX6_amount 1 = .ok (.tableswitch 127 0 8 #[51, 59, 70, 78, 87, 95, 103, 111, 119], 51) := by decide +kernel
theorem dX6_amount_52 : decode cX6_amount 52 = .ok (.aload_n 0, 1) := by decide +kernel
theorem dX6_amount_53 : decode cX6_amount 53 = .ok (.getfield 10, 3) := by decide +kernel
theorem dX6_amount_56 : decode cX6_amount 56 = .ok (.getfield 74, 3) := by decide +kernel
theorem dX6_amount_59 : decode cX6_amount 59 = .ok (.ireturn, 1) := by decide +kernel
theorem dX6_amount_60 : decode cX6_amount 60 = .ok (.aload_n 0, 1) := by decide +kernel
theorem dX6_amount_61 : decode cX6_amount 61 = .ok (.getfield 10, 3) := by decide +kernel
theorem dX6_amount_64 : decode cX6_amount 64 = .ok (.getfield 151, 3) := by decide +kernel
theorem dX6_amount_67 : decode cX6_amount 67 = .ok (.invokestatic 154, 3) := by decide +kernel
theorem dX6_amount_70 : decode cX6_amount 70 = .ok (.ireturn, 1) := by decide +kernel
theorem dX6_amount_71 : decode cX6_amount 71 = .ok (.aload_n 0, 1) := by decide +kernel
theorem dX6_amount_72 : decode cX6_amount 72 = .ok (.getfield 10, 3) := by decide +kernel
theorem dX6_amount_75 : decode cX6_amount 75 = .ok (.getfield 241, 3) := by decide +kernel
theorem dX6_amount_78 : decode cX6_amount 78 = .ok (.ireturn, 1) := by decide +kernel
theorem dX6_amount_79 : decode cX6_amount 79 = .ok (.aload_n 0, 1) := by decide +kernel
theorem dX6_amount_80 : decode cX6_amount 80 = .ok (.getfield 10, 3) := by decide +kernel
theorem dX6_amount_83 : decode cX6_amount 83 = .ok (.iconst (-1), 1) := by decide +kernel
theorem dX6_amount_84 : decode cX6_amount 84 = .ok (.invokevirtual 275, 3) := by decide +kernel
theorem dX6_amount_87 : decode cX6_amount 87 = .ok (.ireturn, 1) := by decide +kernel
theorem dX6_amount_88 : decode cX6_amount 88 = .ok (.aload_n 0, 1) := by decide +kernel
theorem dX6_amount_89 : decode cX6_amount 89 = .ok (.getfield 10, 3) := by decide +kernel
theorem dX6_amount_92 : decode cX6_amount 92 = .ok (.invokevirtual 303, 3) := by decide +kernel
theorem dX6_amount_95 : decode cX6_amount 95 = .ok (.ireturn, 1) := by decide +kernel
theorem dX6_amount_96 : decode cX6_amount 96 = .ok (.aload_n 0, 1) := by decide +kernel
theorem dX6_amount_97 : decode cX6_amount 97 = .ok (.getfield 10, 3) := by decide +kernel
theorem dX6_amount_100 : decode cX6_amount 100 = .ok (.invokevirtual 306, 3) := by decide +kernel
theorem dX6_amount_103 : decode cX6_amount 103 = .ok (.ireturn, 1) := by decide +kernel
theorem dX6_amount_104 : decode cX6_amount 104 = .ok (.aload_n 0, 1) := by decide +kernel
theorem dX6_amount_105 : decode cX6_amount 105 = .ok (.getfield 10, 3) := by decide +kernel
theorem dX6_amount_108 : decode cX6_amount 108 = .ok (.getfield 309, 3) := by decide +kernel
theorem dX6_amount_111 : decode cX6_amount 111 = .ok (.ireturn, 1) := by decide +kernel
theorem dX6_amount_112 : decode cX6_amount 112 = .ok (.aload_n 0, 1) := by decide +kernel
theorem dX6_amount_113 : decode cX6_amount 113 = .ok (.getfield 22, 3) := by decide +kernel
theorem dX6_amount_116 : decode cX6_amount 116 = .ok (.getfield 166, 3) := by decide +kernel
theorem dX6_amount_119 : decode cX6_amount 119 = .ok (.ireturn, 1) := by decide +kernel
theorem dX6_amount_120 : decode cX6_amount 120 = .ok (.aload_n 0, 1) := by decide +kernel
theorem dX6_amount_121 : decode cX6_amount 121 = .ok (.getfield 39, 3) := by decide +kernel
theorem dX6_amount_124 : decode cX6_amount 124 = .ok (.getfield 113, 3) := by decide +kernel
theorem dX6_amount_127 : decode cX6_amount 127 = .ok (.ireturn, 1) := by decide +kernel
theorem dX6_amount_128 : decode cX6_amount 128 = .ok (.iconst 0, 1) := by decide +kernel
theorem dX6_amount_129 : decode cX6_amount 129 = .ok (.ireturn, 1) := by decide +kernel
theorem dX6_lookAhead_0 : decode cX6_lookAhead 0 = .ok (.aload_n 0, 1) := by decide +kernel
theorem dX6_lookAhead_1 : decode cX6_lookAhead 1 = .ok (.getfield 16, 3) := by decide +kernel
theorem dX6_lookAhead_4 : decode cX6_lookAhead 4 = .ok (.aload_n 0, 1) := by decide +kernel
theorem dX6_lookAhead_5 : decode cX6_lookAhead 5 = .ok (.getfield 10, 3) := by decide +kernel
theorem dX6_lookAhead_8 : decode cX6_lookAhead 8 = .ok (.invokevirtual 128, 3) := by decide +kernel
theorem dX6_lookAhead_11 : decode cX6_lookAhead 11 = .ok (.iconst 0, 1) := by decide +kernel
theorem dX6_lookAhead_12 : decode cX6_lookAhead 12 = .ok (.istore_n 2, 1) := by decide +kernel
theorem dX6_lookAhead_13 : decode cX6_lookAhead 13 = .ok (.iload_n 2, 1) := by decide +kernel
theorem dX6_lookAhead_14 : decode cX6_lookAhead 14 = .ok (.iload_n 1, 1) := by decide +kernel
theorem dX6_lookAhead_15 : decode cX6_lookAhead 15 = .ok (.if_icmp .ge 16, 3) := by decide +kernel
theorem dX6_lookAhead_18 : decode cX6_lookAhead 18 = .ok (.aload_n 0, 1) := by decide +kernel
theorem dX6_lookAhead_19 : decode cX6_lookAhead 19 = .ok (.getfield 16, 3) := by decide +kernel
theorem dX6_lookAhead_22 : decode cX6_lookAhead 22 = .ok (.invokevirtual 148, 3) := by decide +kernel
theorem dX6_lookAhead_25 : decode cX6_lookAhead 25 = .ok (.iinc 2 1, 3) := by decide +kernel
theorem dX6_lookAhead_28 : decode cX6_lookAhead 28 = .ok (.goto (-15), 3) := by decide +kernel
theorem dX6_lookAhead_31 : decode cX6_lookAhead 31 = .ok (.return_, 1) := by decide +kernel
theorem dX6_heirByWall_0 : decode cX6_heirByWall 0 = .ok (.aload_n 0, 1) := by decide +kernel
theorem dX6_heirByWall_1 : decode cX6_heirByWall 1 = .ok (.getfield 16, 3) := by decide +kernel
theorem dX6_heirByWall_4 : decode cX6_heirByWall 4 = .ok (.iload_n 2, 1) := by decide +kernel
theorem dX6_heirByWall_5 : decode cX6_heirByWall 5 = .ok (.iload_n 3, 1) := by decide +kernel
theorem dX6_heirByWall_6 : decode cX6_heirByWall 6 = .ok (.iconst 1, 1) := by decide +kernel
theorem dX6_heirByWall_7 : decode cX6_heirByWall 7 = .ok (.invokevirtual 97, 3) := by decide +kernel
theorem dX6_heirByWall_10 : decode cX6_heirByWall 10 = .ok (.pop, 1) := by decide +kernel
theorem dX6_heirByWall_11 : decode cX6_heirByWall 11 = .ok (.aload_n 0, 1) := by decide +kernel
theorem dX6_heirByWall_12 : decode cX6_heirByWall 12 = .ok (.getfield 16, 3) := by decide +kernel
theorem dX6_heirByWall_15 : decode cX6_heirByWall 15 = .ok (.iload_n 1, 1) := by decide +kernel
theorem dX6_heirByWall_16 : decode cX6_heirByWall 16 = .ok (.invokevirtual 206, 3) := by decide +kernel
theorem dX6_heirByWall_19 : decode cX6_heirByWall 19 = .ok (.istore 4, 2) := by decide +kernel
theorem dX6_heirByWall_21 : decode cX6_heirByWall 21 = .ok (.aload_n 0, 1) := by decide +kernel
theorem dX6_heirByWall_22 : decode cX6_heirByWall 22 = .ok (.getfield 16, 3) := by decide +kernel
theorem dX6_heirByWall_25 : decode cX6_heirByWall 25 = .ok (.iload_n 2, 1) := by decide +kernel
theorem dX6_heirByWall_26 : decode cX6_heirByWall 26 = .ok (.iload_n 3, 1) := by decide +kernel
theorem dX6_heirByWall_27 : decode cX6_heirByWall 27 = .ok (.iconst 0, 1) := by decide +kernel
theorem dX6_heirByWall_28 : decode cX6_heirByWall 28 = .ok (.invokevirtual 97, 3) := by decide +kernel
theorem dX6_heirByWall_31 : decode cX6_heirByWall 31 = .ok (.pop, 1) := by decide +kernel
theorem dX6_heirByWall_32 : decode cX6_heirByWall 32 = .ok (.iload 4, 2) := by decide +kernel
theorem dX6_heirByWall_34 : decode cX6_heirByWall 34 = .ok (.ireturn, 1) := by decide +kernel
theorem dX6_rests_0 : decode cX6_rests 0 = .ok (.iload 4, 2) := by decide +kernel
theorem dX6_rests_2 : decode cX6_rests 2 = .ok (.iload_n 1, 1) := by decide +kernel
theorem dX6_rests_3 : decode cX6_rests 3 = .ok (.ishl, 1) := by decide +kernel
theorem dX6_rests_4 : decode cX6_rests 4 = .ok (.iload 5, 2) := by decide +kernel
theorem dX6_rests_6 : decode cX6_rests 6 = .ok (.iload_n 2, 1) := by decide +kernel
theorem dX6_rests_7 : decode cX6_rests 7 = .ok (.ishl, 1) := by decide +kernel
theorem dX6_rests_8 : decode cX6_rests 8 = .ok (.ior, 1) := by decide +kernel
theorem dX6_rests_9 : decode cX6_rests 9 = .ok (.istore 6, 2) := by decide +kernel
theorem dX6_rests_11 : decode cX6_rests 11 = .ok (.iload 6, 2) := by decide +kernel
theorem dX6_rests_13 : decode cX6_rests 13 = .ok (.iconst 1, 1) := by decide +kernel
theorem dX6_rests_14 : decode cX6_rests 14 = .ok (.iload_n 1, 1) := by decide +kernel
theorem dX6_rests_15 : decode cX6_rests 15 = .ok (.ishl, 1) := by decide +kernel
theorem dX6_rests_16 : decode cX6_rests 16 = .ok (.ixor, 1) := by decide +kernel
theorem dX6_rests_17 : decode cX6_rests 17 = .ok (.istore 7, 2) := by decide +kernel
theorem dX6_rests_19 : decode cX6_rests 19 = .ok (.iload 6, 2) := by decide +kernel
theorem dX6_rests_21 : decode cX6_rests 21 = .ok (.iconst 1, 1) := by decide +kernel
theorem dX6_rests_22 : decode cX6_rests 22 = .ok (.iload_n 2, 1) := by decide +kernel
theorem dX6_rests_23 : decode cX6_rests 23 = .ok (.ishl, 1) := by decide +kernel
theorem dX6_rests_24 : decode cX6_rests 24 = .ok (.ixor, 1) := by decide +kernel
theorem dX6_rests_25 : decode cX6_rests 25 = .ok (.istore 8, 2) := by decide +kernel
theorem dX6_rests_27 : decode cX6_rests 27 = .ok (.aload_n 0, 1) := by decide +kernel
theorem dX6_rests_28 : decode cX6_rests 28 = .ok (.iload_n 1, 1) := by decide +kernel
theorem dX6_rests_29 : decode cX6_rests 29 = .ok (.iload_n 3, 1) := by decide +kernel
theorem dX6_rests_30 : decode cX6_rests 30 = .ok (.iload 6, 2) := by decide +kernel
theorem dX6_rests_32 : decode cX6_rests 32 = .ok (.invokevirtual 312, 3) := by decide +kernel
theorem dX6_rests_35 : decode cX6_rests 35 = .ok (.aload_n 0, 1) := by decide +kernel
theorem dX6_rests_36 : decode cX6_rests 36 = .ok (.iload_n 1, 1) := by decide +kernel
theorem dX6_rests_37 : decode cX6_rests 37 = .ok (.iload_n 3, 1) := by decide +kernel
theorem dX6_rests_38 : decode cX6_rests 38 = .ok (.iload 7, 2) := by decide +kernel
theorem dX6_rests_40 : decode cX6_rests 40 = .ok (.invokevirtual 312, 3) := by decide +kernel
theorem dX6_rests_43 : decode cX6_rests 43 = .ok (.if_icmp .lt 26, 3) := by decide +kernel
theorem dX6_rests_46 : decode cX6_rests 46 = .ok (.aload_n 0, 1) := by decide +kernel
theorem dX6_rests_47 : decode cX6_rests 47 = .ok (.iload_n 2, 1) := by decide +kernel
theorem dX6_rests_48 : decode cX6_rests 48 = .ok (.iload_n 3, 1) := by decide +kernel
theorem dX6_rests_49 : decode cX6_rests 49 = .ok (.iload 6, 2) := by decide +kernel
theorem dX6_rests_51 : decode cX6_rests 51 = .ok (.invokevirtual 312, 3) := by decide +kernel
theorem dX6_rests_54 : decode cX6_rests 54 = .ok (.aload_n 0, 1) := by decide +kernel
theorem dX6_rests_55 : decode cX6_rests 55 = .ok (.iload_n 2, 1) := by decide +kernel
theorem dX6_rests_56 : decode cX6_rests 56 = .ok (.iload_n 3, 1) := by decide +kernel
theorem dX6_rests_57 : decode cX6_rests 57 = .ok (.iload 8, 2) := by decide +kernel
theorem dX6_rests_59 : decode cX6_rests 59 = .ok (.invokevirtual 312, 3) := by decide +kernel
theorem dX6_rests_62 : decode cX6_rests 62 = .ok (.if_icmp .lt 7, 3) := by decide +kernel
theorem dX6_rests_65 : decode cX6_rests 65 = .ok (.iconst 1, 1) := by decide +kernel
theorem dX6_rests_66 : decode cX6_rests 66 = .ok (.goto 4, 3) := by decide +kernel
theorem dX6_rests_69 : decode cX6_rests 69 = .ok (.iconst 0, 1) := by decide +kernel
theorem dX6_rests_70 : decode cX6_rests 70 = .ok (.ireturn, 1) := by decide +kernel
theorem dX6_gain_0 : decode cX6_gain 0 = .ok (.aload_n 0, 1) := by decide +kernel
theorem dX6_gain_1 : decode cX6_gain 1 = .ok (.getfield 10, 3) := by decide +kernel
theorem dX6_gain_4 : decode cX6_gain 4 = .ok (.aload_n 0, 1) := by decide +kernel
theorem dX6_gain_5 : decode cX6_gain 5 = .ok (.getfield 10, 3) := by decide +kernel
theorem dX6_gain_8 : decode cX6_gain 8 = .ok (.getfield 184, 3) := by decide +kernel
theorem dX6_gain_11 : decode cX6_gain 11 = .ok (.iload_n 2, 1) := by decide +kernel
theorem dX6_gain_12 : decode cX6_gain 12 = .ok (.iaload, 1) := by decide +kernel
theorem dX6_gain_13 : decode cX6_gain 13 = .ok (.iload_n 2, 1) := by decide +kernel
theorem dX6_gain_14 : decode cX6_gain 14 = .ok (.iload_n 3, 1) := by decide +kernel
theorem dX6_gain_15 : decode cX6_gain 15 = .ok (.invokevirtual 209, 3) := by decide +kernel
theorem dX6_gain_18 : decode cX6_gain 18 = .ok (.iload_n 1, 1) := by decide +kernel
theorem dX6_gain_19 : decode cX6_gain 19 = .ok (.if_icmp .ne 7, 3) := by decide +kernel
theorem dX6_gain_22 : decode cX6_gain 22 = .ok (.iconst 1, 1) := by decide +kernel
theorem dX6_gain_23 : decode cX6_gain 23 = .ok (.goto 4, 3) := by decide +kernel
theorem dX6_gain_26 : decode cX6_gain 26 = .ok (.iconst 0, 1) := by decide +kernel
theorem dX6_gain_27 : decode cX6_gain 27 = .ok (.istore 4, 2) := by decide +kernel
theorem dX6_gain_29 : decode cX6_gain 29 = .ok (.iload 4, 2) := by decide +kernel
theorem dX6_gain_31 : decode cX6_gain 31 = .ok (.ifCond .eq 14, 3) := by decide +kernel
theorem dX6_gain_34 : decode cX6_gain 34 = .ok (.aload_n 0, 1) := by decide +kernel
theorem dX6_gain_35 : decode cX6_gain 35 = .ok (.getfield 10, 3) := by decide +kernel
theorem dX6_gain_38 : decode cX6_gain 38 = .ok (.iload_n 2, 1) := by decide +kernel
theorem dX6_gain_39 : decode cX6_gain 39 = .ok (.invokevirtual 275, 3) := by decide +kernel
theorem dX6_gain_42 : decode cX6_gain 42 = .ok (.goto 4, 3) := by decide +kernel
theorem dX6_gain_45 : decode cX6_gain 45 = .ok (.iconst 0, 1) := by decide +kernel
theorem dX6_gain_46 : decode cX6_gain 46 = .ok (.istore 5, 2) := by decide +kernel
theorem dX6_gain_48 : decode cX6_gain 48 = .ok (.iconst 0, 1) := by decide +kernel
theorem dX6_gain_49 : decode cX6_gain 49 = .ok (.aload_n 0, 1) := by decide +kernel
theorem dX6_gain_50 : decode cX6_gain 50 = .ok (.getfield 10, 3) := by decide +kernel
theorem dX6_gain_53 : decode cX6_gain 53 = .ok (.iload_n 1, 1) := by decide +kernel
theorem dX6_gain_54 : decode cX6_gain 54 = .ok (.invokevirtual 275, 3) := by decide +kernel
theorem dX6_gain_57 : decode cX6_gain 57 = .ok (.iload 5, 2) := by decide +kernel
theorem dX6_gain_59 : decode cX6_gain 59 = .ok (.iadd, 1) := by decide +kernel
theorem dX6_gain_60 : decode cX6_gain 60 = .ok (.aload_n 0, 1) := by decide +kernel
theorem dX6_gain_61 : decode cX6_gain 61 = .ok (.getfield 10, 3) := by decide +kernel
theorem dX6_gain_64 : decode cX6_gain 64 = .ok (.getfield 172, 3) := by decide +kernel
theorem dX6_gain_67 : decode cX6_gain 67 = .ok (.iload_n 1, 1) := by decide +kernel
theorem dX6_gain_68 : decode cX6_gain 68 = .ok (.iaload, 1) := by decide +kernel
theorem dX6_gain_69 : decode cX6_gain 69 = .ok (.isub, 1) := by decide +kernel
theorem dX6_gain_70 : decode cX6_gain 70 = .ok (.invokestatic 315, 3) := by decide +kernel
theorem dX6_gain_73 : decode cX6_gain 73 = .ok (.istore 6, 2) := by decide +kernel
theorem dX6_gain_75 : decode cX6_gain 75 = .ok (.iconst 2, 1) := by decide +kernel
theorem dX6_gain_76 : decode cX6_gain 76 = .ok (.iload 5, 2) := by decide +kernel
theorem dX6_gain_78 : decode cX6_gain 78 = .ok (.imul, 1) := by decide +kernel
theorem dX6_gain_79 : decode cX6_gain 79 = .ok (.iload 6, 2) := by decide +kernel
theorem dX6_gain_81 : decode cX6_gain 81 = .ok (.isub, 1) := by decide +kernel
theorem dX6_gain_82 : decode cX6_gain 82 = .ok (.iload_n 3, 1) := by decide +kernel
theorem dX6_gain_83 : decode cX6_gain 83 = .ok (.iload_n 1, 1) := by decide +kernel
theorem dX6_gain_84 : decode cX6_gain 84 = .ok (.ishr, 1) := by decide +kernel
theorem dX6_gain_85 : decode cX6_gain 85 = .ok (.iconst 1, 1) := by decide +kernel
theorem dX6_gain_86 : decode cX6_gain 86 = .ok (.iand, 1) := by decide +kernel
theorem dX6_gain_87 : decode cX6_gain 87 = .ok (.isub, 1) := by decide +kernel
theorem dX6_gain_88 : decode cX6_gain 88 = .ok (.ireturn, 1) := by decide +kernel
theorem dX6_lowerFraction_0 : decode cX6_lowerFraction 0 = .ok (.ldc2_w 320, 3) := by decide +kernel
theorem dX6_lowerFraction_3 : decode cX6_lowerFraction 3 = .ok (.lstore_n 1, 1) := by decide +kernel
theorem dX6_lowerFraction_4 : decode cX6_lowerFraction 4 = .ok (.lload_n 1, 1) := by decide +kernel
theorem dX6_lowerFraction_5 : decode cX6_lowerFraction 5 = .ok (.lconst 1, 1) := by decide +kernel
theorem dX6_lowerFraction_6 : decode cX6_lowerFraction 6 = .ok (.lcmp, 1) := by decide +kernel
theorem dX6_lowerFraction_7 : decode cX6_lowerFraction 7 = .ok (.ifCond .le 52, 3) := by decide +kernel
theorem dX6_lowerFraction_10 : decode cX6_lowerFraction 10 = .ok (.aload_n 0, 1) := by decide +kernel
theorem dX6_lowerFraction_11 : decode cX6_lowerFraction 11 = .ok (.getfield 57, 3) := by decide +kernel
theorem dX6_lowerFraction_14 : decode cX6_lowerFraction 14 = .ok (.lload_n 1, 1) := by decide +kernel
theorem dX6_lowerFraction_15 : decode cX6_lowerFraction 15 = .ok (.lrem, 1) := by decide +kernel
theorem dX6_lowerFraction_16 : decode cX6_lowerFraction 16 = .ok (.lconst 0, 1) := by decide +kernel
theorem dX6_lowerFraction_17 : decode cX6_lowerFraction 17 = .ok (.lcmp, 1) := by decide +kernel
theorem dX6_lowerFraction_18 : decode cX6_lowerFraction 18 = .ok (.ifCond .ne 34, 3) := by decide +kernel
theorem dX6_lowerFraction_21 : decode cX6_lowerFraction 21 = .ok (.aload_n 0, 1) := by decide +kernel
theorem dX6_lowerFraction_22 : decode cX6_lowerFraction 22 = .ok (.getfield 61, 3) := by decide +kernel
theorem dX6_lowerFraction_25 : decode cX6_lowerFraction 25 = .ok (.lload_n 1, 1) := by decide +kernel
theorem dX6_lowerFraction_26 : decode cX6_lowerFraction 26 = .ok (.lrem, 1) := by decide +kernel
theorem dX6_lowerFraction_27 : decode cX6_lowerFraction 27 = .ok (.lconst 0, 1) := by decide +kernel
theorem dX6_lowerFraction_28 : decode cX6_lowerFraction 28 = .ok (.lcmp, 1) := by decide +kernel
theorem dX6_lowerFraction_29 : decode cX6_lowerFraction 29 = .ok (.ifCond .ne 23, 3) := by decide +kernel
theorem dX6_lowerFraction_32 : decode cX6_lowerFraction 32 = .ok (.aload_n 0, 1) := by decide +kernel
theorem dX6_lowerFraction_33 : decode cX6_lowerFraction 33 = .ok (.dup, 1) := by decide +kernel
theorem dX6_lowerFraction_34 : decode cX6_lowerFraction 34 = .ok (.getfield 57, 3) := by decide +kernel
theorem dX6_lowerFraction_37 : decode cX6_lowerFraction 37 = .ok (.lload_n 1, 1) := by decide +kernel
theorem dX6_lowerFraction_38 : decode cX6_lowerFraction 38 = .ok (.ldiv, 1) := by decide +kernel
theorem dX6_lowerFraction_39 : decode cX6_lowerFraction 39 = .ok (.putfield 57, 3) := by decide +kernel
theorem dX6_lowerFraction_42 : decode cX6_lowerFraction 42 = .ok (.aload_n 0, 1) := by decide +kernel
theorem dX6_lowerFraction_43 : decode cX6_lowerFraction 43 = .ok (.dup, 1) := by decide +kernel
theorem dX6_lowerFraction_44 : decode cX6_lowerFraction 44 = .ok (.getfield 61, 3) := by decide +kernel
theorem dX6_lowerFraction_47 : decode cX6_lowerFraction 47 = .ok (.lload_n 1, 1) := by decide +kernel
theorem dX6_lowerFraction_48 : decode cX6_lowerFraction 48 = .ok (.ldiv, 1) := by decide +kernel
theorem dX6_lowerFraction_49 : decode cX6_lowerFraction 49 = .ok (.putfield 61, 3) := by decide +kernel
theorem dX6_lowerFraction_52 : decode cX6_lowerFraction 52 = .ok (.lload_n 1, 1) := by decide +kernel
theorem dX6_lowerFraction_53 : decode cX6_lowerFraction 53 = .ok (.lconst 1, 1) := by decide +kernel
theorem dX6_lowerFraction_54 : decode cX6_lowerFraction 54 = .ok (.lsub, 1) := by decide +kernel
theorem dX6_lowerFraction_55 : decode cX6_lowerFraction 55 = .ok (.lstore_n 1, 1) := by decide +kernel
theorem dX6_lowerFraction_56 : decode cX6_lowerFraction 56 = .ok (.goto (-52), 3) := by decide +kernel
theorem dX6_lowerFraction_59 : decode cX6_lowerFraction 59 = .ok (.return_, 1) := by decide +kernel
theorem dX6_onlyBit_0 : decode cX6_onlyBit 0 = .ok (.iconst 0, 1) := by decide +kernel
theorem dX6_onlyBit_1 : decode cX6_onlyBit 1 = .ok (.istore_n 1, 1) := by decide +kernel
theorem dX6_onlyBit_2 : decode cX6_onlyBit 2 = .ok (.iload_n 1, 1) := by decide +kernel
theorem dX6_onlyBit_3 : decode cX6_onlyBit 3 = .ok (.iconst 5, 1) := by decide +kernel
theorem dX6_onlyBit_4 : decode cX6_onlyBit 4 = .ok (.if_icmp .ge 18, 3) := by decide +kernel
theorem dX6_onlyBit_7 : decode cX6_onlyBit 7 = .ok (.iload_n 0, 1) := by decide +kernel
theorem dX6_onlyBit_8 : decode cX6_onlyBit 8 = .ok (.iconst 1, 1) := by decide +kernel
theorem dX6_onlyBit_9 : decode cX6_onlyBit 9 = .ok (.iload_n 1, 1) := by decide +kernel
theorem dX6_onlyBit_10 : decode cX6_onlyBit 10 = .ok (.ishl, 1) := by decide +kernel
theorem dX6_onlyBit_11 : decode cX6_onlyBit 11 = .ok (.if_icmp .ne 5, 3) := by decide +kernel
theorem dX6_onlyBit_14 : decode cX6_onlyBit 14 = .ok (.iload_n 1, 1) := by decide +kernel
theorem dX6_onlyBit_15 : decode cX6_onlyBit 15 = .ok (.ireturn, 1) := by decide +kernel
theorem dX6_onlyBit_16 : decode cX6_onlyBit 16 = .ok (.iinc 1 1, 3) := by decide +kernel
theorem dX6_onlyBit_19 : decode cX6_onlyBit 19 = .ok (.goto (-17), 3) := by decide +kernel
theorem dX6_onlyBit_22 : decode cX6_onlyBit 22 = .ok (.iconst (-1), 1) := by decide +kernel
theorem dX6_onlyBit_23 : decode cX6_onlyBit 23 = .ok (.ireturn, 1) := by decide +kernel
theorem dX6_copyRow_0 : decode cX6_copyRow 0 = .ok (.aload_n 0, 1) := by decide +kernel
theorem dX6_copyRow_1 : decode cX6_copyRow 1 = .ok (.arraylength, 1) := by decide +kernel
theorem dX6_copyRow_2 : decode cX6_copyRow 2 = .ok (.aload_n 1, 1) := by decide +kernel
theorem dX6_copyRow_3 : decode cX6_copyRow 3 = .ok (.arraylength, 1) := by decide +kernel
theorem dX6_copyRow_4 : decode cX6_copyRow 4 = .ok (.invokestatic 322, 3) := by decide +kernel
theorem dX6_copyRow_7 : decode cX6_copyRow 7 = .ok (.istore_n 2, 1) := by decide +kernel
theorem dX6_copyRow_8 : decode cX6_copyRow 8 = .ok (.aload_n 0, 1) := by decide +kernel
theorem dX6_copyRow_9 : decode cX6_copyRow 9 = .ok (.iconst 0, 1) := by decide +kernel
theorem dX6_copyRow_10 : decode cX6_copyRow 10 = .ok (.aload_n 1, 1) := by decide +kernel
theorem dX6_copyRow_11 : decode cX6_copyRow 11 = .ok (.iconst 0, 1) := by decide +kernel
theorem dX6_copyRow_12 : decode cX6_copyRow 12 = .ok (.iload_n 2, 1) := by decide +kernel
theorem dX6_copyRow_13 : decode cX6_copyRow 13 = .ok (.invokestatic 325, 3) := by decide +kernel
theorem dX6_copyRow_16 : decode cX6_copyRow 16 = .ok (.return_, 1) := by decide +kernel
