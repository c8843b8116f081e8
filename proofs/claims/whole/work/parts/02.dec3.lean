theorem d_A_land_0 : decode c_A_land 0 = .ok (.aload_n 1, 1) := by decide +kernel
theorem d_A_land_1 : decode c_A_land 1 = .ok (.iconst 0, 1) := by decide +kernel
theorem d_A_land_2 : decode c_A_land 2 = .ok (.aload_n 0, 1) := by decide +kernel
theorem d_A_land_3 : decode c_A_land 3 = .ok (.invokevirtual 7, 3) := by decide +kernel
theorem d_A_land_6 : decode c_A_land 6 = .ok (.i2l, 1) := by decide +kernel
theorem d_A_land_7 : decode c_A_land 7 = .ok (.lastore, 1) := by decide +kernel
theorem d_A_land_8 : decode c_A_land 8 = .ok (.goto 6, 3) := by decide +kernel
theorem d_A_land_11 : decode c_A_land 11 = .ok (.astore_n 2, 1) := by decide +kernel
theorem d_A_land_12 : decode c_A_land 12 = .ok (.iconst 1, 1) := by decide +kernel
theorem d_A_land_13 : decode c_A_land 13 = .ok (.ireturn, 1) := by decide +kernel
theorem d_A_land_14 : decode c_A_land 14 = .ok (.iconst 0, 1) := by decide +kernel
theorem d_A_land_15 : decode c_A_land 15 = .ok (.ireturn, 1) := by decide +kernel
theorem d_A_place_0 : decode c_A_place 0 = .ok (.aload_n 3, 1) := by decide +kernel
theorem d_A_place_1 : decode c_A_place 1 = .ok (.iconst 0, 1) := by decide +kernel
theorem d_A_place_2 : decode c_A_place 2 = .ok (.aload_n 0, 1) := by decide +kernel
theorem d_A_place_3 : decode c_A_place 3 = .ok (.iload_n 1, 1) := by decide +kernel
theorem d_A_place_4 : decode c_A_place 4 = .ok (.iload_n 2, 1) := by decide +kernel
theorem d_A_place_5 : decode c_A_place 5 = .ok (.invokevirtual 15, 3) := by decide +kernel
theorem d_A_place_8 : decode c_A_place 8 = .ok (.i2l, 1) := by decide +kernel
theorem d_A_place_9 : decode c_A_place 9 = .ok (.lastore, 1) := by decide +kernel
theorem d_A_place_10 : decode c_A_place 10 = .ok (.goto 11, 3) := by decide +kernel
theorem d_A_place_13 : decode c_A_place 13 = .ok (.astore 4, 2) := by decide +kernel
theorem d_A_place_15 : decode c_A_place 15 = .ok (.iconst 1, 1) := by decide +kernel
theorem d_A_place_16 : decode c_A_place 16 = .ok (.ireturn, 1) := by decide +kernel
theorem d_A_place_17 : decode c_A_place 17 = .ok (.astore 4, 2) := by decide +kernel
theorem d_A_place_19 : decode c_A_place 19 = .ok (.iconst 2, 1) := by decide +kernel
theorem d_A_place_20 : decode c_A_place 20 = .ok (.ireturn, 1) := by decide +kernel
theorem d_A_place_21 : decode c_A_place 21 = .ok (.iconst 0, 1) := by decide +kernel
theorem d_A_place_22 : decode c_A_place 22 = .ok (.ireturn, 1) := by decide +kernel
theorem d_A_term_0 : decode c_A_term 0 = .ok (.aload_n 2, 1) := by decide +kernel
theorem d_A_term_1 : decode c_A_term 1 = .ok (.iconst 0, 1) := by decide +kernel
theorem d_A_term_2 : decode c_A_term 2 = .ok (.aload_n 0, 1) := by decide +kernel
theorem d_A_term_3 : decode c_A_term 3 = .ok (.iload_n 1, 1) := by decide +kernel
theorem d_A_term_4 : decode c_A_term 4 = .ok (.invokevirtual 23, 3) := by decide +kernel
theorem d_A_term_7 : decode c_A_term 7 = .ok (.i2l, 1) := by decide +kernel
theorem d_A_term_8 : decode c_A_term 8 = .ok (.lastore, 1) := by decide +kernel
theorem d_A_term_9 : decode c_A_term 9 = .ok (.goto 6, 3) := by decide +kernel
theorem d_A_term_12 : decode c_A_term 12 = .ok (.astore_n 3, 1) := by decide +kernel
theorem d_A_term_13 : decode c_A_term 13 = .ok (.iconst 1, 1) := by decide +kernel
theorem d_A_term_14 : decode c_A_term 14 = .ok (.ireturn, 1) := by decide +kernel
theorem d_A_term_15 : decode c_A_term 15 = .ok (.iconst 0, 1) := by decide +kernel
theorem d_A_term_16 : decode c_A_term 16 = .ok (.ireturn, 1) := by decide +kernel
theorem d_A_tune_0 : decode c_A_tune 0 = .ok (.aload_n 3, 1) := by decide +kernel
theorem d_A_tune_1 : decode c_A_tune 1 = .ok (.iconst 0, 1) := by decide +kernel
theorem d_A_tune_2 : decode c_A_tune 2 = .ok (.aload_n 0, 1) := by decide +kernel
theorem d_A_tune_3 : decode c_A_tune 3 = .ok (.iload_n 1, 1) := by decide +kernel
theorem d_A_tune_4 : decode c_A_tune 4 = .ok (.iload_n 2, 1) := by decide +kernel
theorem d_A_tune_5 : decode c_A_tune 5 = .ok (.invokevirtual 27, 3) := by decide +kernel
theorem d_A_tune_8 : decode c_A_tune 8 = .ok (.i2l, 1) := by decide +kernel
theorem d_A_tune_9 : decode c_A_tune 9 = .ok (.lastore, 1) := by decide +kernel
theorem d_A_tune_10 : decode c_A_tune 10 = .ok (.goto 11, 3) := by decide +kernel
theorem d_A_tune_13 : decode c_A_tune 13 = .ok (.astore 4, 2) := by decide +kernel
theorem d_A_tune_15 : decode c_A_tune 15 = .ok (.iconst 1, 1) := by decide +kernel
theorem d_A_tune_16 : decode c_A_tune 16 = .ok (.ireturn, 1) := by decide +kernel
theorem d_A_tune_17 : decode c_A_tune 17 = .ok (.astore 4, 2) := by decide +kernel
theorem d_A_tune_19 : decode c_A_tune 19 = .ok (.iconst 2, 1) := by decide +kernel
theorem d_A_tune_20 : decode c_A_tune 20 = .ok (.ireturn, 1) := by decide +kernel
theorem d_A_tune_21 : decode c_A_tune 21 = .ok (.iconst 0, 1) := by decide +kernel
theorem d_A_tune_22 : decode c_A_tune 22 = .ok (.ireturn, 1) := by decide +kernel
theorem d_A_raise_0 : decode c_A_raise 0 = .ok (.aload_n 3, 1) := by decide +kernel
theorem d_A_raise_1 : decode c_A_raise 1 = .ok (.iconst 0, 1) := by decide +kernel
theorem d_A_raise_2 : decode c_A_raise 2 = .ok (.aload_n 0, 1) := by decide +kernel
theorem d_A_raise_3 : decode c_A_raise 3 = .ok (.iload_n 1, 1) := by decide +kernel
theorem d_A_raise_4 : decode c_A_raise 4 = .ok (.iload_n 2, 1) := by decide +kernel
theorem d_A_raise_5 : decode c_A_raise 5 = .ok (.invokevirtual 30, 3) := by decide +kernel
theorem d_A_raise_8 : decode c_A_raise 8 = .ok (.i2l, 1) := by decide +kernel
theorem d_A_raise_9 : decode c_A_raise 9 = .ok (.lastore, 1) := by decide +kernel
theorem d_A_raise_10 : decode c_A_raise 10 = .ok (.goto 11, 3) := by decide +kernel
theorem d_A_raise_13 : decode c_A_raise 13 = .ok (.astore 4, 2) := by decide +kernel
theorem d_A_raise_15 : decode c_A_raise 15 = .ok (.iconst 1, 1) := by decide +kernel
theorem d_A_raise_16 : decode c_A_raise 16 = .ok (.ireturn, 1) := by decide +kernel
theorem d_A_raise_17 : decode c_A_raise 17 = .ok (.astore 4, 2) := by decide +kernel
theorem d_A_raise_19 : decode c_A_raise 19 = .ok (.iconst 2, 1) := by decide +kernel
theorem d_A_raise_20 : decode c_A_raise 20 = .ok (.ireturn, 1) := by decide +kernel
theorem d_A_raise_21 : decode c_A_raise 21 = .ok (.iconst 0, 1) := by decide +kernel
theorem d_A_raise_22 : decode c_A_raise 22 = .ok (.ireturn, 1) := by decide +kernel
theorem d_A_flood_0 : decode c_A_flood 0 = .ok (.aload_n 3, 1) := by decide +kernel
theorem d_A_flood_1 : decode c_A_flood 1 = .ok (.iconst 0, 1) := by decide +kernel
theorem d_A_flood_2 : decode c_A_flood 2 = .ok (.aload_n 0, 1) := by decide +kernel
theorem d_A_flood_3 : decode c_A_flood 3 = .ok (.iload_n 1, 1) := by decide +kernel
theorem d_A_flood_4 : decode c_A_flood 4 = .ok (.iload_n 2, 1) := by decide +kernel
theorem d_A_flood_5 : decode c_A_flood 5 = .ok (.invokevirtual 33, 3) := by decide +kernel
theorem d_A_flood_8 : decode c_A_flood 8 = .ok (.ifCond .eq 7, 3) := by decide +kernel
theorem d_A_flood_11 : decode c_A_flood 11 = .ok (.lconst 1, 1) := by decide +kernel
theorem d_A_flood_12 : decode c_A_flood 12 = .ok (.goto 4, 3) := by decide +kernel
theorem d_A_flood_15 : decode c_A_flood 15 = .ok (.lconst 0, 1) := by decide +kernel
theorem d_A_flood_16 : decode c_A_flood 16 = .ok (.lastore, 1) := by decide +kernel
theorem d_A_flood_17 : decode c_A_flood 17 = .ok (.goto 7, 3) := by decide +kernel
theorem d_A_flood_20 : decode c_A_flood 20 = .ok (.astore 4, 2) := by decide +kernel
theorem d_A_flood_22 : decode c_A_flood 22 = .ok (.iconst 1, 1) := by decide +kernel
theorem d_A_flood_23 : decode c_A_flood 23 = .ok (.ireturn, 1) := by decide +kernel
theorem d_A_flood_24 : decode c_A_flood 24 = .ok (.iconst 0, 1) := by decide +kernel
theorem d_A_flood_25 : decode c_A_flood 25 = .ok (.ireturn, 1) := by decide +kernel
theorem d_A_build_0 : decode c_A_build 0 = .ok (.aload 4, 2) := by decide +kernel
theorem d_A_build_2 : decode c_A_build 2 = .ok (.iconst 0, 1) := by decide +kernel
theorem d_A_build_3 : decode c_A_build 3 = .ok (.aload_n 0, 1) := by decide +kernel
theorem d_A_build_4 : decode c_A_build 4 = .ok (.iload_n 1, 1) := by decide +kernel
theorem d_A_build_5 : decode c_A_build 5 = .ok (.iload_n 2, 1) := by decide +kernel
theorem d_A_build_6 : decode c_A_build 6 = .ok (.iload_n 3, 1) := by decide +kernel
theorem d_A_build_7 : decode c_A_build 7 = .ok (.invokevirtual 37, 3) := by decide +kernel
theorem d_A_build_10 : decode c_A_build 10 = .ok (.i2l, 1) := by decide +kernel
theorem d_A_build_11 : decode c_A_build 11 = .ok (.lastore, 1) := by decide +kernel
theorem d_A_build_12 : decode c_A_build 12 = .ok (.goto 15, 3) := by decide +kernel
theorem d_A_build_15 : decode c_A_build 15 = .ok (.astore 5, 2) := by decide +kernel
theorem d_A_build_17 : decode c_A_build 17 = .ok (.iconst 1, 1) := by decide +kernel
theorem d_A_build_18 : decode c_A_build 18 = .ok (.ireturn, 1) := by decide +kernel
theorem d_A_build_19 : decode c_A_build 19 = .ok (.astore 5, 2) := by decide +kernel
theorem d_A_build_21 : decode c_A_build 21 = .ok (.iconst 2, 1) := by decide +kernel
theorem d_A_build_22 : decode c_A_build 22 = .ok (.ireturn, 1) := by decide +kernel
theorem d_A_build_23 : decode c_A_build 23 = .ok (.astore 5, 2) := by decide +kernel
theorem d_A_build_25 : decode c_A_build 25 = .ok (.iconst 3, 1) := by decide +kernel
theorem d_A_build_26 : decode c_A_build 26 = .ok (.ireturn, 1) := by decide +kernel
theorem d_A_build_27 : decode c_A_build 27 = .ok (.iconst 0, 1) := by decide +kernel
theorem d_A_build_28 : decode c_A_build 28 = .ok (.ireturn, 1) := by decide +kernel
theorem d_A_drop_0 : decode c_A_drop 0 = .ok (.aload_n 2, 1) := by decide +kernel
theorem d_A_drop_1 : decode c_A_drop 1 = .ok (.iconst 0, 1) := by decide +kernel
theorem d_A_drop_2 : decode c_A_drop 2 = .ok (.aload_n 0, 1) := by decide +kernel
theorem d_A_drop_3 : decode c_A_drop 3 = .ok (.iload_n 1, 1) := by decide +kernel
theorem d_A_drop_4 : decode c_A_drop 4 = .ok (.invokevirtual 43, 3) := by decide +kernel
theorem d_A_drop_7 : decode c_A_drop 7 = .ok (.i2l, 1) := by decide +kernel
theorem d_A_drop_8 : decode c_A_drop 8 = .ok (.lastore, 1) := by decide +kernel
theorem d_A_drop_9 : decode c_A_drop 9 = .ok (.goto 9, 3) := by decide +kernel
theorem d_A_drop_12 : decode c_A_drop 12 = .ok (.astore_n 3, 1) := by decide +kernel
theorem d_A_drop_13 : decode c_A_drop 13 = .ok (.iconst 1, 1) := by decide +kernel
theorem d_A_drop_14 : decode c_A_drop 14 = .ok (.ireturn, 1) := by decide +kernel
theorem d_A_drop_15 : decode c_A_drop 15 = .ok (.astore_n 3, 1) := by decide +kernel
theorem d_A_drop_16 : decode c_A_drop 16 = .ok (.iconst 2, 1) := by decide +kernel
theorem d_A_drop_17 : decode c_A_drop 17 = .ok (.ireturn, 1) := by decide +kernel
theorem d_A_drop_18 : decode c_A_drop 18 = .ok (.iconst 0, 1) := by decide +kernel
theorem d_A_drop_19 : decode c_A_drop 19 = .ok (.ireturn, 1) := by decide +kernel
theorem d_A_level_0 : decode c_A_level 0 = .ok (.aload_n 3, 1) := by decide +kernel
theorem d_A_level_1 : decode c_A_level 1 = .ok (.iconst 0, 1) := by decide +kernel
theorem d_A_level_2 : decode c_A_level 2 = .ok (.aload_n 0, 1) := by decide +kernel
theorem d_A_level_3 : decode c_A_level 3 = .ok (.iload_n 1, 1) := by decide +kernel
theorem d_A_level_4 : decode c_A_level 4 = .ok (.iload_n 2, 1) := by decide +kernel
theorem d_A_level_5 : decode c_A_level 5 = .ok (.invokevirtual 46, 3) := by decide +kernel
theorem d_A_level_8 : decode c_A_level 8 = .ok (.i2l, 1) := by decide +kernel
theorem d_A_level_9 : decode c_A_level 9 = .ok (.lastore, 1) := by decide +kernel
theorem d_A_level_10 : decode c_A_level 10 = .ok (.goto 15, 3) := by decide +kernel
theorem d_A_level_13 : decode c_A_level 13 = .ok (.astore 4, 2) := by decide +kernel
theorem d_A_level_15 : decode c_A_level 15 = .ok (.iconst 1, 1) := by decide +kernel
theorem d_A_level_16 : decode c_A_level 16 = .ok (.ireturn, 1) := by decide +kernel
theorem d_A_level_17 : decode c_A_level 17 = .ok (.astore 4, 2) := by decide +kernel
theorem d_A_level_19 : decode c_A_level 19 = .ok (.iconst 2, 1) := by decide +kernel
theorem d_A_level_20 : decode c_A_level 20 = .ok (.ireturn, 1) := by decide +kernel
theorem d_A_level_21 : decode c_A_level 21 = .ok (.astore 4, 2) := by decide +kernel
theorem d_A_level_23 : decode c_A_level 23 = .ok (.iconst 3, 1) := by decide +kernel
theorem d_A_level_24 : decode c_A_level 24 = .ok (.ireturn, 1) := by decide +kernel
theorem d_A_level_25 : decode c_A_level 25 = .ok (.iconst 0, 1) := by decide +kernel
theorem d_A_level_26 : decode c_A_level 26 = .ok (.ireturn, 1) := by decide +kernel
theorem d_A_undo_0 : decode c_A_undo 0 = .ok (.aload_n 1, 1) := by decide +kernel
theorem d_A_undo_1 : decode c_A_undo 1 = .ok (.iconst 0, 1) := by decide +kernel
theorem d_A_undo_2 : decode c_A_undo 2 = .ok (.aload_n 0, 1) := by decide +kernel
theorem d_A_undo_3 : decode c_A_undo 3 = .ok (.invokevirtual 49, 3) := by decide +kernel
theorem d_A_undo_6 : decode c_A_undo 6 = .ok (.i2l, 1) := by decide +kernel
theorem d_A_undo_7 : decode c_A_undo 7 = .ok (.lastore, 1) := by decide +kernel
theorem d_A_undo_8 : decode c_A_undo 8 = .ok (.goto 6, 3) := by decide +kernel
theorem d_A_undo_11 : decode c_A_undo 11 = .ok (.astore_n 2, 1) := by decide +kernel
theorem d_A_undo_12 : decode c_A_undo 12 = .ok (.iconst 1, 1) := by decide +kernel
theorem d_A_undo_13 : decode c_A_undo 13 = .ok (.ireturn, 1) := by decide +kernel
theorem d_A_undo_14 : decode c_A_undo 14 = .ok (.iconst 0, 1) := by decide +kernel
theorem d_A_undo_15 : decode c_A_undo 15 = .ok (.ireturn, 1) := by decide +kernel
theorem d_A_best_0 : decode c_A_best 0 = .ok (.aload 4, 2) := by decide +kernel
theorem d_A_best_2 : decode c_A_best 2 = .ok (.iconst 0, 1) := by decide +kernel
theorem d_A_best_3 : decode c_A_best 3 = .ok (.aload_n 0, 1) := by decide +kernel
theorem d_A_best_4 : decode c_A_best 4 = .ok (.iload_n 1, 1) := by decide +kernel
theorem d_A_best_5 : decode c_A_best 5 = .ok (.iload_n 2, 1) := by decide +kernel
theorem d_A_best_6 : decode c_A_best 6 = .ok (.iload_n 3, 1) := by decide +kernel
theorem d_A_best_7 : decode c_A_best 7 = .ok (.invokevirtual 52, 3) := by decide +kernel
theorem d_A_best_10 : decode c_A_best 10 = .ok (.i2l, 1) := by decide +kernel
theorem d_A_best_11 : decode c_A_best 11 = .ok (.lastore, 1) := by decide +kernel
theorem d_A_best_12 : decode c_A_best 12 = .ok (.goto 15, 3) := by decide +kernel
theorem d_A_best_15 : decode c_A_best 15 = .ok (.astore 5, 2) := by decide +kernel
theorem d_A_best_17 : decode c_A_best 17 = .ok (.iconst 1, 1) := by decide +kernel
theorem d_A_best_18 : decode c_A_best 18 = .ok (.ireturn, 1) := by decide +kernel
theorem d_A_best_19 : decode c_A_best 19 = .ok (.astore 5, 2) := by decide +kernel
theorem d_A_best_21 : decode c_A_best 21 = .ok (.iconst 2, 1) := by decide +kernel
theorem d_A_best_22 : decode c_A_best 22 = .ok (.ireturn, 1) := by decide +kernel
theorem d_A_best_23 : decode c_A_best 23 = .ok (.astore 5, 2) := by decide +kernel
theorem d_A_best_25 : decode c_A_best 25 = .ok (.iconst 3, 1) := by decide +kernel
theorem d_A_best_26 : decode c_A_best 26 = .ok (.ireturn, 1) := by decide +kernel
theorem d_A_best_27 : decode c_A_best 27 = .ok (.iconst 0, 1) := by decide +kernel
theorem d_A_best_28 : decode c_A_best 28 = .ok (.ireturn, 1) := by decide +kernel
theorem d_A_along_0 : decode c_A_along 0 = .ok (.aload 5, 2) := by decide +kernel
theorem d_A_along_2 : decode c_A_along 2 = .ok (.iconst 0, 1) := by decide +kernel
theorem d_A_along_3 : decode c_A_along 3 = .ok (.aload_n 0, 1) := by decide +kernel
theorem d_A_along_4 : decode c_A_along 4 = .ok (.iload_n 1, 1) := by decide +kernel
theorem d_A_along_5 : decode c_A_along 5 = .ok (.iload_n 2, 1) := by decide +kernel
theorem d_A_along_6 : decode c_A_along 6 = .ok (.iload_n 3, 1) := by decide +kernel
theorem d_A_along_7 : decode c_A_along 7 = .ok (.iload 4, 2) := by decide +kernel
theorem d_A_along_9 : decode c_A_along 9 = .ok (.invokevirtual 55, 3) := by decide +kernel
theorem d_A_along_12 : decode c_A_along 12 = .ok (.i2l, 1) := by decide +kernel
theorem d_A_along_13 : decode c_A_along 13 = .ok (.lastore, 1) := by decide +kernel
theorem d_A_along_14 : decode c_A_along 14 = .ok (.goto 15, 3) := by decide +kernel
theorem d_A_along_17 : decode c_A_along 17 = .ok (.astore 6, 2) := by decide +kernel
theorem d_A_along_19 : decode c_A_along 19 = .ok (.iconst 1, 1) := by decide +kernel
theorem d_A_along_20 : decode c_A_along 20 = .ok (.ireturn, 1) := by decide +kernel
theorem d_A_along_21 : decode c_A_along 21 = .ok (.astore 6, 2) := by decide +kernel
theorem d_A_along_23 : decode c_A_along 23 = .ok (.iconst 2, 1) := by decide +kernel
theorem d_A_along_24 : decode c_A_along 24 = .ok (.ireturn, 1) := by decide +kernel
theorem d_A_along_25 : decode c_A_along 25 = .ok (.astore 6, 2) := by decide +kernel
theorem d_A_along_27 : decode c_A_along 27 = .ok (.iconst 3, 1) := by decide +kernel
theorem d_A_along_28 : decode c_A_along 28 = .ok (.ireturn, 1) := by decide +kernel
theorem d_A_along_29 : decode c_A_along 29 = .ok (.iconst 0, 1) := by decide +kernel
theorem d_A_along_30 : decode c_A_along 30 = .ok (.ireturn, 1) := by decide +kernel
theorem d_A_reach_0 : decode c_A_reach 0 = .ok (.aload_n 2, 1) := by decide +kernel
theorem d_A_reach_1 : decode c_A_reach 1 = .ok (.iconst 0, 1) := by decide +kernel
theorem d_A_reach_2 : decode c_A_reach 2 = .ok (.aload_n 0, 1) := by decide +kernel
theorem d_A_reach_3 : decode c_A_reach 3 = .ok (.iload_n 1, 1) := by decide +kernel
theorem d_A_reach_4 : decode c_A_reach 4 = .ok (.invokevirtual 59, 3) := by decide +kernel
theorem d_A_reach_7 : decode c_A_reach 7 = .ok (.i2l, 1) := by decide +kernel
theorem d_A_reach_8 : decode c_A_reach 8 = .ok (.lastore, 1) := by decide +kernel
theorem d_A_reach_9 : decode c_A_reach 9 = .ok (.goto 6, 3) := by decide +kernel
theorem d_A_reach_12 : decode c_A_reach 12 = .ok (.astore_n 3, 1) := by decide +kernel
theorem d_A_reach_13 : decode c_A_reach 13 = .ok (.iconst 1, 1) := by decide +kernel
theorem d_A_reach_14 : decode c_A_reach 14 = .ok (.ireturn, 1) := by decide +kernel
theorem d_A_reach_15 : decode c_A_reach 15 = .ok (.iconst 0, 1) := by decide +kernel
theorem d_A_reach_16 : decode c_A_reach 16 = .ok (.ireturn, 1) := by decide +kernel
theorem d_A_grade_0 : decode c_A_grade 0 = .ok (.aload_n 3, 1) := by decide +kernel
theorem d_A_grade_1 : decode c_A_grade 1 = .ok (.iconst 0, 1) := by decide +kernel
theorem d_A_grade_2 : decode c_A_grade 2 = .ok (.aload_n 0, 1) := by decide +kernel
theorem d_A_grade_3 : decode c_A_grade 3 = .ok (.iload_n 1, 1) := by decide +kernel
theorem d_A_grade_4 : decode c_A_grade 4 = .ok (.iload_n 2, 1) := by decide +kernel
theorem d_A_grade_5 : decode c_A_grade 5 = .ok (.invokevirtual 62, 3) := by decide +kernel
theorem d_A_grade_8 : decode c_A_grade 8 = .ok (.i2l, 1) := by decide +kernel
theorem d_A_grade_9 : decode c_A_grade 9 = .ok (.lastore, 1) := by decide +kernel
theorem d_A_grade_10 : decode c_A_grade 10 = .ok (.goto 11, 3) := by decide +kernel
theorem d_A_grade_13 : decode c_A_grade 13 = .ok (.astore 4, 2) := by decide +kernel
theorem d_A_grade_15 : decode c_A_grade 15 = .ok (.iconst 1, 1) := by decide +kernel
theorem d_A_grade_16 : decode c_A_grade 16 = .ok (.ireturn, 1) := by decide +kernel
theorem d_A_grade_17 : decode c_A_grade 17 = .ok (.astore 4, 2) := by decide +kernel
theorem d_A_grade_19 : decode c_A_grade 19 = .ok (.iconst 2, 1) := by decide +kernel
theorem d_A_grade_20 : decode c_A_grade 20 = .ok (.ireturn, 1) := by decide +kernel
theorem d_A_grade_21 : decode c_A_grade 21 = .ok (.iconst 0, 1) := by decide +kernel
theorem d_A_grade_22 : decode c_A_grade 22 = .ok (.ireturn, 1) := by decide +kernel
theorem d_A_gate_0 : decode c_A_gate 0 = .ok (.aload_n 3, 1) := by decide +kernel
theorem d_A_gate_1 : decode c_A_gate 1 = .ok (.iconst 0, 1) := by decide +kernel
theorem d_A_gate_2 : decode c_A_gate 2 = .ok (.aload_n 0, 1) := by decide +kernel
theorem d_A_gate_3 : decode c_A_gate 3 = .ok (.iload_n 1, 1) := by decide +kernel
theorem d_A_gate_4 : decode c_A_gate 4 = .ok (.iload_n 2, 1) := by decide +kernel
theorem d_A_gate_5 : decode c_A_gate 5 = .ok (.invokevirtual 65, 3) := by decide +kernel
theorem d_A_gate_8 : decode c_A_gate 8 = .ok (.i2l, 1) := by decide +kernel
theorem d_A_gate_9 : decode c_A_gate 9 = .ok (.lastore, 1) := by decide +kernel
theorem d_A_gate_10 : decode c_A_gate 10 = .ok (.goto 11, 3) := by decide +kernel
theorem d_A_gate_13 : decode c_A_gate 13 = .ok (.astore 4, 2) := by decide +kernel
theorem d_A_gate_15 : decode c_A_gate 15 = .ok (.iconst 1, 1) := by decide +kernel
theorem d_A_gate_16 : decode c_A_gate 16 = .ok (.ireturn, 1) := by decide +kernel
theorem d_A_gate_17 : decode c_A_gate 17 = .ok (.astore 4, 2) := by decide +kernel
theorem d_A_gate_19 : decode c_A_gate 19 = .ok (.iconst 2, 1) := by decide +kernel
theorem d_A_gate_20 : decode c_A_gate 20 = .ok (.ireturn, 1) := by decide +kernel
theorem d_A_gate_21 : decode c_A_gate 21 = .ok (.iconst 0, 1) := by decide +kernel
theorem d_A_gate_22 : decode c_A_gate 22 = .ok (.ireturn, 1) := by decide +kernel
theorem d_A_bored_0 : decode c_A_bored 0 = .ok (.aload 4, 2) := by decide +kernel
theorem d_A_bored_2 : decode c_A_bored 2 = .ok (.iconst 0, 1) := by decide +kernel
theorem d_A_bored_3 : decode c_A_bored 3 = .ok (.aload_n 0, 1) := by decide +kernel
theorem d_A_bored_4 : decode c_A_bored 4 = .ok (.iload_n 1, 1) := by decide +kernel
theorem d_A_bored_5 : decode c_A_bored 5 = .ok (.iload_n 2, 1) := by decide +kernel
theorem d_A_bored_6 : decode c_A_bored 6 = .ok (.iload_n 3, 1) := by decide +kernel
theorem d_A_bored_7 : decode c_A_bored 7 = .ok (.invokevirtual 68, 3) := by decide +kernel
theorem d_A_bored_10 : decode c_A_bored 10 = .ok (.i2l, 1) := by decide +kernel
theorem d_A_bored_11 : decode c_A_bored 11 = .ok (.lastore, 1) := by decide +kernel
theorem d_A_bored_12 : decode c_A_bored 12 = .ok (.goto 11, 3) := by decide +kernel
theorem d_A_bored_15 : decode c_A_bored 15 = .ok (.astore 5, 2) := by decide +kernel
theorem d_A_bored_17 : decode c_A_bored 17 = .ok (.iconst 1, 1) := by decide +kernel
theorem d_A_bored_18 : decode c_A_bored 18 = .ok (.ireturn, 1) := by decide +kernel
theorem d_A_bored_19 : decode c_A_bored 19 = .ok (.astore 5, 2) := by decide +kernel
theorem d_A_bored_21 : decode c_A_bored 21 = .ok (.iconst 2, 1) := by decide +kernel
theorem d_A_bored_22 : decode c_A_bored 22 = .ok (.ireturn, 1) := by decide +kernel
theorem d_A_bored_23 : decode c_A_bored 23 = .ok (.iconst 0, 1) := by decide +kernel
theorem d_A_bored_24 : decode c_A_bored 24 = .ok (.ireturn, 1) := by decide +kernel
theorem d_A_meet_0 : decode c_A_meet 0 = .ok (.aload 5, 2) := by decide +kernel
theorem d_A_meet_2 : decode c_A_meet 2 = .ok (.iconst 0, 1) := by decide +kernel
theorem d_A_meet_3 : decode c_A_meet 3 = .ok (.aload_n 0, 1) := by decide +kernel
theorem d_A_meet_4 : decode c_A_meet 4 = .ok (.iload_n 1, 1) := by decide +kernel
theorem d_A_meet_5 : decode c_A_meet 5 = .ok (.iload_n 2, 1) := by decide +kernel
theorem d_A_meet_6 : decode c_A_meet 6 = .ok (.iload_n 3, 1) := by decide +kernel
theorem d_A_meet_7 : decode c_A_meet 7 = .ok (.iload 4, 2) := by decide +kernel
theorem d_A_meet_9 : decode c_A_meet 9 = .ok (.invokevirtual 71, 3) := by decide +kernel
theorem d_A_meet_12 : decode c_A_meet 12 = .ok (.i2l, 1) := by decide +kernel
theorem d_A_meet_13 : decode c_A_meet 13 = .ok (.lastore, 1) := by decide +kernel
theorem d_A_meet_14 : decode c_A_meet 14 = .ok (.goto 15, 3) := by decide +kernel
theorem d_A_meet_17 : decode c_A_meet 17 = .ok (.astore 6, 2) := by decide +kernel
theorem d_A_meet_19 : decode c_A_meet 19 = .ok (.iconst 1, 1) := by decide +kernel
theorem d_A_meet_20 : decode c_A_meet 20 = .ok (.ireturn, 1) := by decide +kernel
theorem d_A_meet_21 : decode c_A_meet 21 = .ok (.astore 6, 2) := by decide +kernel
theorem d_A_meet_23 : decode c_A_meet 23 = .ok (.iconst 2, 1) := by decide +kernel
theorem d_A_meet_24 : decode c_A_meet 24 = .ok (.ireturn, 1) := by decide +kernel
theorem d_A_meet_25 : decode c_A_meet 25 = .ok (.astore 6, 2) := by decide +kernel
theorem d_A_meet_27 : decode c_A_meet 27 = .ok (.iconst 3, 1) := by decide +kernel
theorem d_A_meet_28 : decode c_A_meet 28 = .ok (.ireturn, 1) := by decide +kernel
theorem d_A_meet_29 : decode c_A_meet 29 = .ok (.iconst 0, 1) := by decide +kernel
theorem d_A_meet_30 : decode c_A_meet 30 = .ok (.ireturn, 1) := by decide +kernel
theorem d_A_round_0 : decode c_A_round 0 = .ok (.aload_n 1, 1) := by decide +kernel
theorem d_A_round_1 : decode c_A_round 1 = .ok (.iconst 0, 1) := by decide +kernel
theorem d_A_round_2 : decode c_A_round 2 = .ok (.aload_n 0, 1) := by decide +kernel
theorem d_A_round_3 : decode c_A_round 3 = .ok (.invokevirtual 74, 3) := by decide +kernel
theorem d_A_round_6 : decode c_A_round 6 = .ok (.i2l, 1) := by decide +kernel
theorem d_A_round_7 : decode c_A_round 7 = .ok (.lastore, 1) := by decide +kernel
theorem d_A_round_8 : decode c_A_round 8 = .ok (.goto 6, 3) := by decide +kernel
theorem d_A_round_11 : decode c_A_round 11 = .ok (.astore_n 2, 1) := by decide +kernel
theorem d_A_round_12 : decode c_A_round 12 = .ok (.iconst 1, 1) := by decide +kernel
theorem d_A_round_13 : decode c_A_round 13 = .ok (.ireturn, 1) := by decide +kernel
theorem d_A_round_14 : decode c_A_round 14 = .ok (.iconst 0, 1) := by decide +kernel
theorem d_A_round_15 : decode c_A_round 15 = .ok (.ireturn, 1) := by decide +kernel
theorem d_A_road_0 : decode c_A_road 0 = .ok (.aload_n 3, 1) := by decide +kernel
theorem d_A_road_1 : decode c_A_road 1 = .ok (.iconst 0, 1) := by decide +kernel
theorem d_A_road_2 : decode c_A_road 2 = .ok (.aload_n 0, 1) := by decide +kernel
theorem d_A_road_3 : decode c_A_road 3 = .ok (.iload_n 1, 1) := by decide +kernel
theorem d_A_road_4 : decode c_A_road 4 = .ok (.iload_n 2, 1) := by decide +kernel
theorem d_A_road_5 : decode c_A_road 5 = .ok (.invokevirtual 77, 3) := by decide +kernel
theorem d_A_road_8 : decode c_A_road 8 = .ok (.i2l, 1) := by decide +kernel
theorem d_A_road_9 : decode c_A_road 9 = .ok (.lastore, 1) := by decide +kernel
theorem d_A_road_10 : decode c_A_road 10 = .ok (.goto 15, 3) := by decide +kernel
theorem d_A_road_13 : decode c_A_road 13 = .ok (.astore 4, 2) := by decide +kernel
theorem d_A_road_15 : decode c_A_road 15 = .ok (.iconst 1, 1) := by decide +kernel
theorem d_A_road_16 : decode c_A_road 16 = .ok (.ireturn, 1) := by decide +kernel
theorem d_A_road_17 : decode c_A_road 17 = .ok (.astore 4, 2) := by decide +kernel
theorem d_A_road_19 : decode c_A_road 19 = .ok (.iconst 2, 1) := by decide +kernel
theorem d_A_road_20 : decode c_A_road 20 = .ok (.ireturn, 1) := by decide +kernel
theorem d_A_road_21 : decode c_A_road 21 = .ok (.astore 4, 2) := by decide +kernel
theorem d_A_road_23 : decode c_A_road 23 = .ok (.iconst 3, 1) := by decide +kernel
theorem d_A_road_24 : decode c_A_road 24 = .ok (.ireturn, 1) := by decide +kernel
theorem d_A_road_25 : decode c_A_road 25 = .ok (.iconst 0, 1) := by decide +kernel
theorem d_A_road_26 : decode c_A_road 26 = .ok (.ireturn, 1) := by decide +kernel
theorem d_A_at_0 : decode c_A_at 0 = .ok (.aload 4, 2) := by decide +kernel
theorem d_A_at_2 : decode c_A_at 2 = .ok (.iconst 0, 1) := by decide +kernel
theorem d_A_at_3 : decode c_A_at 3 = .ok (.aload_n 0, 1) := by decide +kernel
theorem d_A_at_4 : decode c_A_at 4 = .ok (.iload_n 1, 1) := by decide +kernel
theorem d_A_at_5 : decode c_A_at 5 = .ok (.iload_n 2, 1) := by decide +kernel
theorem d_A_at_6 : decode c_A_at 6 = .ok (.iload_n 3, 1) := by decide +kernel
theorem d_A_at_7 : decode c_A_at 7 = .ok (.invokevirtual 80, 3) := by decide +kernel
theorem d_A_at_10 : decode c_A_at 10 = .ok (.i2l, 1) := by decide +kernel
theorem d_A_at_11 : decode c_A_at 11 = .ok (.lastore, 1) := by decide +kernel
theorem d_A_at_12 : decode c_A_at 12 = .ok (.goto 11, 3) := by decide +kernel
theorem d_A_at_15 : decode c_A_at 15 = .ok (.astore 5, 2) := by decide +kernel
theorem d_A_at_17 : decode c_A_at 17 = .ok (.iconst 1, 1) := by decide +kernel
theorem d_A_at_18 : decode c_A_at 18 = .ok (.ireturn, 1) := by decide +kernel
theorem d_A_at_19 : decode c_A_at 19 = .ok (.astore 5, 2) := by decide +kernel
theorem d_A_at_21 : decode c_A_at 21 = .ok (.iconst 2, 1) := by decide +kernel
theorem d_A_at_22 : decode c_A_at 22 = .ok (.ireturn, 1) := by decide +kernel
theorem d_A_at_23 : decode c_A_at 23 = .ok (.iconst 0, 1) := by decide +kernel
theorem d_A_at_24 : decode c_A_at 24 = .ok (.ireturn, 1) := by decide +kernel
theorem d_A_earth_0 : decode c_A_earth 0 = .ok (.aload_n 3, 1) := by decide +kernel
theorem d_A_earth_1 : decode c_A_earth 1 = .ok (.iconst 0, 1) := by decide +kernel
theorem d_A_earth_2 : decode c_A_earth 2 = .ok (.aload_n 0, 1) := by decide +kernel
theorem d_A_earth_3 : decode c_A_earth 3 = .ok (.iload_n 1, 1) := by decide +kernel
theorem d_A_earth_4 : decode c_A_earth 4 = .ok (.iload_n 2, 1) := by decide +kernel
theorem d_A_earth_5 : decode c_A_earth 5 = .ok (.invokevirtual 84, 3) := by decide +kernel
theorem d_A_earth_8 : decode c_A_earth 8 = .ok (.i2l, 1) := by decide +kernel
theorem d_A_earth_9 : decode c_A_earth 9 = .ok (.lastore, 1) := by decide +kernel
theorem d_A_earth_10 : decode c_A_earth 10 = .ok (.goto 15, 3) := by decide +kernel
theorem d_A_earth_13 : decode c_A_earth 13 = .ok (.astore 4, 2) := by decide +kernel
theorem d_A_earth_15 : decode c_A_earth 15 = .ok (.iconst 1, 1) := by decide +kernel
theorem d_A_earth_16 : decode c_A_earth 16 = .ok (.ireturn, 1) := by decide +kernel
theorem d_A_earth_17 : decode c_A_earth 17 = .ok (.astore 4, 2) := by decide +kernel
theorem d_A_earth_19 : decode c_A_earth 19 = .ok (.iconst 2, 1) := by decide +kernel
theorem d_A_earth_20 : decode c_A_earth 20 = .ok (.ireturn, 1) := by decide +kernel
theorem d_A_earth_21 : decode c_A_earth 21 = .ok (.astore 4, 2) := by decide +kernel
theorem d_A_earth_23 : decode c_A_earth 23 = .ok (.iconst 3, 1) := by decide +kernel
theorem d_A_earth_24 : decode c_A_earth 24 = .ok (.ireturn, 1) := by decide +kernel
theorem d_A_earth_25 : decode c_A_earth 25 = .ok (.iconst 0, 1) := by decide +kernel
theorem d_A_earth_26 : decode c_A_earth 26 = .ok (.ireturn, 1) := by decide +kernel
theorem d_A_water_0 : decode c_A_water 0 = .ok (.aload_n 3, 1) := by decide +kernel
theorem d_A_water_1 : decode c_A_water 1 = .ok (.iconst 0, 1) := by decide +kernel
theorem d_A_water_2 : decode c_A_water 2 = .ok (.aload_n 0, 1) := by decide +kernel
theorem d_A_water_3 : decode c_A_water 3 = .ok (.iload_n 1, 1) := by decide +kernel
theorem d_A_water_4 : decode c_A_water 4 = .ok (.iload_n 2, 1) := by decide +kernel
theorem d_A_water_5 : decode c_A_water 5 = .ok (.invokevirtual 87, 3) := by decide +kernel
theorem d_A_water_8 : decode c_A_water 8 = .ok (.i2l, 1) := by decide +kernel
theorem d_A_water_9 : decode c_A_water 9 = .ok (.lastore, 1) := by decide +kernel
theorem d_A_water_10 : decode c_A_water 10 = .ok (.goto 11, 3) := by decide +kernel
theorem d_A_water_13 : decode c_A_water 13 = .ok (.astore 4, 2) := by decide +kernel
theorem d_A_water_15 : decode c_A_water 15 = .ok (.iconst 1, 1) := by decide +kernel
theorem d_A_water_16 : decode c_A_water 16 = .ok (.ireturn, 1) := by decide +kernel
theorem d_A_water_17 : decode c_A_water 17 = .ok (.astore 4, 2) := by decide +kernel
theorem d_A_water_19 : decode c_A_water 19 = .ok (.iconst 2, 1) := by decide +kernel
theorem d_A_water_20 : decode c_A_water 20 = .ok (.ireturn, 1) := by decide +kernel
theorem d_A_water_21 : decode c_A_water 21 = .ok (.iconst 0, 1) := by decide +kernel
theorem d_A_water_22 : decode c_A_water 22 = .ok (.ireturn, 1) := by decide +kernel
theorem d_A_bridges_0 : decode c_A_bridges 0 = .ok (.aload_n 3, 1) := by decide +kernel
theorem d_A_bridges_1 : decode c_A_bridges 1 = .ok (.iconst 0, 1) := by decide +kernel
theorem d_A_bridges_2 : decode c_A_bridges 2 = .ok (.aload_n 0, 1) := by decide +kernel
theorem d_A_bridges_3 : decode c_A_bridges 3 = .ok (.iload_n 1, 1) := by decide +kernel
theorem d_A_bridges_4 : decode c_A_bridges 4 = .ok (.iload_n 2, 1) := by decide +kernel
theorem d_A_bridges_5 : decode c_A_bridges 5 = .ok (.invokevirtual 90, 3) := by decide +kernel
theorem d_A_bridges_8 : decode c_A_bridges 8 = .ok (.i2l, 1) := by decide +kernel
theorem d_A_bridges_9 : decode c_A_bridges 9 = .ok (.lastore, 1) := by decide +kernel
theorem d_A_bridges_10 : decode c_A_bridges 10 = .ok (.goto 15, 3) := by decide +kernel
theorem d_A_bridges_13 : decode c_A_bridges 13 = .ok (.astore 4, 2) := by decide +kernel
theorem d_A_bridges_15 : decode c_A_bridges 15 = .ok (.iconst 1, 1) := by decide +kernel
theorem d_A_bridges_16 : decode c_A_bridges 16 = .ok (.ireturn, 1) := by decide +kernel
theorem d_A_bridges_17 : decode c_A_bridges 17 = .ok (.astore 4, 2) := by decide +kernel
theorem d_A_bridges_19 : decode c_A_bridges 19 = .ok (.iconst 2, 1) := by decide +kernel
theorem d_A_bridges_20 : decode c_A_bridges 20 = .ok (.ireturn, 1) := by decide +kernel
theorem d_A_bridges_21 : decode c_A_bridges 21 = .ok (.astore 4, 2) := by decide +kernel
theorem d_A_bridges_23 : decode c_A_bridges 23 = .ok (.iconst 3, 1) := by decide +kernel
theorem d_A_bridges_24 : decode c_A_bridges 24 = .ok (.ireturn, 1) := by decide +kernel
theorem d_A_bridges_25 : decode c_A_bridges 25 = .ok (.iconst 0, 1) := by decide +kernel
theorem d_A_bridges_26 : decode c_A_bridges 26 = .ok (.ireturn, 1) := by decide +kernel
theorem d_A_joins_0 : decode c_A_joins 0 = .ok (.aload 4, 2) := by decide +kernel
theorem d_A_joins_2 : decode c_A_joins 2 = .ok (.iconst 0, 1) := by decide +kernel
theorem d_A_joins_3 : decode c_A_joins 3 = .ok (.aload_n 0, 1) := by decide +kernel
theorem d_A_joins_4 : decode c_A_joins 4 = .ok (.iload_n 1, 1) := by decide +kernel
theorem d_A_joins_5 : decode c_A_joins 5 = .ok (.iload_n 2, 1) := by decide +kernel
theorem d_A_joins_6 : decode c_A_joins 6 = .ok (.iload_n 3, 1) := by decide +kernel
theorem d_A_joins_7 : decode c_A_joins 7 = .ok (.invokevirtual 93, 3) := by decide +kernel
theorem d_A_joins_10 : decode c_A_joins 10 = .ok (.i2l, 1) := by decide +kernel
theorem d_A_joins_11 : decode c_A_joins 11 = .ok (.lastore, 1) := by decide +kernel
theorem d_A_joins_12 : decode c_A_joins 12 = .ok (.goto 15, 3) := by decide +kernel
theorem d_A_joins_15 : decode c_A_joins 15 = .ok (.astore 5, 2) := by decide +kernel
theorem d_A_joins_17 : decode c_A_joins 17 = .ok (.iconst 1, 1) := by decide +kernel
theorem d_A_joins_18 : decode c_A_joins 18 = .ok (.ireturn, 1) := by decide +kernel
theorem d_A_joins_19 : decode c_A_joins 19 = .ok (.astore 5, 2) := by decide +kernel
theorem d_A_joins_21 : decode c_A_joins 21 = .ok (.iconst 2, 1) := by decide +kernel
theorem d_A_joins_22 : decode c_A_joins 22 = .ok (.ireturn, 1) := by decide +kernel
theorem d_A_joins_23 : decode c_A_joins 23 = .ok (.astore 5, 2) := by decide +kernel
theorem d_A_joins_25 : decode c_A_joins 25 = .ok (.iconst 3, 1) := by decide +kernel
theorem d_A_joins_26 : decode c_A_joins 26 = .ok (.ireturn, 1) := by decide +kernel
theorem d_A_joins_27 : decode c_A_joins 27 = .ok (.iconst 0, 1) := by decide +kernel
theorem d_A_joins_28 : decode c_A_joins 28 = .ok (.ireturn, 1) := by decide +kernel
theorem d_A_spare_0 : decode c_A_spare 0 = .ok (.aload 4, 2) := by decide +kernel
theorem d_A_spare_2 : decode c_A_spare 2 = .ok (.iconst 0, 1) := by decide +kernel
theorem d_A_spare_3 : decode c_A_spare 3 = .ok (.aload_n 0, 1) := by decide +kernel
theorem d_A_spare_4 : decode c_A_spare 4 = .ok (.iload_n 1, 1) := by decide +kernel
theorem d_A_spare_5 : decode c_A_spare 5 = .ok (.iload_n 2, 1) := by decide +kernel
theorem d_A_spare_6 : decode c_A_spare 6 = .ok (.iload_n 3, 1) := by decide +kernel
theorem d_A_spare_7 : decode c_A_spare 7 = .ok (.invokevirtual 96, 3) := by decide +kernel
theorem d_A_spare_10 : decode c_A_spare 10 = .ok (.i2l, 1) := by decide +kernel
theorem d_A_spare_11 : decode c_A_spare 11 = .ok (.lastore, 1) := by decide +kernel
theorem d_A_spare_12 : decode c_A_spare 12 = .ok (.goto 15, 3) := by decide +kernel
theorem d_A_spare_15 : decode c_A_spare 15 = .ok (.astore 5, 2) := by decide +kernel
theorem d_A_spare_17 : decode c_A_spare 17 = .ok (.iconst 1, 1) := by decide +kernel
theorem d_A_spare_18 : decode c_A_spare 18 = .ok (.ireturn, 1) := by decide +kernel
theorem d_A_spare_19 : decode c_A_spare 19 = .ok (.astore 5, 2) := by decide +kernel
theorem d_A_spare_21 : decode c_A_spare 21 = .ok (.iconst 2, 1) := by decide +kernel
theorem d_A_spare_22 : decode c_A_spare 22 = .ok (.ireturn, 1) := by decide +kernel
theorem d_A_spare_23 : decode c_A_spare 23 = .ok (.astore 5, 2) := by decide +kernel
theorem d_A_spare_25 : decode c_A_spare 25 = .ok (.iconst 3, 1) := by decide +kernel
theorem d_A_spare_26 : decode c_A_spare 26 = .ok (.ireturn, 1) := by decide +kernel
theorem d_A_spare_27 : decode c_A_spare 27 = .ok (.iconst 0, 1) := by decide +kernel
theorem d_A_spare_28 : decode c_A_spare 28 = .ok (.ireturn, 1) := by decide +kernel
theorem d_A_stages_0 : decode c_A_stages 0 = .ok (.aload_n 3, 1) := by decide +kernel
theorem d_A_stages_1 : decode c_A_stages 1 = .ok (.iconst 0, 1) := by decide +kernel
theorem d_A_stages_2 : decode c_A_stages 2 = .ok (.aload_n 0, 1) := by decide +kernel
theorem d_A_stages_3 : decode c_A_stages 3 = .ok (.iload_n 1, 1) := by decide +kernel
theorem d_A_stages_4 : decode c_A_stages 4 = .ok (.iload_n 2, 1) := by decide +kernel
theorem d_A_stages_5 : decode c_A_stages 5 = .ok (.invokevirtual 99, 3) := by decide +kernel
theorem d_A_stages_8 : decode c_A_stages 8 = .ok (.i2l, 1) := by decide +kernel
theorem d_A_stages_9 : decode c_A_stages 9 = .ok (.lastore, 1) := by decide +kernel
theorem d_A_stages_10 : decode c_A_stages 10 = .ok (.goto 15, 3) := by decide +kernel
theorem d_A_stages_13 : decode c_A_stages 13 = .ok (.astore 4, 2) := by decide +kernel
theorem d_A_stages_15 : decode c_A_stages 15 = .ok (.iconst 1, 1) := by decide +kernel
theorem d_A_stages_16 : decode c_A_stages 16 = .ok (.ireturn, 1) := by decide +kernel
theorem d_A_stages_17 : decode c_A_stages 17 = .ok (.astore 4, 2) := by decide +kernel
theorem d_A_stages_19 : decode c_A_stages 19 = .ok (.iconst 2, 1) := by decide +kernel
theorem d_A_stages_20 : decode c_A_stages 20 = .ok (.ireturn, 1) := by decide +kernel
theorem d_A_stages_21 : decode c_A_stages 21 = .ok (.astore 4, 2) := by decide +kernel
theorem d_A_stages_23 : decode c_A_stages 23 = .ok (.iconst 3, 1) := by decide +kernel
theorem d_A_stages_24 : decode c_A_stages 24 = .ok (.ireturn, 1) := by decide +kernel
theorem d_A_stages_25 : decode c_A_stages 25 = .ok (.iconst 0, 1) := by decide +kernel
theorem d_A_stages_26 : decode c_A_stages 26 = .ok (.ireturn, 1) := by decide +kernel
theorem d_A_common_0 : decode c_A_common 0 = .ok (.aload_n 3, 1) := by decide +kernel
theorem d_A_common_1 : decode c_A_common 1 = .ok (.iconst 0, 1) := by decide +kernel
theorem d_A_common_2 : decode c_A_common 2 = .ok (.aload_n 0, 1) := by decide +kernel
theorem d_A_common_3 : decode c_A_common 3 = .ok (.iload_n 1, 1) := by decide +kernel
theorem d_A_common_4 : decode c_A_common 4 = .ok (.iload_n 2, 1) := by decide +kernel
theorem d_A_common_5 : decode c_A_common 5 = .ok (.invokevirtual 102, 3) := by decide +kernel
theorem d_A_common_8 : decode c_A_common 8 = .ok (.i2l, 1) := by decide +kernel
theorem d_A_common_9 : decode c_A_common 9 = .ok (.lastore, 1) := by decide +kernel
theorem d_A_common_10 : decode c_A_common 10 = .ok (.goto 15, 3) := by decide +kernel
theorem d_A_common_13 : decode c_A_common 13 = .ok (.astore 4, 2) := by decide +kernel
theorem d_A_common_15 : decode c_A_common 15 = .ok (.iconst 1, 1) := by decide +kernel
theorem d_A_common_16 : decode c_A_common 16 = .ok (.ireturn, 1) := by decide +kernel
theorem d_A_common_17 : decode c_A_common 17 = .ok (.astore 4, 2) := by decide +kernel
theorem d_A_common_19 : decode c_A_common 19 = .ok (.iconst 2, 1) := by decide +kernel
theorem d_A_common_20 : decode c_A_common 20 = .ok (.ireturn, 1) := by decide +kernel
theorem d_A_common_21 : decode c_A_common 21 = .ok (.astore 4, 2) := by decide +kernel
theorem d_A_common_23 : decode c_A_common 23 = .ok (.iconst 3, 1) := by decide +kernel
theorem d_A_common_24 : decode c_A_common 24 = .ok (.ireturn, 1) := by decide +kernel
theorem d_A_common_25 : decode c_A_common 25 = .ok (.iconst 0, 1) := by decide +kernel
theorem d_A_common_26 : decode c_A_common 26 = .ok (.ireturn, 1) := by decide +kernel
theorem d_A_law_0 : decode c_A_law 0 = .ok (.new 8, 3) := by decide +kernel
theorem d_A_law_3 : decode c_A_law 3 = .ok (.dup, 1) := by decide +kernel
theorem d_A_law_4 : decode c_A_law 4 = .ok (.invokespecial 105, 3) := by decide +kernel
theorem d_A_law_7 : decode c_A_law 7 = .ok (.astore_n 1, 1) := by decide +kernel
theorem d_A_law_8 : decode c_A_law 8 = .ok (.new 106, 3) := by decide +kernel
theorem d_A_law_11 : decode c_A_law 11 = .ok (.dup, 1) := by decide +kernel
theorem d_A_law_12 : decode c_A_law 12 = .ok (.invokespecial 108, 3) := by decide +kernel
theorem d_A_law_15 : decode c_A_law 15 = .ok (.astore_n 2, 1) := by decide +kernel
theorem d_A_law_16 : decode c_A_law 16 = .ok (.iconst 1, 1) := by decide +kernel
theorem d_A_law_17 : decode c_A_law 17 = .ok (.newarray .long, 2) := by decide +kernel
theorem d_A_law_19 : decode c_A_law 19 = .ok (.astore_n 3, 1) := by decide +kernel
theorem d_A_law_20 : decode c_A_law 20 = .ok (.iconst 0, 1) := by decide +kernel
theorem d_A_law_21 : decode c_A_law 21 = .ok (.istore 4, 2) := by decide +kernel
theorem d_A_law_23 : decode c_A_law 23 = .ok (.iload 4, 2) := by decide +kernel
theorem d_A_law_25 : decode c_A_law 25 = .ok (.aload_n 0, 1) := by decide +kernel
theorem d_A_law_26 : decode c_A_law 26 = .ok (.arraylength, 1) := by decide +kernel
theorem d_A_law_27 : decode c_A_law 27 = .ok (.bipush 6, 2) := by decide +kernel
theorem d_A_law_29 : decode c_A_law 29 = .ok (.isub, 1) := by decide +kernel
theorem d_A_law_30 : decode c_A_law 30 = .ok (.if_icmp .gt 2211, 3) := by decide +kernel
theorem d_A_law_33 : decode c_A_law 33 = .ok (.aload_n 0, 1) := by decide +kernel
theorem d_A_law_34 : decode c_A_law 34 = .ok (.iload 4, 2) := by decide +kernel
theorem d_A_law_36 : decode c_A_law 36 = .ok (.iaload, 1) := by decide +kernel
theorem d_A_law_37 : decode c_A_law 37 = .ok (.bipush 63, 2) := by decide +kernel
theorem d_A_law_39 : decode c_A_law 39 = .ok (.iand, 1) := by decide +kernel
theorem d_A_law_40 : decode c_A_law 40 = .ok (.tableswitch 2195 0 32 #[148, 221, 246, 290, 303, 371, 427, 495, 563, 654, 734, 790, 858, 902, 982, 1074, 1130, 1198, 1266, 1346, 1438, 1482, 1550, 1646, 1714, 1782, 1850, 1930, 2010, 2078, 2146, 2157, 2170], 148) := by decide +kernel
theorem d_A_law_188 : decode c_A_law 188 = .ok (.aload_n 1, 1) := by decide +kernel
theorem d_A_law_189 : decode c_A_law 189 = .ok (.aload_n 0, 1) := by decide +kernel
theorem d_A_law_190 : decode c_A_law 190 = .ok (.iload 4, 2) := by decide +kernel
theorem d_A_law_192 : decode c_A_law 192 = .ok (.iconst 1, 1) := by decide +kernel
theorem d_A_law_193 : decode c_A_law 193 = .ok (.iadd, 1) := by decide +kernel
theorem d_A_law_194 : decode c_A_law 194 = .ok (.iaload, 1) := by decide +kernel
theorem d_A_law_195 : decode c_A_law 195 = .ok (.aload_n 0, 1) := by decide +kernel
theorem d_A_law_196 : decode c_A_law 196 = .ok (.iload 4, 2) := by decide +kernel
theorem d_A_law_198 : decode c_A_law 198 = .ok (.iconst 2, 1) := by decide +kernel
theorem d_A_law_199 : decode c_A_law 199 = .ok (.iadd, 1) := by decide +kernel
theorem d_A_law_200 : decode c_A_law 200 = .ok (.iaload, 1) := by decide +kernel
theorem d_A_law_201 : decode c_A_law 201 = .ok (.aload_n 0, 1) := by decide +kernel
theorem d_A_law_202 : decode c_A_law 202 = .ok (.iload 4, 2) := by decide +kernel
theorem d_A_law_204 : decode c_A_law 204 = .ok (.iconst 3, 1) := by decide +kernel
theorem d_A_law_205 : decode c_A_law 205 = .ok (.iadd, 1) := by decide +kernel
theorem d_A_law_206 : decode c_A_law 206 = .ok (.iaload, 1) := by decide +kernel
theorem d_A_law_207 : decode c_A_law 207 = .ok (.aload_n 0, 1) := by decide +kernel
theorem d_A_law_208 : decode c_A_law 208 = .ok (.iload 4, 2) := by decide +kernel
theorem d_A_law_210 : decode c_A_law 210 = .ok (.iconst 4, 1) := by decide +kernel
theorem d_A_law_211 : decode c_A_law 211 = .ok (.iadd, 1) := by decide +kernel
theorem d_A_law_212 : decode c_A_law 212 = .ok (.iaload, 1) := by decide +kernel
theorem d_A_law_213 : decode c_A_law 213 = .ok (.aload_n 0, 1) := by decide +kernel
theorem d_A_law_214 : decode c_A_law 214 = .ok (.iload 4, 2) := by decide +kernel
theorem d_A_law_216 : decode c_A_law 216 = .ok (.iconst 5, 1) := by decide +kernel
theorem d_A_law_217 : decode c_A_law 217 = .ok (.iadd, 1) := by decide +kernel
theorem d_A_law_218 : decode c_A_law 218 = .ok (.iaload, 1) := by decide +kernel
theorem d_A_law_219 : decode c_A_law 219 = .ok (.invokevirtual 109, 3) := by decide +kernel
theorem d_A_law_222 : decode c_A_law 222 = .ok (.aload_n 2, 1) := by decide +kernel
theorem d_A_law_223 : decode c_A_law 223 = .ok (.aload_n 0, 1) := by decide +kernel
theorem d_A_law_224 : decode c_A_law 224 = .ok (.iload 4, 2) := by decide +kernel
theorem d_A_law_226 : decode c_A_law 226 = .ok (.iconst 1, 1) := by decide +kernel
theorem d_A_law_227 : decode c_A_law 227 = .ok (.iadd, 1) := by decide +kernel
theorem d_A_law_228 : decode c_A_law 228 = .ok (.iaload, 1) := by decide +kernel
theorem d_A_law_229 : decode c_A_law 229 = .ok (.aload_n 0, 1) := by decide +kernel
theorem d_A_law_230 : decode c_A_law 230 = .ok (.iload 4, 2) := by decide +kernel
theorem d_A_law_232 : decode c_A_law 232 = .ok (.iconst 2, 1) := by decide +kernel
theorem d_A_law_233 : decode c_A_law 233 = .ok (.iadd, 1) := by decide +kernel
theorem d_A_law_234 : decode c_A_law 234 = .ok (.iaload, 1) := by decide +kernel
theorem d_A_law_235 : decode c_A_law 235 = .ok (.aload_n 0, 1) := by decide +kernel
theorem d_A_law_236 : decode c_A_law 236 = .ok (.iload 4, 2) := by decide +kernel
theorem d_A_law_238 : decode c_A_law 238 = .ok (.iconst 3, 1) := by decide +kernel
theorem d_A_law_239 : decode c_A_law 239 = .ok (.iadd, 1) := by decide +kernel
theorem d_A_law_240 : decode c_A_law 240 = .ok (.iaload, 1) := by decide +kernel
theorem d_A_law_241 : decode c_A_law 241 = .ok (.aload_n 0, 1) := by decide +kernel
theorem d_A_law_242 : decode c_A_law 242 = .ok (.iload 4, 2) := by decide +kernel
theorem d_A_law_244 : decode c_A_law 244 = .ok (.iconst 4, 1) := by decide +kernel
theorem d_A_law_245 : decode c_A_law 245 = .ok (.iadd, 1) := by decide +kernel
theorem d_A_law_246 : decode c_A_law 246 = .ok (.iaload, 1) := by decide +kernel
theorem d_A_law_247 : decode c_A_law 247 = .ok (.aload_n 0, 1) := by decide +kernel
theorem d_A_law_248 : decode c_A_law 248 = .ok (.iload 4, 2) := by decide +kernel
theorem d_A_law_250 : decode c_A_law 250 = .ok (.iconst 5, 1) := by decide +kernel
theorem d_A_law_251 : decode c_A_law 251 = .ok (.iadd, 1) := by decide +kernel
theorem d_A_law_252 : decode c_A_law 252 = .ok (.iaload, 1) := by decide +kernel
theorem d_A_law_253 : decode c_A_law 253 = .ok (.invokevirtual 113, 3) := by decide +kernel
theorem d_A_law_256 : decode c_A_law 256 = .ok (.if_icmp .eq 1979, 3) := by decide +kernel
theorem d_A_law_259 : decode c_A_law 259 = .ok (.iconst 0, 1) := by decide +kernel
theorem d_A_law_260 : decode c_A_law 260 = .ok (.ireturn, 1) := by decide +kernel
theorem d_A_law_261 : decode c_A_law 261 = .ok (.aload_n 1, 1) := by decide +kernel
theorem d_A_law_262 : decode c_A_law 262 = .ok (.aload_n 0, 1) := by decide +kernel
theorem d_A_law_263 : decode c_A_law 263 = .ok (.iload 4, 2) := by decide +kernel
theorem d_A_law_265 : decode c_A_law 265 = .ok (.iconst 1, 1) := by decide +kernel
theorem d_A_law_266 : decode c_A_law 266 = .ok (.iadd, 1) := by decide +kernel
theorem d_A_law_267 : decode c_A_law 267 = .ok (.iaload, 1) := by decide +kernel
theorem d_A_law_268 : decode c_A_law 268 = .ok (.invokevirtual 114, 3) := by decide +kernel
theorem d_A_law_271 : decode c_A_law 271 = .ok (.aload_n 2, 1) := by decide +kernel
theorem d_A_law_272 : decode c_A_law 272 = .ok (.aload_n 0, 1) := by decide +kernel
theorem d_A_law_273 : decode c_A_law 273 = .ok (.iload 4, 2) := by decide +kernel
theorem d_A_law_275 : decode c_A_law 275 = .ok (.iconst 1, 1) := by decide +kernel
theorem d_A_law_276 : decode c_A_law 276 = .ok (.iadd, 1) := by decide +kernel
theorem d_A_law_277 : decode c_A_law 277 = .ok (.iaload, 1) := by decide +kernel
theorem d_A_law_278 : decode c_A_law 278 = .ok (.invokevirtual 118, 3) := by decide +kernel
theorem d_A_law_281 : decode c_A_law 281 = .ok (.if_icmp .eq 1954, 3) := by decide +kernel
theorem d_A_law_284 : decode c_A_law 284 = .ok (.iconst 0, 1) := by decide +kernel
theorem d_A_law_285 : decode c_A_law 285 = .ok (.ireturn, 1) := by decide +kernel
theorem d_A_law_286 : decode c_A_law 286 = .ok (.aload_n 1, 1) := by decide +kernel
theorem d_A_law_287 : decode c_A_law 287 = .ok (.aload_n 3, 1) := by decide +kernel
theorem d_A_law_288 : decode c_A_law 288 = .ok (.invokestatic 119, 3) := by decide +kernel
theorem d_A_law_291 : decode c_A_law 291 = .ok (.istore 5, 2) := by decide +kernel
theorem d_A_law_293 : decode c_A_law 293 = .ok (.aload_n 2, 1) := by decide +kernel
theorem d_A_law_294 : decode c_A_law 294 = .ok (.invokevirtual 124, 3) := by decide +kernel
theorem d_A_law_297 : decode c_A_law 297 = .ok (.istore 6, 2) := by decide +kernel
theorem d_A_law_299 : decode c_A_law 299 = .ok (.aload_n 2, 1) := by decide +kernel
theorem d_A_law_300 : decode c_A_law 300 = .ok (.invokevirtual 125, 3) := by decide +kernel
theorem d_A_law_303 : decode c_A_law 303 = .ok (.iload 5, 2) := by decide +kernel
theorem d_A_law_305 : decode c_A_law 305 = .ok (.if_icmp .eq 5, 3) := by decide +kernel
theorem d_A_law_308 : decode c_A_law 308 = .ok (.iconst 0, 1) := by decide +kernel
theorem d_A_law_309 : decode c_A_law 309 = .ok (.ireturn, 1) := by decide +kernel
theorem d_A_law_310 : decode c_A_law 310 = .ok (.iload 5, 2) := by decide +kernel
theorem d_A_law_312 : decode c_A_law 312 = .ok (.ifCond .ne 15, 3) := by decide +kernel
theorem d_A_law_315 : decode c_A_law 315 = .ok (.aload_n 3, 1) := by decide +kernel
theorem d_A_law_316 : decode c_A_law 316 = .ok (.iconst 0, 1) := by decide +kernel
theorem d_A_law_317 : decode c_A_law 317 = .ok (.laload, 1) := by decide +kernel
theorem d_A_law_318 : decode c_A_law 318 = .ok (.iload 6, 2) := by decide +kernel
theorem d_A_law_320 : decode c_A_law 320 = .ok (.i2l, 1) := by decide +kernel
theorem d_A_law_321 : decode c_A_law 321 = .ok (.lcmp, 1) := by decide +kernel
theorem d_A_law_322 : decode c_A_law 322 = .ok (.ifCond .eq 5, 3) := by decide +kernel
theorem d_A_law_325 : decode c_A_law 325 = .ok (.iconst 0, 1) := by decide +kernel
theorem d_A_law_326 : decode c_A_law 326 = .ok (.ireturn, 1) := by decide +kernel
theorem d_A_law_327 : decode c_A_law 327 = .ok (.goto 1908, 3) := by decide +kernel
theorem d_A_law_330 : decode c_A_law 330 = .ok (.aload_n 1, 1) := by decide +kernel
theorem d_A_law_331 : decode c_A_law 331 = .ok (.invokevirtual 128, 3) := by decide +kernel
theorem d_A_law_334 : decode c_A_law 334 = .ok (.aload_n 2, 1) := by decide +kernel
theorem d_A_law_335 : decode c_A_law 335 = .ok (.invokevirtual 131, 3) := by decide +kernel
theorem d_A_law_338 : decode c_A_law 338 = .ok (.if_icmp .eq 1897, 3) := by decide +kernel
theorem d_A_law_341 : decode c_A_law 341 = .ok (.iconst 0, 1) := by decide +kernel
theorem d_A_law_342 : decode c_A_law 342 = .ok (.ireturn, 1) := by decide +kernel
theorem d_A_law_343 : decode c_A_law 343 = .ok (.aload_n 1, 1) := by decide +kernel
theorem d_A_law_344 : decode c_A_law 344 = .ok (.aload_n 0, 1) := by decide +kernel
theorem d_A_law_345 : decode c_A_law 345 = .ok (.iload 4, 2) := by decide +kernel
theorem d_A_law_347 : decode c_A_law 347 = .ok (.iconst 1, 1) := by decide +kernel
theorem d_A_law_348 : decode c_A_law 348 = .ok (.iadd, 1) := by decide +kernel
theorem d_A_law_349 : decode c_A_law 349 = .ok (.iaload, 1) := by decide +kernel
theorem d_A_law_350 : decode c_A_law 350 = .ok (.aload_n 0, 1) := by decide +kernel
theorem d_A_law_351 : decode c_A_law 351 = .ok (.iload 4, 2) := by decide +kernel
theorem d_A_law_353 : decode c_A_law 353 = .ok (.iconst 2, 1) := by decide +kernel
theorem d_A_law_354 : decode c_A_law 354 = .ok (.iadd, 1) := by decide +kernel
theorem d_A_law_355 : decode c_A_law 355 = .ok (.iaload, 1) := by decide +kernel
theorem d_A_law_356 : decode c_A_law 356 = .ok (.aload_n 3, 1) := by decide +kernel
theorem d_A_law_357 : decode c_A_law 357 = .ok (.invokestatic 132, 3) := by decide +kernel
theorem d_A_law_360 : decode c_A_law 360 = .ok (.istore 5, 2) := by decide +kernel
theorem d_A_law_362 : decode c_A_law 362 = .ok (.aload_n 2, 1) := by decide +kernel
theorem d_A_law_363 : decode c_A_law 363 = .ok (.aload_n 0, 1) := by decide +kernel
theorem d_A_law_364 : decode c_A_law 364 = .ok (.iload 4, 2) := by decide +kernel
theorem d_A_law_366 : decode c_A_law 366 = .ok (.iconst 1, 1) := by decide +kernel
theorem d_A_law_367 : decode c_A_law 367 = .ok (.iadd, 1) := by decide +kernel
theorem d_A_law_368 : decode c_A_law 368 = .ok (.iaload, 1) := by decide +kernel
theorem d_A_law_369 : decode c_A_law 369 = .ok (.aload_n 0, 1) := by decide +kernel
theorem d_A_law_370 : decode c_A_law 370 = .ok (.iload 4, 2) := by decide +kernel
theorem d_A_law_372 : decode c_A_law 372 = .ok (.iconst 2, 1) := by decide +kernel
theorem d_A_law_373 : decode c_A_law 373 = .ok (.iadd, 1) := by decide +kernel
theorem d_A_law_374 : decode c_A_law 374 = .ok (.iaload, 1) := by decide +kernel
theorem d_A_law_375 : decode c_A_law 375 = .ok (.invokevirtual 135, 3) := by decide +kernel
theorem d_A_law_378 : decode c_A_law 378 = .ok (.istore 6, 2) := by decide +kernel
theorem d_A_law_380 : decode c_A_law 380 = .ok (.aload_n 2, 1) := by decide +kernel
theorem d_A_law_381 : decode c_A_law 381 = .ok (.invokevirtual 125, 3) := by decide +kernel
theorem d_A_law_384 : decode c_A_law 384 = .ok (.iload 5, 2) := by decide +kernel
theorem d_A_law_386 : decode c_A_law 386 = .ok (.if_icmp .eq 5, 3) := by decide +kernel
theorem d_A_law_389 : decode c_A_law 389 = .ok (.iconst 0, 1) := by decide +kernel
theorem d_A_law_390 : decode c_A_law 390 = .ok (.ireturn, 1) := by decide +kernel
theorem d_A_law_391 : decode c_A_law 391 = .ok (.iload 5, 2) := by decide +kernel
theorem d_A_law_393 : decode c_A_law 393 = .ok (.ifCond .ne 15, 3) := by decide +kernel
theorem d_A_law_396 : decode c_A_law 396 = .ok (.aload_n 3, 1) := by decide +kernel
theorem d_A_law_397 : decode c_A_law 397 = .ok (.iconst 0, 1) := by decide +kernel
theorem d_A_law_398 : decode c_A_law 398 = .ok (.laload, 1) := by decide +kernel
theorem d_A_law_399 : decode c_A_law 399 = .ok (.iload 6, 2) := by decide +kernel
theorem d_A_law_401 : decode c_A_law 401 = .ok (.i2l, 1) := by decide +kernel
theorem d_A_law_402 : decode c_A_law 402 = .ok (.lcmp, 1) := by decide +kernel
theorem d_A_law_403 : decode c_A_law 403 = .ok (.ifCond .eq 5, 3) := by decide +kernel
theorem d_A_law_406 : decode c_A_law 406 = .ok (.iconst 0, 1) := by decide +kernel
theorem d_A_law_407 : decode c_A_law 407 = .ok (.ireturn, 1) := by decide +kernel
theorem d_A_law_408 : decode c_A_law 408 = .ok (.goto 1827, 3) := by decide +kernel
theorem d_A_law_411 : decode c_A_law 411 = .ok (.aload_n 1, 1) := by decide +kernel
theorem d_A_law_412 : decode c_A_law 412 = .ok (.aload_n 0, 1) := by decide +kernel
theorem d_A_law_413 : decode c_A_law 413 = .ok (.iload 4, 2) := by decide +kernel
theorem d_A_law_415 : decode c_A_law 415 = .ok (.iconst 1, 1) := by decide +kernel
theorem d_A_law_416 : decode c_A_law 416 = .ok (.iadd, 1) := by decide +kernel
theorem d_A_law_417 : decode c_A_law 417 = .ok (.iaload, 1) := by decide +kernel
theorem d_A_law_418 : decode c_A_law 418 = .ok (.aload_n 3, 1) := by decide +kernel
theorem d_A_law_419 : decode c_A_law 419 = .ok (.invokestatic 136, 3) := by decide +kernel
theorem d_A_law_422 : decode c_A_law 422 = .ok (.istore 5, 2) := by decide +kernel
theorem d_A_law_424 : decode c_A_law 424 = .ok (.aload_n 2, 1) := by decide +kernel
theorem d_A_law_425 : decode c_A_law 425 = .ok (.aload_n 0, 1) := by decide +kernel
theorem d_A_law_426 : decode c_A_law 426 = .ok (.iload 4, 2) := by decide +kernel
theorem d_A_law_428 : decode c_A_law 428 = .ok (.iconst 1, 1) := by decide +kernel
theorem d_A_law_429 : decode c_A_law 429 = .ok (.iadd, 1) := by decide +kernel
theorem d_A_law_430 : decode c_A_law 430 = .ok (.iaload, 1) := by decide +kernel
theorem d_A_law_431 : decode c_A_law 431 = .ok (.invokevirtual 139, 3) := by decide +kernel
theorem d_A_law_434 : decode c_A_law 434 = .ok (.istore 6, 2) := by decide +kernel
theorem d_A_law_436 : decode c_A_law 436 = .ok (.aload_n 2, 1) := by decide +kernel
theorem d_A_law_437 : decode c_A_law 437 = .ok (.invokevirtual 125, 3) := by decide +kernel
theorem d_A_law_440 : decode c_A_law 440 = .ok (.iload 5, 2) := by decide +kernel
theorem d_A_law_442 : decode c_A_law 442 = .ok (.if_icmp .eq 5, 3) := by decide +kernel
theorem d_A_law_445 : decode c_A_law 445 = .ok (.iconst 0, 1) := by decide +kernel
theorem d_A_law_446 : decode c_A_law 446 = .ok (.ireturn, 1) := by decide +kernel
theorem d_A_law_447 : decode c_A_law 447 = .ok (.iload 5, 2) := by decide +kernel
theorem d_A_law_449 : decode c_A_law 449 = .ok (.ifCond .ne 15, 3) := by decide +kernel
theorem d_A_law_452 : decode c_A_law 452 = .ok (.aload_n 3, 1) := by decide +kernel
theorem d_A_law_453 : decode c_A_law 453 = .ok (.iconst 0, 1) := by decide +kernel
theorem d_A_law_454 : decode c_A_law 454 = .ok (.laload, 1) := by decide +kernel
theorem d_A_law_455 : decode c_A_law 455 = .ok (.iload 6, 2) := by decide +kernel
theorem d_A_law_457 : decode c_A_law 457 = .ok (.i2l, 1) := by decide +kernel
theorem d_A_law_458 : decode c_A_law 458 = .ok (.lcmp, 1) := by decide +kernel
theorem d_A_law_459 : decode c_A_law 459 = .ok (.ifCond .eq 5, 3) := by decide +kernel
theorem d_A_law_462 : decode c_A_law 462 = .ok (.iconst 0, 1) := by decide +kernel
theorem d_A_law_463 : decode c_A_law 463 = .ok (.ireturn, 1) := by decide +kernel
theorem d_A_law_464 : decode c_A_law 464 = .ok (.goto 1771, 3) := by decide +kernel
theorem d_A_law_467 : decode c_A_law 467 = .ok (.aload_n 1, 1) := by decide +kernel
theorem d_A_law_468 : decode c_A_law 468 = .ok (.aload_n 0, 1) := by decide +kernel
theorem d_A_law_469 : decode c_A_law 469 = .ok (.iload 4, 2) := by decide +kernel
theorem d_A_law_471 : decode c_A_law 471 = .ok (.iconst 1, 1) := by decide +kernel
theorem d_A_law_472 : decode c_A_law 472 = .ok (.iadd, 1) := by decide +kernel
theorem d_A_law_473 : decode c_A_law 473 = .ok (.iaload, 1) := by decide +kernel
theorem d_A_law_474 : decode c_A_law 474 = .ok (.aload_n 0, 1) := by decide +kernel
theorem d_A_law_475 : decode c_A_law 475 = .ok (.iload 4, 2) := by decide +kernel
theorem d_A_law_477 : decode c_A_law 477 = .ok (.iconst 2, 1) := by decide +kernel
theorem d_A_law_478 : decode c_A_law 478 = .ok (.iadd, 1) := by decide +kernel
theorem d_A_law_479 : decode c_A_law 479 = .ok (.iaload, 1) := by decide +kernel
theorem d_A_law_480 : decode c_A_law 480 = .ok (.aload_n 3, 1) := by decide +kernel
theorem d_A_law_481 : decode c_A_law 481 = .ok (.invokestatic 140, 3) := by decide +kernel
theorem d_A_law_484 : decode c_A_law 484 = .ok (.istore 5, 2) := by decide +kernel
theorem d_A_law_486 : decode c_A_law 486 = .ok (.aload_n 2, 1) := by decide +kernel
theorem d_A_law_487 : decode c_A_law 487 = .ok (.aload_n 0, 1) := by decide +kernel
theorem d_A_law_488 : decode c_A_law 488 = .ok (.iload 4, 2) := by decide +kernel
theorem d_A_law_490 : decode c_A_law 490 = .ok (.iconst 1, 1) := by decide +kernel
theorem d_A_law_491 : decode c_A_law 491 = .ok (.iadd, 1) := by decide +kernel
theorem d_A_law_492 : decode c_A_law 492 = .ok (.iaload, 1) := by decide +kernel
theorem d_A_law_493 : decode c_A_law 493 = .ok (.aload_n 0, 1) := by decide +kernel
theorem d_A_law_494 : decode c_A_law 494 = .ok (.iload 4, 2) := by decide +kernel
theorem d_A_law_496 : decode c_A_law 496 = .ok (.iconst 2, 1) := by decide +kernel
theorem d_A_law_497 : decode c_A_law 497 = .ok (.iadd, 1) := by decide +kernel
theorem d_A_law_498 : decode c_A_law 498 = .ok (.iaload, 1) := by decide +kernel
theorem d_A_law_499 : decode c_A_law 499 = .ok (.invokevirtual 142, 3) := by decide +kernel
theorem d_A_law_502 : decode c_A_law 502 = .ok (.istore 6, 2) := by decide +kernel
theorem d_A_law_504 : decode c_A_law 504 = .ok (.aload_n 2, 1) := by decide +kernel
theorem d_A_law_505 : decode c_A_law 505 = .ok (.invokevirtual 125, 3) := by decide +kernel
theorem d_A_law_508 : decode c_A_law 508 = .ok (.iload 5, 2) := by decide +kernel
theorem d_A_law_510 : decode c_A_law 510 = .ok (.if_icmp .eq 5, 3) := by decide +kernel
theorem d_A_law_513 : decode c_A_law 513 = .ok (.iconst 0, 1) := by decide +kernel
theorem d_A_law_514 : decode c_A_law 514 = .ok (.ireturn, 1) := by decide +kernel
theorem d_A_law_515 : decode c_A_law 515 = .ok (.iload 5, 2) := by decide +kernel
theorem d_A_law_517 : decode c_A_law 517 = .ok (.ifCond .ne 15, 3) := by decide +kernel
theorem d_A_law_520 : decode c_A_law 520 = .ok (.aload_n 3, 1) := by decide +kernel
theorem d_A_law_521 : decode c_A_law 521 = .ok (.iconst 0, 1) := by decide +kernel
theorem d_A_law_522 : decode c_A_law 522 = .ok (.laload, 1) := by decide +kernel
theorem d_A_law_523 : decode c_A_law 523 = .ok (.iload 6, 2) := by decide +kernel
theorem d_A_law_525 : decode c_A_law 525 = .ok (.i2l, 1) := by decide +kernel
theorem d_A_law_526 : decode c_A_law 526 = .ok (.lcmp, 1) := by decide +kernel
theorem d_A_law_527 : decode c_A_law 527 = .ok (.ifCond .eq 5, 3) := by decide +kernel
theorem d_A_law_530 : decode c_A_law 530 = .ok (.iconst 0, 1) := by decide +kernel
theorem d_A_law_531 : decode c_A_law 531 = .ok (.ireturn, 1) := by decide +kernel
theorem d_A_law_532 : decode c_A_law 532 = .ok (.goto 1703, 3) := by decide +kernel
theorem d_A_law_535 : decode c_A_law 535 = .ok (.aload_n 1, 1) := by decide +kernel
theorem d_A_law_536 : decode c_A_law 536 = .ok (.aload_n 0, 1) := by decide +kernel
theorem d_A_law_537 : decode c_A_law 537 = .ok (.iload 4, 2) := by decide +kernel
theorem d_A_law_539 : decode c_A_law 539 = .ok (.iconst 1, 1) := by decide +kernel
theorem d_A_law_540 : decode c_A_law 540 = .ok (.iadd, 1) := by decide +kernel
theorem d_A_law_541 : decode c_A_law 541 = .ok (.iaload, 1) := by decide +kernel
theorem d_A_law_542 : decode c_A_law 542 = .ok (.aload_n 0, 1) := by decide +kernel
theorem d_A_law_543 : decode c_A_law 543 = .ok (.iload 4, 2) := by decide +kernel
theorem d_A_law_545 : decode c_A_law 545 = .ok (.iconst 2, 1) := by decide +kernel
theorem d_A_law_546 : decode c_A_law 546 = .ok (.iadd, 1) := by decide +kernel
theorem d_A_law_547 : decode c_A_law 547 = .ok (.iaload, 1) := by decide +kernel
theorem d_A_law_548 : decode c_A_law 548 = .ok (.aload_n 3, 1) := by decide +kernel
theorem d_A_law_549 : decode c_A_law 549 = .ok (.invokestatic 143, 3) := by decide +kernel
theorem d_A_law_552 : decode c_A_law 552 = .ok (.istore 5, 2) := by decide +kernel
theorem d_A_law_554 : decode c_A_law 554 = .ok (.aload_n 2, 1) := by decide +kernel
theorem d_A_law_555 : decode c_A_law 555 = .ok (.aload_n 0, 1) := by decide +kernel
theorem d_A_law_556 : decode c_A_law 556 = .ok (.iload 4, 2) := by decide +kernel
theorem d_A_law_558 : decode c_A_law 558 = .ok (.iconst 1, 1) := by decide +kernel
theorem d_A_law_559 : decode c_A_law 559 = .ok (.iadd, 1) := by decide +kernel
theorem d_A_law_560 : decode c_A_law 560 = .ok (.iaload, 1) := by decide +kernel
theorem d_A_law_561 : decode c_A_law 561 = .ok (.aload_n 0, 1) := by decide +kernel
theorem d_A_law_562 : decode c_A_law 562 = .ok (.iload 4, 2) := by decide +kernel
theorem d_A_law_564 : decode c_A_law 564 = .ok (.iconst 2, 1) := by decide +kernel
theorem d_A_law_565 : decode c_A_law 565 = .ok (.iadd, 1) := by decide +kernel
theorem d_A_law_566 : decode c_A_law 566 = .ok (.iaload, 1) := by decide +kernel
theorem d_A_law_567 : decode c_A_law 567 = .ok (.invokevirtual 145, 3) := by decide +kernel
theorem d_A_law_570 : decode c_A_law 570 = .ok (.istore 6, 2) := by decide +kernel
theorem d_A_law_572 : decode c_A_law 572 = .ok (.aload_n 2, 1) := by decide +kernel
theorem d_A_law_573 : decode c_A_law 573 = .ok (.invokevirtual 125, 3) := by decide +kernel
theorem d_A_law_576 : decode c_A_law 576 = .ok (.iload 5, 2) := by decide +kernel
theorem d_A_law_578 : decode c_A_law 578 = .ok (.if_icmp .eq 5, 3) := by decide +kernel
theorem d_A_law_581 : decode c_A_law 581 = .ok (.iconst 0, 1) := by decide +kernel
theorem d_A_law_582 : decode c_A_law 582 = .ok (.ireturn, 1) := by decide +kernel
theorem d_A_law_583 : decode c_A_law 583 = .ok (.iload 5, 2) := by decide +kernel
theorem d_A_law_585 : decode c_A_law 585 = .ok (.ifCond .ne 15, 3) := by decide +kernel
theorem d_A_law_588 : decode c_A_law 588 = .ok (.aload_n 3, 1) := by decide +kernel
theorem d_A_law_589 : decode c_A_law 589 = .ok (.iconst 0, 1) := by decide +kernel
theorem d_A_law_590 : decode c_A_law 590 = .ok (.laload, 1) := by decide +kernel
theorem d_A_law_591 : decode c_A_law 591 = .ok (.iload 6, 2) := by decide +kernel
theorem d_A_law_593 : decode c_A_law 593 = .ok (.i2l, 1) := by decide +kernel
theorem d_A_law_594 : decode c_A_law 594 = .ok (.lcmp, 1) := by decide +kernel
theorem d_A_law_595 : decode c_A_law 595 = .ok (.ifCond .eq 5, 3) := by decide +kernel
theorem d_A_law_598 : decode c_A_law 598 = .ok (.iconst 0, 1) := by decide +kernel
theorem d_A_law_599 : decode c_A_law 599 = .ok (.ireturn, 1) := by decide +kernel
theorem d_A_law_600 : decode c_A_law 600 = .ok (.goto 1635, 3) := by decide +kernel
theorem d_A_law_603 : decode c_A_law 603 = .ok (.aload_n 1, 1) := by decide +kernel
theorem d_A_law_604 : decode c_A_law 604 = .ok (.aload_n 0, 1) := by decide +kernel
theorem d_A_law_605 : decode c_A_law 605 = .ok (.iload 4, 2) := by decide +kernel
theorem d_A_law_607 : decode c_A_law 607 = .ok (.iconst 1, 1) := by decide +kernel
theorem d_A_law_608 : decode c_A_law 608 = .ok (.iadd, 1) := by decide +kernel
theorem d_A_law_609 : decode c_A_law 609 = .ok (.iaload, 1) := by decide +kernel
theorem d_A_law_610 : decode c_A_law 610 = .ok (.aload_n 0, 1) := by decide +kernel
theorem d_A_law_611 : decode c_A_law 611 = .ok (.iload 4, 2) := by decide +kernel
theorem d_A_law_613 : decode c_A_law 613 = .ok (.iconst 2, 1) := by decide +kernel
theorem d_A_law_614 : decode c_A_law 614 = .ok (.iadd, 1) := by decide +kernel
theorem d_A_law_615 : decode c_A_law 615 = .ok (.iaload, 1) := by decide +kernel
theorem d_A_law_616 : decode c_A_law 616 = .ok (.ifCond .eq 7, 3) := by decide +kernel
theorem d_A_law_619 : decode c_A_law 619 = .ok (.iconst 1, 1) := by decide +kernel
theorem d_A_law_620 : decode c_A_law 620 = .ok (.goto 4, 3) := by decide +kernel
theorem d_A_law_623 : decode c_A_law 623 = .ok (.iconst 0, 1) := by decide +kernel
theorem d_A_law_624 : decode c_A_law 624 = .ok (.aload_n 3, 1) := by decide +kernel
theorem d_A_law_625 : decode c_A_law 625 = .ok (.invokestatic 146, 3) := by decide +kernel
theorem d_A_law_628 : decode c_A_law 628 = .ok (.istore 5, 2) := by decide +kernel
theorem d_A_law_630 : decode c_A_law 630 = .ok (.aload_n 2, 1) := by decide +kernel
theorem d_A_law_631 : decode c_A_law 631 = .ok (.aload_n 0, 1) := by decide +kernel
theorem d_A_law_632 : decode c_A_law 632 = .ok (.iload 4, 2) := by decide +kernel
theorem d_A_law_634 : decode c_A_law 634 = .ok (.iconst 1, 1) := by decide +kernel
theorem d_A_law_635 : decode c_A_law 635 = .ok (.iadd, 1) := by decide +kernel
theorem d_A_law_636 : decode c_A_law 636 = .ok (.iaload, 1) := by decide +kernel
theorem d_A_law_637 : decode c_A_law 637 = .ok (.aload_n 0, 1) := by decide +kernel
theorem d_A_law_638 : decode c_A_law 638 = .ok (.iload 4, 2) := by decide +kernel
theorem d_A_law_640 : decode c_A_law 640 = .ok (.iconst 2, 1) := by decide +kernel
theorem d_A_law_641 : decode c_A_law 641 = .ok (.iadd, 1) := by decide +kernel
theorem d_A_law_642 : decode c_A_law 642 = .ok (.iaload, 1) := by decide +kernel
theorem d_A_law_643 : decode c_A_law 643 = .ok (.ifCond .eq 7, 3) := by decide +kernel
theorem d_A_law_646 : decode c_A_law 646 = .ok (.iconst 1, 1) := by decide +kernel
theorem d_A_law_647 : decode c_A_law 647 = .ok (.goto 4, 3) := by decide +kernel
theorem d_A_law_650 : decode c_A_law 650 = .ok (.iconst 0, 1) := by decide +kernel
theorem d_A_law_651 : decode c_A_law 651 = .ok (.invokevirtual 149, 3) := by decide +kernel
theorem d_A_law_654 : decode c_A_law 654 = .ok (.istore 6, 2) := by decide +kernel
theorem d_A_law_656 : decode c_A_law 656 = .ok (.aload_n 2, 1) := by decide +kernel
theorem d_A_law_657 : decode c_A_law 657 = .ok (.invokevirtual 125, 3) := by decide +kernel
theorem d_A_law_660 : decode c_A_law 660 = .ok (.iload 5, 2) := by decide +kernel
theorem d_A_law_662 : decode c_A_law 662 = .ok (.if_icmp .eq 5, 3) := by decide +kernel
theorem d_A_law_665 : decode c_A_law 665 = .ok (.iconst 0, 1) := by decide +kernel
theorem d_A_law_666 : decode c_A_law 666 = .ok (.ireturn, 1) := by decide +kernel
theorem d_A_law_667 : decode c_A_law 667 = .ok (.iload 5, 2) := by decide +kernel
theorem d_A_law_669 : decode c_A_law 669 = .ok (.ifCond .ne 22, 3) := by decide +kernel
theorem d_A_law_672 : decode c_A_law 672 = .ok (.aload_n 3, 1) := by decide +kernel
theorem d_A_law_673 : decode c_A_law 673 = .ok (.iconst 0, 1) := by decide +kernel
theorem d_A_law_674 : decode c_A_law 674 = .ok (.laload, 1) := by decide +kernel
theorem d_A_law_675 : decode c_A_law 675 = .ok (.iload 6, 2) := by decide +kernel
theorem d_A_law_677 : decode c_A_law 677 = .ok (.ifCond .eq 7, 3) := by decide +kernel
theorem d_A_law_680 : decode c_A_law 680 = .ok (.lconst 1, 1) := by decide +kernel
theorem d_A_law_681 : decode c_A_law 681 = .ok (.goto 4, 3) := by decide +kernel
theorem d_A_law_684 : decode c_A_law 684 = .ok (.lconst 0, 1) := by decide +kernel
theorem d_A_law_685 : decode c_A_law 685 = .ok (.lcmp, 1) := by decide +kernel
theorem d_A_law_686 : decode c_A_law 686 = .ok (.ifCond .eq 5, 3) := by decide +kernel
theorem d_A_law_689 : decode c_A_law 689 = .ok (.iconst 0, 1) := by decide +kernel
theorem d_A_law_690 : decode c_A_law 690 = .ok (.ireturn, 1) := by decide +kernel
theorem d_A_law_691 : decode c_A_law 691 = .ok (.goto 1544, 3) := by decide +kernel
theorem d_A_law_694 : decode c_A_law 694 = .ok (.aload_n 1, 1) := by decide +kernel
theorem d_A_law_695 : decode c_A_law 695 = .ok (.aload_n 0, 1) := by decide +kernel
theorem d_A_law_696 : decode c_A_law 696 = .ok (.iload 4, 2) := by decide +kernel
theorem d_A_law_698 : decode c_A_law 698 = .ok (.iconst 1, 1) := by decide +kernel
theorem d_A_law_699 : decode c_A_law 699 = .ok (.iadd, 1) := by decide +kernel
theorem d_A_law_700 : decode c_A_law 700 = .ok (.iaload, 1) := by decide +kernel
theorem d_A_law_701 : decode c_A_law 701 = .ok (.aload_n 0, 1) := by decide +kernel
theorem d_A_law_702 : decode c_A_law 702 = .ok (.iload 4, 2) := by decide +kernel
theorem d_A_law_704 : decode c_A_law 704 = .ok (.iconst 2, 1) := by decide +kernel
theorem d_A_law_705 : decode c_A_law 705 = .ok (.iadd, 1) := by decide +kernel
theorem d_A_law_706 : decode c_A_law 706 = .ok (.iaload, 1) := by decide +kernel
theorem d_A_law_707 : decode c_A_law 707 = .ok (.aload_n 0, 1) := by decide +kernel
theorem d_A_law_708 : decode c_A_law 708 = .ok (.iload 4, 2) := by decide +kernel
theorem d_A_law_710 : decode c_A_law 710 = .ok (.iconst 3, 1) := by decide +kernel
theorem d_A_law_711 : decode c_A_law 711 = .ok (.iadd, 1) := by decide +kernel
theorem d_A_law_712 : decode c_A_law 712 = .ok (.iaload, 1) := by decide +kernel
theorem d_A_law_713 : decode c_A_law 713 = .ok (.aload_n 3, 1) := by decide +kernel
theorem d_A_law_714 : decode c_A_law 714 = .ok (.invokestatic 150, 3) := by decide +kernel
theorem d_A_law_717 : decode c_A_law 717 = .ok (.istore 5, 2) := by decide +kernel
theorem d_A_law_719 : decode c_A_law 719 = .ok (.aload_n 2, 1) := by decide +kernel
theorem d_A_law_720 : decode c_A_law 720 = .ok (.aload_n 0, 1) := by decide +kernel
theorem d_A_law_721 : decode c_A_law 721 = .ok (.iload 4, 2) := by decide +kernel
theorem d_A_law_723 : decode c_A_law 723 = .ok (.iconst 1, 1) := by decide +kernel
theorem d_A_law_724 : decode c_A_law 724 = .ok (.iadd, 1) := by decide +kernel
theorem d_A_law_725 : decode c_A_law 725 = .ok (.iaload, 1) := by decide +kernel
theorem d_A_law_726 : decode c_A_law 726 = .ok (.aload_n 0, 1) := by decide +kernel
theorem d_A_law_727 : decode c_A_law 727 = .ok (.iload 4, 2) := by decide +kernel
theorem d_A_law_729 : decode c_A_law 729 = .ok (.iconst 2, 1) := by decide +kernel
theorem d_A_law_730 : decode c_A_law 730 = .ok (.iadd, 1) := by decide +kernel
theorem d_A_law_731 : decode c_A_law 731 = .ok (.iaload, 1) := by decide +kernel
theorem d_A_law_732 : decode c_A_law 732 = .ok (.aload_n 0, 1) := by decide +kernel
theorem d_A_law_733 : decode c_A_law 733 = .ok (.iload 4, 2) := by decide +kernel
theorem d_A_law_735 : decode c_A_law 735 = .ok (.iconst 3, 1) := by decide +kernel
theorem d_A_law_736 : decode c_A_law 736 = .ok (.iadd, 1) := by decide +kernel
theorem d_A_law_737 : decode c_A_law 737 = .ok (.iaload, 1) := by decide +kernel
theorem d_A_law_738 : decode c_A_law 738 = .ok (.invokevirtual 153, 3) := by decide +kernel
theorem d_A_law_741 : decode c_A_law 741 = .ok (.istore 6, 2) := by decide +kernel
theorem d_A_law_743 : decode c_A_law 743 = .ok (.aload_n 2, 1) := by decide +kernel
theorem d_A_law_744 : decode c_A_law 744 = .ok (.invokevirtual 125, 3) := by decide +kernel
theorem d_A_law_747 : decode c_A_law 747 = .ok (.iload 5, 2) := by decide +kernel
theorem d_A_law_749 : decode c_A_law 749 = .ok (.if_icmp .eq 5, 3) := by decide +kernel
theorem d_A_law_752 : decode c_A_law 752 = .ok (.iconst 0, 1) := by decide +kernel
theorem d_A_law_753 : decode c_A_law 753 = .ok (.ireturn, 1) := by decide +kernel
theorem d_A_law_754 : decode c_A_law 754 = .ok (.iload 5, 2) := by decide +kernel
theorem d_A_law_756 : decode c_A_law 756 = .ok (.ifCond .ne 15, 3) := by decide +kernel
theorem d_A_law_759 : decode c_A_law 759 = .ok (.aload_n 3, 1) := by decide +kernel
theorem d_A_law_760 : decode c_A_law 760 = .ok (.iconst 0, 1) := by decide +kernel
theorem d_A_law_761 : decode c_A_law 761 = .ok (.laload, 1) := by decide +kernel
theorem d_A_law_762 : decode c_A_law 762 = .ok (.iload 6, 2) := by decide +kernel
theorem d_A_law_764 : decode c_A_law 764 = .ok (.i2l, 1) := by decide +kernel
theorem d_A_law_765 : decode c_A_law 765 = .ok (.lcmp, 1) := by decide +kernel
theorem d_A_law_766 : decode c_A_law 766 = .ok (.ifCond .eq 5, 3) := by decide +kernel
theorem d_A_law_769 : decode c_A_law 769 = .ok (.iconst 0, 1) := by decide +kernel
theorem d_A_law_770 : decode c_A_law 770 = .ok (.ireturn, 1) := by decide +kernel
theorem d_A_law_771 : decode c_A_law 771 = .ok (.goto 1464, 3) := by decide +kernel
theorem d_A_law_774 : decode c_A_law 774 = .ok (.aload_n 1, 1) := by decide +kernel
theorem d_A_law_775 : decode c_A_law 775 = .ok (.aload_n 0, 1) := by decide +kernel
theorem d_A_law_776 : decode c_A_law 776 = .ok (.iload 4, 2) := by decide +kernel
theorem d_A_law_778 : decode c_A_law 778 = .ok (.iconst 1, 1) := by decide +kernel
theorem d_A_law_779 : decode c_A_law 779 = .ok (.iadd, 1) := by decide +kernel
theorem d_A_law_780 : decode c_A_law 780 = .ok (.iaload, 1) := by decide +kernel
theorem d_A_law_781 : decode c_A_law 781 = .ok (.aload_n 3, 1) := by decide +kernel
theorem d_A_law_782 : decode c_A_law 782 = .ok (.invokestatic 154, 3) := by decide +kernel
theorem d_A_law_785 : decode c_A_law 785 = .ok (.istore 5, 2) := by decide +kernel
theorem d_A_law_787 : decode c_A_law 787 = .ok (.aload_n 2, 1) := by decide +kernel
theorem d_A_law_788 : decode c_A_law 788 = .ok (.aload_n 0, 1) := by decide +kernel
theorem d_A_law_789 : decode c_A_law 789 = .ok (.iload 4, 2) := by decide +kernel
theorem d_A_law_791 : decode c_A_law 791 = .ok (.iconst 1, 1) := by decide +kernel
theorem d_A_law_792 : decode c_A_law 792 = .ok (.iadd, 1) := by decide +kernel
theorem d_A_law_793 : decode c_A_law 793 = .ok (.iaload, 1) := by decide +kernel
theorem d_A_law_794 : decode c_A_law 794 = .ok (.invokevirtual 156, 3) := by decide +kernel
theorem d_A_law_797 : decode c_A_law 797 = .ok (.istore 6, 2) := by decide +kernel
theorem d_A_law_799 : decode c_A_law 799 = .ok (.aload_n 2, 1) := by decide +kernel
theorem d_A_law_800 : decode c_A_law 800 = .ok (.invokevirtual 125, 3) := by decide +kernel
theorem d_A_law_803 : decode c_A_law 803 = .ok (.iload 5, 2) := by decide +kernel
theorem d_A_law_805 : decode c_A_law 805 = .ok (.if_icmp .eq 5, 3) := by decide +kernel
theorem d_A_law_808 : decode c_A_law 808 = .ok (.iconst 0, 1) := by decide +kernel
theorem d_A_law_809 : decode c_A_law 809 = .ok (.ireturn, 1) := by decide +kernel
theorem d_A_law_810 : decode c_A_law 810 = .ok (.iload 5, 2) := by decide +kernel
theorem d_A_law_812 : decode c_A_law 812 = .ok (.ifCond .ne 15, 3) := by decide +kernel
theorem d_A_law_815 : decode c_A_law 815 = .ok (.aload_n 3, 1) := by decide +kernel
theorem d_A_law_816 : decode c_A_law 816 = .ok (.iconst 0, 1) := by decide +kernel
theorem d_A_law_817 : decode c_A_law 817 = .ok (.laload, 1) := by decide +kernel
theorem d_A_law_818 : decode c_A_law 818 = .ok (.iload 6, 2) := by decide +kernel
theorem d_A_law_820 : decode c_A_law 820 = .ok (.i2l, 1) := by decide +kernel
theorem d_A_law_821 : decode c_A_law 821 = .ok (.lcmp, 1) := by decide +kernel
theorem d_A_law_822 : decode c_A_law 822 = .ok (.ifCond .eq 5, 3) := by decide +kernel
theorem d_A_law_825 : decode c_A_law 825 = .ok (.iconst 0, 1) := by decide +kernel
theorem d_A_law_826 : decode c_A_law 826 = .ok (.ireturn, 1) := by decide +kernel
theorem d_A_law_827 : decode c_A_law 827 = .ok (.goto 1408, 3) := by decide +kernel
theorem d_A_law_830 : decode c_A_law 830 = .ok (.aload_n 1, 1) := by decide +kernel
theorem d_A_law_831 : decode c_A_law 831 = .ok (.aload_n 0, 1) := by decide +kernel
theorem d_A_law_832 : decode c_A_law 832 = .ok (.iload 4, 2) := by decide +kernel
theorem d_A_law_834 : decode c_A_law 834 = .ok (.iconst 1, 1) := by decide +kernel
theorem d_A_law_835 : decode c_A_law 835 = .ok (.iadd, 1) := by decide +kernel
theorem d_A_law_836 : decode c_A_law 836 = .ok (.iaload, 1) := by decide +kernel
theorem d_A_law_837 : decode c_A_law 837 = .ok (.aload_n 0, 1) := by decide +kernel
theorem d_A_law_838 : decode c_A_law 838 = .ok (.iload 4, 2) := by decide +kernel
theorem d_A_law_840 : decode c_A_law 840 = .ok (.iconst 2, 1) := by decide +kernel
theorem d_A_law_841 : decode c_A_law 841 = .ok (.iadd, 1) := by decide +kernel
theorem d_A_law_842 : decode c_A_law 842 = .ok (.iaload, 1) := by decide +kernel
theorem d_A_law_843 : decode c_A_law 843 = .ok (.aload_n 3, 1) := by decide +kernel
theorem d_A_law_844 : decode c_A_law 844 = .ok (.invokestatic 157, 3) := by decide +kernel
theorem d_A_law_847 : decode c_A_law 847 = .ok (.istore 5, 2) := by decide +kernel
theorem d_A_law_849 : decode c_A_law 849 = .ok (.aload_n 2, 1) := by decide +kernel
theorem d_A_law_850 : decode c_A_law 850 = .ok (.aload_n 0, 1) := by decide +kernel
theorem d_A_law_851 : decode c_A_law 851 = .ok (.iload 4, 2) := by decide +kernel
theorem d_A_law_853 : decode c_A_law 853 = .ok (.iconst 1, 1) := by decide +kernel
theorem d_A_law_854 : decode c_A_law 854 = .ok (.iadd, 1) := by decide +kernel
theorem d_A_law_855 : decode c_A_law 855 = .ok (.iaload, 1) := by decide +kernel
theorem d_A_law_856 : decode c_A_law 856 = .ok (.aload_n 0, 1) := by decide +kernel
theorem d_A_law_857 : decode c_A_law 857 = .ok (.iload 4, 2) := by decide +kernel
theorem d_A_law_859 : decode c_A_law 859 = .ok (.iconst 2, 1) := by decide +kernel
theorem d_A_law_860 : decode c_A_law 860 = .ok (.iadd, 1) := by decide +kernel
theorem d_A_law_861 : decode c_A_law 861 = .ok (.iaload, 1) := by decide +kernel
theorem d_A_law_862 : decode c_A_law 862 = .ok (.invokevirtual 159, 3) := by decide +kernel
theorem d_A_law_865 : decode c_A_law 865 = .ok (.istore 6, 2) := by decide +kernel
theorem d_A_law_867 : decode c_A_law 867 = .ok (.aload_n 2, 1) := by decide +kernel
theorem d_A_law_868 : decode c_A_law 868 = .ok (.invokevirtual 125, 3) := by decide +kernel
theorem d_A_law_871 : decode c_A_law 871 = .ok (.iload 5, 2) := by decide +kernel
theorem d_A_law_873 : decode c_A_law 873 = .ok (.if_icmp .eq 5, 3) := by decide +kernel
theorem d_A_law_876 : decode c_A_law 876 = .ok (.iconst 0, 1) := by decide +kernel
theorem d_A_law_877 : decode c_A_law 877 = .ok (.ireturn, 1) := by decide +kernel
theorem d_A_law_878 : decode c_A_law 878 = .ok (.iload 5, 2) := by decide +kernel
theorem d_A_law_880 : decode c_A_law 880 = .ok (.ifCond .ne 15, 3) := by decide +kernel
theorem d_A_law_883 : decode c_A_law 883 = .ok (.aload_n 3, 1) := by decide +kernel
theorem d_A_law_884 : decode c_A_law 884 = .ok (.iconst 0, 1) := by decide +kernel
theorem d_A_law_885 : decode c_A_law 885 = .ok (.laload, 1) := by decide +kernel
theorem d_A_law_886 : decode c_A_law 886 = .ok (.iload 6, 2) := by decide +kernel
theorem d_A_law_888 : decode c_A_law 888 = .ok (.i2l, 1) := by decide +kernel
theorem d_A_law_889 : decode c_A_law 889 = .ok (.lcmp, 1) := by decide +kernel
theorem d_A_law_890 : decode c_A_law 890 = .ok (.ifCond .eq 5, 3) := by decide +kernel
theorem d_A_law_893 : decode c_A_law 893 = .ok (.iconst 0, 1) := by decide +kernel
theorem d_A_law_894 : decode c_A_law 894 = .ok (.ireturn, 1) := by decide +kernel
theorem d_A_law_895 : decode c_A_law 895 = .ok (.goto 1340, 3) := by decide +kernel
theorem d_A_law_898 : decode c_A_law 898 = .ok (.aload_n 1, 1) := by decide +kernel
theorem d_A_law_899 : decode c_A_law 899 = .ok (.aload_n 3, 1) := by decide +kernel
theorem d_A_law_900 : decode c_A_law 900 = .ok (.invokestatic 160, 3) := by decide +kernel
theorem d_A_law_903 : decode c_A_law 903 = .ok (.istore 5, 2) := by decide +kernel
theorem d_A_law_905 : decode c_A_law 905 = .ok (.aload_n 2, 1) := by decide +kernel
theorem d_A_law_906 : decode c_A_law 906 = .ok (.invokevirtual 162, 3) := by decide +kernel
theorem d_A_law_909 : decode c_A_law 909 = .ok (.istore 6, 2) := by decide +kernel
theorem d_A_law_911 : decode c_A_law 911 = .ok (.aload_n 2, 1) := by decide +kernel
theorem d_A_law_912 : decode c_A_law 912 = .ok (.invokevirtual 125, 3) := by decide +kernel
theorem d_A_law_915 : decode c_A_law 915 = .ok (.iload 5, 2) := by decide +kernel
theorem d_A_law_917 : decode c_A_law 917 = .ok (.if_icmp .eq 5, 3) := by decide +kernel
theorem d_A_law_920 : decode c_A_law 920 = .ok (.iconst 0, 1) := by decide +kernel
theorem d_A_law_921 : decode c_A_law 921 = .ok (.ireturn, 1) := by decide +kernel
theorem d_A_law_922 : decode c_A_law 922 = .ok (.iload 5, 2) := by decide +kernel
theorem d_A_law_924 : decode c_A_law 924 = .ok (.ifCond .ne 15, 3) := by decide +kernel
theorem d_A_law_927 : decode c_A_law 927 = .ok (.aload_n 3, 1) := by decide +kernel
theorem d_A_law_928 : decode c_A_law 928 = .ok (.iconst 0, 1) := by decide +kernel
theorem d_A_law_929 : decode c_A_law 929 = .ok (.laload, 1) := by decide +kernel
theorem d_A_law_930 : decode c_A_law 930 = .ok (.iload 6, 2) := by decide +kernel
theorem d_A_law_932 : decode c_A_law 932 = .ok (.i2l, 1) := by decide +kernel
theorem d_A_law_933 : decode c_A_law 933 = .ok (.lcmp, 1) := by decide +kernel
theorem d_A_law_934 : decode c_A_law 934 = .ok (.ifCond .eq 5, 3) := by decide +kernel
theorem d_A_law_937 : decode c_A_law 937 = .ok (.iconst 0, 1) := by decide +kernel
theorem d_A_law_938 : decode c_A_law 938 = .ok (.ireturn, 1) := by decide +kernel
theorem d_A_law_939 : decode c_A_law 939 = .ok (.goto 1296, 3) := by decide +kernel
theorem d_A_law_942 : decode c_A_law 942 = .ok (.aload_n 1, 1) := by decide +kernel
theorem d_A_law_943 : decode c_A_law 943 = .ok (.aload_n 0, 1) := by decide +kernel
theorem d_A_law_944 : decode c_A_law 944 = .ok (.iload 4, 2) := by decide +kernel
theorem d_A_law_946 : decode c_A_law 946 = .ok (.iconst 1, 1) := by decide +kernel
theorem d_A_law_947 : decode c_A_law 947 = .ok (.iadd, 1) := by decide +kernel
theorem d_A_law_948 : decode c_A_law 948 = .ok (.iaload, 1) := by decide +kernel
theorem d_A_law_949 : decode c_A_law 949 = .ok (.aload_n 0, 1) := by decide +kernel
theorem d_A_law_950 : decode c_A_law 950 = .ok (.iload 4, 2) := by decide +kernel
theorem d_A_law_952 : decode c_A_law 952 = .ok (.iconst 2, 1) := by decide +kernel
theorem d_A_law_953 : decode c_A_law 953 = .ok (.iadd, 1) := by decide +kernel
theorem d_A_law_954 : decode c_A_law 954 = .ok (.iaload, 1) := by decide +kernel
theorem d_A_law_955 : decode c_A_law 955 = .ok (.aload_n 0, 1) := by decide +kernel
theorem d_A_law_956 : decode c_A_law 956 = .ok (.iload 4, 2) := by decide +kernel
theorem d_A_law_958 : decode c_A_law 958 = .ok (.iconst 3, 1) := by decide +kernel
theorem d_A_law_959 : decode c_A_law 959 = .ok (.iadd, 1) := by decide +kernel
theorem d_A_law_960 : decode c_A_law 960 = .ok (.iaload, 1) := by decide +kernel
theorem d_A_law_961 : decode c_A_law 961 = .ok (.aload_n 3, 1) := by decide +kernel
theorem d_A_law_962 : decode c_A_law 962 = .ok (.invokestatic 163, 3) := by decide +kernel
theorem d_A_law_965 : decode c_A_law 965 = .ok (.istore 5, 2) := by decide +kernel
theorem d_A_law_967 : decode c_A_law 967 = .ok (.aload_n 2, 1) := by decide +kernel
theorem d_A_law_968 : decode c_A_law 968 = .ok (.aload_n 0, 1) := by decide +kernel
theorem d_A_law_969 : decode c_A_law 969 = .ok (.iload 4, 2) := by decide +kernel
theorem d_A_law_971 : decode c_A_law 971 = .ok (.iconst 1, 1) := by decide +kernel
theorem d_A_law_972 : decode c_A_law 972 = .ok (.iadd, 1) := by decide +kernel
theorem d_A_law_973 : decode c_A_law 973 = .ok (.iaload, 1) := by decide +kernel
theorem d_A_law_974 : decode c_A_law 974 = .ok (.aload_n 0, 1) := by decide +kernel
theorem d_A_law_975 : decode c_A_law 975 = .ok (.iload 4, 2) := by decide +kernel
theorem d_A_law_977 : decode c_A_law 977 = .ok (.iconst 2, 1) := by decide +kernel
theorem d_A_law_978 : decode c_A_law 978 = .ok (.iadd, 1) := by decide +kernel
theorem d_A_law_979 : decode c_A_law 979 = .ok (.iaload, 1) := by decide +kernel
theorem d_A_law_980 : decode c_A_law 980 = .ok (.aload_n 0, 1) := by decide +kernel
theorem d_A_law_981 : decode c_A_law 981 = .ok (.iload 4, 2) := by decide +kernel
theorem d_A_law_983 : decode c_A_law 983 = .ok (.iconst 3, 1) := by decide +kernel
theorem d_A_law_984 : decode c_A_law 984 = .ok (.iadd, 1) := by decide +kernel
theorem d_A_law_985 : decode c_A_law 985 = .ok (.iaload, 1) := by decide +kernel
theorem d_A_law_986 : decode c_A_law 986 = .ok (.invokevirtual 165, 3) := by decide +kernel
theorem d_A_law_989 : decode c_A_law 989 = .ok (.istore 6, 2) := by decide +kernel
theorem d_A_law_991 : decode c_A_law 991 = .ok (.aload_n 2, 1) := by decide +kernel
theorem d_A_law_992 : decode c_A_law 992 = .ok (.invokevirtual 125, 3) := by decide +kernel
theorem d_A_law_995 : decode c_A_law 995 = .ok (.iload 5, 2) := by decide +kernel
theorem d_A_law_997 : decode c_A_law 997 = .ok (.if_icmp .eq 5, 3) := by decide +kernel
theorem d_A_law_1000 : decode c_A_law 1000 = .ok (.iconst 0, 1) := by decide +kernel
theorem d_A_law_1001 : decode c_A_law 1001 = .ok (.ireturn, 1) := by decide +kernel
theorem d_A_law_1002 : decode c_A_law 1002 = .ok (.iload 5, 2) := by decide +kernel
theorem d_A_law_1004 : decode c_A_law 1004 = .ok (.ifCond .ne 15, 3) := by decide +kernel
theorem d_A_law_1007 : decode c_A_law 1007 = .ok (.aload_n 3, 1) := by decide +kernel
theorem d_A_law_1008 : decode c_A_law 1008 = .ok (.iconst 0, 1) := by decide +kernel
theorem d_A_law_1009 : decode c_A_law 1009 = .ok (.laload, 1) := by decide +kernel
theorem d_A_law_1010 : decode c_A_law 1010 = .ok (.iload 6, 2) := by decide +kernel
theorem d_A_law_1012 : decode c_A_law 1012 = .ok (.i2l, 1) := by decide +kernel
theorem d_A_law_1013 : decode c_A_law 1013 = .ok (.lcmp, 1) := by decide +kernel
theorem d_A_law_1014 : decode c_A_law 1014 = .ok (.ifCond .eq 5, 3) := by decide +kernel
theorem d_A_law_1017 : decode c_A_law 1017 = .ok (.iconst 0, 1) := by decide +kernel
theorem d_A_law_1018 : decode c_A_law 1018 = .ok (.ireturn, 1) := by decide +kernel
theorem d_A_law_1019 : decode c_A_law 1019 = .ok (.goto 1216, 3) := by decide +kernel
theorem d_A_law_1022 : decode c_A_law 1022 = .ok (.aload_n 1, 1) := by decide +kernel
theorem d_A_law_1023 : decode c_A_law 1023 = .ok (.aload_n 0, 1) := by decide +kernel
theorem d_A_law_1024 : decode c_A_law 1024 = .ok (.iload 4, 2) := by decide +kernel
theorem d_A_law_1026 : decode c_A_law 1026 = .ok (.iconst 1, 1) := by decide +kernel
theorem d_A_law_1027 : decode c_A_law 1027 = .ok (.iadd, 1) := by decide +kernel
theorem d_A_law_1028 : decode c_A_law 1028 = .ok (.iaload, 1) := by decide +kernel
theorem d_A_law_1029 : decode c_A_law 1029 = .ok (.aload_n 0, 1) := by decide +kernel
theorem d_A_law_1030 : decode c_A_law 1030 = .ok (.iload 4, 2) := by decide +kernel
theorem d_A_law_1032 : decode c_A_law 1032 = .ok (.iconst 2, 1) := by decide +kernel
theorem d_A_law_1033 : decode c_A_law 1033 = .ok (.iadd, 1) := by decide +kernel
theorem d_A_law_1034 : decode c_A_law 1034 = .ok (.iaload, 1) := by decide +kernel
theorem d_A_law_1035 : decode c_A_law 1035 = .ok (.aload_n 0, 1) := by decide +kernel
theorem d_A_law_1036 : decode c_A_law 1036 = .ok (.iload 4, 2) := by decide +kernel
theorem d_A_law_1038 : decode c_A_law 1038 = .ok (.iconst 3, 1) := by decide +kernel
theorem d_A_law_1039 : decode c_A_law 1039 = .ok (.iadd, 1) := by decide +kernel
theorem d_A_law_1040 : decode c_A_law 1040 = .ok (.iaload, 1) := by decide +kernel
theorem d_A_law_1041 : decode c_A_law 1041 = .ok (.aload_n 0, 1) := by decide +kernel
theorem d_A_law_1042 : decode c_A_law 1042 = .ok (.iload 4, 2) := by decide +kernel
theorem d_A_law_1044 : decode c_A_law 1044 = .ok (.iconst 4, 1) := by decide +kernel
theorem d_A_law_1045 : decode c_A_law 1045 = .ok (.iadd, 1) := by decide +kernel
theorem d_A_law_1046 : decode c_A_law 1046 = .ok (.iaload, 1) := by decide +kernel
theorem d_A_law_1047 : decode c_A_law 1047 = .ok (.aload_n 3, 1) := by decide +kernel
theorem d_A_law_1048 : decode c_A_law 1048 = .ok (.invokestatic 166, 3) := by decide +kernel
theorem d_A_law_1051 : decode c_A_law 1051 = .ok (.istore 5, 2) := by decide +kernel
theorem d_A_law_1053 : decode c_A_law 1053 = .ok (.aload_n 2, 1) := by decide +kernel
theorem d_A_law_1054 : decode c_A_law 1054 = .ok (.aload_n 0, 1) := by decide +kernel
theorem d_A_law_1055 : decode c_A_law 1055 = .ok (.iload 4, 2) := by decide +kernel
theorem d_A_law_1057 : decode c_A_law 1057 = .ok (.iconst 1, 1) := by decide +kernel
theorem d_A_law_1058 : decode c_A_law 1058 = .ok (.iadd, 1) := by decide +kernel
theorem d_A_law_1059 : decode c_A_law 1059 = .ok (.iaload, 1) := by decide +kernel
theorem d_A_law_1060 : decode c_A_law 1060 = .ok (.aload_n 0, 1) := by decide +kernel
theorem d_A_law_1061 : decode c_A_law 1061 = .ok (.iload 4, 2) := by decide +kernel
theorem d_A_law_1063 : decode c_A_law 1063 = .ok (.iconst 2, 1) := by decide +kernel
theorem d_A_law_1064 : decode c_A_law 1064 = .ok (.iadd, 1) := by decide +kernel
theorem d_A_law_1065 : decode c_A_law 1065 = .ok (.iaload, 1) := by decide +kernel
theorem d_A_law_1066 : decode c_A_law 1066 = .ok (.aload_n 0, 1) := by decide +kernel
theorem d_A_law_1067 : decode c_A_law 1067 = .ok (.iload 4, 2) := by decide +kernel
theorem d_A_law_1069 : decode c_A_law 1069 = .ok (.iconst 3, 1) := by decide +kernel
theorem d_A_law_1070 : decode c_A_law 1070 = .ok (.iadd, 1) := by decide +kernel
theorem d_A_law_1071 : decode c_A_law 1071 = .ok (.iaload, 1) := by decide +kernel
theorem d_A_law_1072 : decode c_A_law 1072 = .ok (.aload_n 0, 1) := by decide +kernel
theorem d_A_law_1073 : decode c_A_law 1073 = .ok (.iload 4, 2) := by decide +kernel
theorem d_A_law_1075 : decode c_A_law 1075 = .ok (.iconst 4, 1) := by decide +kernel
theorem d_A_law_1076 : decode c_A_law 1076 = .ok (.iadd, 1) := by decide +kernel
theorem d_A_law_1077 : decode c_A_law 1077 = .ok (.iaload, 1) := by decide +kernel
theorem d_A_law_1078 : decode c_A_law 1078 = .ok (.invokevirtual 169, 3) := by decide +kernel
theorem d_A_law_1081 : decode c_A_law 1081 = .ok (.istore 6, 2) := by decide +kernel
theorem d_A_law_1083 : decode c_A_law 1083 = .ok (.aload_n 2, 1) := by decide +kernel
theorem d_A_law_1084 : decode c_A_law 1084 = .ok (.invokevirtual 125, 3) := by decide +kernel
theorem d_A_law_1087 : decode c_A_law 1087 = .ok (.iload 5, 2) := by decide +kernel
theorem d_A_law_1089 : decode c_A_law 1089 = .ok (.if_icmp .eq 5, 3) := by decide +kernel
theorem d_A_law_1092 : decode c_A_law 1092 = .ok (.iconst 0, 1) := by decide +kernel
theorem d_A_law_1093 : decode c_A_law 1093 = .ok (.ireturn, 1) := by decide +kernel
theorem d_A_law_1094 : decode c_A_law 1094 = .ok (.iload 5, 2) := by decide +kernel
theorem d_A_law_1096 : decode c_A_law 1096 = .ok (.ifCond .ne 15, 3) := by decide +kernel
theorem d_A_law_1099 : decode c_A_law 1099 = .ok (.aload_n 3, 1) := by decide +kernel
theorem d_A_law_1100 : decode c_A_law 1100 = .ok (.iconst 0, 1) := by decide +kernel
theorem d_A_law_1101 : decode c_A_law 1101 = .ok (.laload, 1) := by decide +kernel
theorem d_A_law_1102 : decode c_A_law 1102 = .ok (.iload 6, 2) := by decide +kernel
theorem d_A_law_1104 : decode c_A_law 1104 = .ok (.i2l, 1) := by decide +kernel
theorem d_A_law_1105 : decode c_A_law 1105 = .ok (.lcmp, 1) := by decide +kernel
theorem d_A_law_1106 : decode c_A_law 1106 = .ok (.ifCond .eq 5, 3) := by decide +kernel
theorem d_A_law_1109 : decode c_A_law 1109 = .ok (.iconst 0, 1) := by decide +kernel
theorem d_A_law_1110 : decode c_A_law 1110 = .ok (.ireturn, 1) := by decide +kernel
theorem d_A_law_1111 : decode c_A_law 1111 = .ok (.goto 1124, 3) := by decide +kernel
theorem d_A_law_1114 : decode c_A_law 1114 = .ok (.aload_n 1, 1) := by decide +kernel
theorem d_A_law_1115 : decode c_A_law 1115 = .ok (.aload_n 0, 1) := by decide +kernel
theorem d_A_law_1116 : decode c_A_law 1116 = .ok (.iload 4, 2) := by decide +kernel
theorem d_A_law_1118 : decode c_A_law 1118 = .ok (.iconst 1, 1) := by decide +kernel
theorem d_A_law_1119 : decode c_A_law 1119 = .ok (.iadd, 1) := by decide +kernel
theorem d_A_law_1120 : decode c_A_law 1120 = .ok (.iaload, 1) := by decide +kernel
theorem d_A_law_1121 : decode c_A_law 1121 = .ok (.aload_n 3, 1) := by decide +kernel
theorem d_A_law_1122 : decode c_A_law 1122 = .ok (.invokestatic 170, 3) := by decide +kernel
theorem d_A_law_1125 : decode c_A_law 1125 = .ok (.istore 5, 2) := by decide +kernel
theorem d_A_law_1127 : decode c_A_law 1127 = .ok (.aload_n 2, 1) := by decide +kernel
theorem d_A_law_1128 : decode c_A_law 1128 = .ok (.aload_n 0, 1) := by decide +kernel
theorem d_A_law_1129 : decode c_A_law 1129 = .ok (.iload 4, 2) := by decide +kernel
theorem d_A_law_1131 : decode c_A_law 1131 = .ok (.iconst 1, 1) := by decide +kernel
theorem d_A_law_1132 : decode c_A_law 1132 = .ok (.iadd, 1) := by decide +kernel
theorem d_A_law_1133 : decode c_A_law 1133 = .ok (.iaload, 1) := by decide +kernel
theorem d_A_law_1134 : decode c_A_law 1134 = .ok (.invokevirtual 172, 3) := by decide +kernel
theorem d_A_law_1137 : decode c_A_law 1137 = .ok (.istore 6, 2) := by decide +kernel
theorem d_A_law_1139 : decode c_A_law 1139 = .ok (.aload_n 2, 1) := by decide +kernel
theorem d_A_law_1140 : decode c_A_law 1140 = .ok (.invokevirtual 125, 3) := by decide +kernel
theorem d_A_law_1143 : decode c_A_law 1143 = .ok (.iload 5, 2) := by decide +kernel
theorem d_A_law_1145 : decode c_A_law 1145 = .ok (.if_icmp .eq 5, 3) := by decide +kernel
theorem d_A_law_1148 : decode c_A_law 1148 = .ok (.iconst 0, 1) := by decide +kernel
theorem d_A_law_1149 : decode c_A_law 1149 = .ok (.ireturn, 1) := by decide +kernel
theorem d_A_law_1150 : decode c_A_law 1150 = .ok (.iload 5, 2) := by decide +kernel
theorem d_A_law_1152 : decode c_A_law 1152 = .ok (.ifCond .ne 15, 3) := by decide +kernel
theorem d_A_law_1155 : decode c_A_law 1155 = .ok (.aload_n 3, 1) := by decide +kernel
theorem d_A_law_1156 : decode c_A_law 1156 = .ok (.iconst 0, 1) := by decide +kernel
theorem d_A_law_1157 : decode c_A_law 1157 = .ok (.laload, 1) := by decide +kernel
theorem d_A_law_1158 : decode c_A_law 1158 = .ok (.iload 6, 2) := by decide +kernel
theorem d_A_law_1160 : decode c_A_law 1160 = .ok (.i2l, 1) := by decide +kernel
theorem d_A_law_1161 : decode c_A_law 1161 = .ok (.lcmp, 1) := by decide +kernel
theorem d_A_law_1162 : decode c_A_law 1162 = .ok (.ifCond .eq 5, 3) := by decide +kernel
theorem d_A_law_1165 : decode c_A_law 1165 = .ok (.iconst 0, 1) := by decide +kernel
theorem d_A_law_1166 : decode c_A_law 1166 = .ok (.ireturn, 1) := by decide +kernel
theorem d_A_law_1167 : decode c_A_law 1167 = .ok (.goto 1068, 3) := by decide +kernel
theorem d_A_law_1170 : decode c_A_law 1170 = .ok (.aload_n 1, 1) := by decide +kernel
theorem d_A_law_1171 : decode c_A_law 1171 = .ok (.aload_n 0, 1) := by decide +kernel
theorem d_A_law_1172 : decode c_A_law 1172 = .ok (.iload 4, 2) := by decide +kernel
theorem d_A_law_1174 : decode c_A_law 1174 = .ok (.iconst 1, 1) := by decide +kernel
theorem d_A_law_1175 : decode c_A_law 1175 = .ok (.iadd, 1) := by decide +kernel
theorem d_A_law_1176 : decode c_A_law 1176 = .ok (.iaload, 1) := by decide +kernel
theorem d_A_law_1177 : decode c_A_law 1177 = .ok (.aload_n 0, 1) := by decide +kernel
theorem d_A_law_1178 : decode c_A_law 1178 = .ok (.iload 4, 2) := by decide +kernel
theorem d_A_law_1180 : decode c_A_law 1180 = .ok (.iconst 2, 1) := by decide +kernel
theorem d_A_law_1181 : decode c_A_law 1181 = .ok (.iadd, 1) := by decide +kernel
theorem d_A_law_1182 : decode c_A_law 1182 = .ok (.iaload, 1) := by decide +kernel
theorem d_A_law_1183 : decode c_A_law 1183 = .ok (.aload_n 3, 1) := by decide +kernel
theorem d_A_law_1184 : decode c_A_law 1184 = .ok (.invokestatic 173, 3) := by decide +kernel
theorem d_A_law_1187 : decode c_A_law 1187 = .ok (.istore 5, 2) := by decide +kernel
theorem d_A_law_1189 : decode c_A_law 1189 = .ok (.aload_n 2, 1) := by decide +kernel
theorem d_A_law_1190 : decode c_A_law 1190 = .ok (.aload_n 0, 1) := by decide +kernel
theorem d_A_law_1191 : decode c_A_law 1191 = .ok (.iload 4, 2) := by decide +kernel
theorem d_A_law_1193 : decode c_A_law 1193 = .ok (.iconst 1, 1) := by decide +kernel
theorem d_A_law_1194 : decode c_A_law 1194 = .ok (.iadd, 1) := by decide +kernel
theorem d_A_law_1195 : decode c_A_law 1195 = .ok (.iaload, 1) := by decide +kernel
theorem d_A_law_1196 : decode c_A_law 1196 = .ok (.aload_n 0, 1) := by decide +kernel
theorem d_A_law_1197 : decode c_A_law 1197 = .ok (.iload 4, 2) := by decide +kernel
theorem d_A_law_1199 : decode c_A_law 1199 = .ok (.iconst 2, 1) := by decide +kernel
theorem d_A_law_1200 : decode c_A_law 1200 = .ok (.iadd, 1) := by decide +kernel
theorem d_A_law_1201 : decode c_A_law 1201 = .ok (.iaload, 1) := by decide +kernel
theorem d_A_law_1202 : decode c_A_law 1202 = .ok (.invokevirtual 175, 3) := by decide +kernel
theorem d_A_law_1205 : decode c_A_law 1205 = .ok (.istore 6, 2) := by decide +kernel
theorem d_A_law_1207 : decode c_A_law 1207 = .ok (.aload_n 2, 1) := by decide +kernel
theorem d_A_law_1208 : decode c_A_law 1208 = .ok (.invokevirtual 125, 3) := by decide +kernel
theorem d_A_law_1211 : decode c_A_law 1211 = .ok (.iload 5, 2) := by decide +kernel
theorem d_A_law_1213 : decode c_A_law 1213 = .ok (.if_icmp .eq 5, 3) := by decide +kernel
theorem d_A_law_1216 : decode c_A_law 1216 = .ok (.iconst 0, 1) := by decide +kernel
theorem d_A_law_1217 : decode c_A_law 1217 = .ok (.ireturn, 1) := by decide +kernel
theorem d_A_law_1218 : decode c_A_law 1218 = .ok (.iload 5, 2) := by decide +kernel
theorem d_A_law_1220 : decode c_A_law 1220 = .ok (.ifCond .ne 15, 3) := by decide +kernel
theorem d_A_law_1223 : decode c_A_law 1223 = .ok (.aload_n 3, 1) := by decide +kernel
theorem d_A_law_1224 : decode c_A_law 1224 = .ok (.iconst 0, 1) := by decide +kernel
theorem d_A_law_1225 : decode c_A_law 1225 = .ok (.laload, 1) := by decide +kernel
theorem d_A_law_1226 : decode c_A_law 1226 = .ok (.iload 6, 2) := by decide +kernel
theorem d_A_law_1228 : decode c_A_law 1228 = .ok (.i2l, 1) := by decide +kernel
theorem d_A_law_1229 : decode c_A_law 1229 = .ok (.lcmp, 1) := by decide +kernel
theorem d_A_law_1230 : decode c_A_law 1230 = .ok (.ifCond .eq 5, 3) := by decide +kernel
theorem d_A_law_1233 : decode c_A_law 1233 = .ok (.iconst 0, 1) := by decide +kernel
theorem d_A_law_1234 : decode c_A_law 1234 = .ok (.ireturn, 1) := by decide +kernel
theorem d_A_law_1235 : decode c_A_law 1235 = .ok (.goto 1000, 3) := by decide +kernel
theorem d_A_law_1238 : decode c_A_law 1238 = .ok (.aload_n 1, 1) := by decide +kernel
theorem d_A_law_1239 : decode c_A_law 1239 = .ok (.aload_n 0, 1) := by decide +kernel
theorem d_A_law_1240 : decode c_A_law 1240 = .ok (.iload 4, 2) := by decide +kernel
theorem d_A_law_1242 : decode c_A_law 1242 = .ok (.iconst 1, 1) := by decide +kernel
theorem d_A_law_1243 : decode c_A_law 1243 = .ok (.iadd, 1) := by decide +kernel
theorem d_A_law_1244 : decode c_A_law 1244 = .ok (.iaload, 1) := by decide +kernel
theorem d_A_law_1245 : decode c_A_law 1245 = .ok (.aload_n 0, 1) := by decide +kernel
theorem d_A_law_1246 : decode c_A_law 1246 = .ok (.iload 4, 2) := by decide +kernel
theorem d_A_law_1248 : decode c_A_law 1248 = .ok (.iconst 2, 1) := by decide +kernel
theorem d_A_law_1249 : decode c_A_law 1249 = .ok (.iadd, 1) := by decide +kernel
theorem d_A_law_1250 : decode c_A_law 1250 = .ok (.iaload, 1) := by decide +kernel
theorem d_A_law_1251 : decode c_A_law 1251 = .ok (.aload_n 3, 1) := by decide +kernel
theorem d_A_law_1252 : decode c_A_law 1252 = .ok (.invokestatic 176, 3) := by decide +kernel
theorem d_A_law_1255 : decode c_A_law 1255 = .ok (.istore 5, 2) := by decide +kernel
theorem d_A_law_1257 : decode c_A_law 1257 = .ok (.aload_n 2, 1) := by decide +kernel
theorem d_A_law_1258 : decode c_A_law 1258 = .ok (.aload_n 0, 1) := by decide +kernel
theorem d_A_law_1259 : decode c_A_law 1259 = .ok (.iload 4, 2) := by decide +kernel
theorem d_A_law_1261 : decode c_A_law 1261 = .ok (.iconst 1, 1) := by decide +kernel
theorem d_A_law_1262 : decode c_A_law 1262 = .ok (.iadd, 1) := by decide +kernel
theorem d_A_law_1263 : decode c_A_law 1263 = .ok (.iaload, 1) := by decide +kernel
theorem d_A_law_1264 : decode c_A_law 1264 = .ok (.aload_n 0, 1) := by decide +kernel
theorem d_A_law_1265 : decode c_A_law 1265 = .ok (.iload 4, 2) := by decide +kernel
theorem d_A_law_1267 : decode c_A_law 1267 = .ok (.iconst 2, 1) := by decide +kernel
theorem d_A_law_1268 : decode c_A_law 1268 = .ok (.iadd, 1) := by decide +kernel
theorem d_A_law_1269 : decode c_A_law 1269 = .ok (.iaload, 1) := by decide +kernel
theorem d_A_law_1270 : decode c_A_law 1270 = .ok (.invokevirtual 178, 3) := by decide +kernel
theorem d_A_law_1273 : decode c_A_law 1273 = .ok (.istore 6, 2) := by decide +kernel
theorem d_A_law_1275 : decode c_A_law 1275 = .ok (.aload_n 2, 1) := by decide +kernel
theorem d_A_law_1276 : decode c_A_law 1276 = .ok (.invokevirtual 125, 3) := by decide +kernel
theorem d_A_law_1279 : decode c_A_law 1279 = .ok (.iload 5, 2) := by decide +kernel
theorem d_A_law_1281 : decode c_A_law 1281 = .ok (.if_icmp .eq 5, 3) := by decide +kernel
theorem d_A_law_1284 : decode c_A_law 1284 = .ok (.iconst 0, 1) := by decide +kernel
theorem d_A_law_1285 : decode c_A_law 1285 = .ok (.ireturn, 1) := by decide +kernel
theorem d_A_law_1286 : decode c_A_law 1286 = .ok (.iload 5, 2) := by decide +kernel
theorem d_A_law_1288 : decode c_A_law 1288 = .ok (.ifCond .ne 15, 3) := by decide +kernel
theorem d_A_law_1291 : decode c_A_law 1291 = .ok (.aload_n 3, 1) := by decide +kernel
theorem d_A_law_1292 : decode c_A_law 1292 = .ok (.iconst 0, 1) := by decide +kernel
theorem d_A_law_1293 : decode c_A_law 1293 = .ok (.laload, 1) := by decide +kernel
theorem d_A_law_1294 : decode c_A_law 1294 = .ok (.iload 6, 2) := by decide +kernel
theorem d_A_law_1296 : decode c_A_law 1296 = .ok (.i2l, 1) := by decide +kernel
theorem d_A_law_1297 : decode c_A_law 1297 = .ok (.lcmp, 1) := by decide +kernel
theorem d_A_law_1298 : decode c_A_law 1298 = .ok (.ifCond .eq 5, 3) := by decide +kernel
theorem d_A_law_1301 : decode c_A_law 1301 = .ok (.iconst 0, 1) := by decide +kernel
theorem d_A_law_1302 : decode c_A_law 1302 = .ok (.ireturn, 1) := by decide +kernel
theorem d_A_law_1303 : decode c_A_law 1303 = .ok (.goto 932, 3) := by decide +kernel
theorem d_A_law_1306 : decode c_A_law 1306 = .ok (.aload_n 1, 1) := by decide +kernel
theorem d_A_law_1307 : decode c_A_law 1307 = .ok (.aload_n 0, 1) := by decide +kernel
theorem d_A_law_1308 : decode c_A_law 1308 = .ok (.iload 4, 2) := by decide +kernel
theorem d_A_law_1310 : decode c_A_law 1310 = .ok (.iconst 1, 1) := by decide +kernel
theorem d_A_law_1311 : decode c_A_law 1311 = .ok (.iadd, 1) := by decide +kernel
theorem d_A_law_1312 : decode c_A_law 1312 = .ok (.iaload, 1) := by decide +kernel
theorem d_A_law_1313 : decode c_A_law 1313 = .ok (.aload_n 0, 1) := by decide +kernel
theorem d_A_law_1314 : decode c_A_law 1314 = .ok (.iload 4, 2) := by decide +kernel
theorem d_A_law_1316 : decode c_A_law 1316 = .ok (.iconst 2, 1) := by decide +kernel
theorem d_A_law_1317 : decode c_A_law 1317 = .ok (.iadd, 1) := by decide +kernel
theorem d_A_law_1318 : decode c_A_law 1318 = .ok (.iaload, 1) := by decide +kernel
theorem d_A_law_1319 : decode c_A_law 1319 = .ok (.aload_n 0, 1) := by decide +kernel
theorem d_A_law_1320 : decode c_A_law 1320 = .ok (.iload 4, 2) := by decide +kernel
theorem d_A_law_1322 : decode c_A_law 1322 = .ok (.iconst 3, 1) := by decide +kernel
theorem d_A_law_1323 : decode c_A_law 1323 = .ok (.iadd, 1) := by decide +kernel
theorem d_A_law_1324 : decode c_A_law 1324 = .ok (.iaload, 1) := by decide +kernel
theorem d_A_law_1325 : decode c_A_law 1325 = .ok (.aload_n 3, 1) := by decide +kernel
theorem d_A_law_1326 : decode c_A_law 1326 = .ok (.invokestatic 179, 3) := by decide +kernel
theorem d_A_law_1329 : decode c_A_law 1329 = .ok (.istore 5, 2) := by decide +kernel
theorem d_A_law_1331 : decode c_A_law 1331 = .ok (.aload_n 2, 1) := by decide +kernel
theorem d_A_law_1332 : decode c_A_law 1332 = .ok (.aload_n 0, 1) := by decide +kernel
theorem d_A_law_1333 : decode c_A_law 1333 = .ok (.iload 4, 2) := by decide +kernel
theorem d_A_law_1335 : decode c_A_law 1335 = .ok (.iconst 1, 1) := by decide +kernel
theorem d_A_law_1336 : decode c_A_law 1336 = .ok (.iadd, 1) := by decide +kernel
theorem d_A_law_1337 : decode c_A_law 1337 = .ok (.iaload, 1) := by decide +kernel
theorem d_A_law_1338 : decode c_A_law 1338 = .ok (.aload_n 0, 1) := by decide +kernel
theorem d_A_law_1339 : decode c_A_law 1339 = .ok (.iload 4, 2) := by decide +kernel
theorem d_A_law_1341 : decode c_A_law 1341 = .ok (.iconst 2, 1) := by decide +kernel
theorem d_A_law_1342 : decode c_A_law 1342 = .ok (.iadd, 1) := by decide +kernel
theorem d_A_law_1343 : decode c_A_law 1343 = .ok (.iaload, 1) := by decide +kernel
theorem d_A_law_1344 : decode c_A_law 1344 = .ok (.aload_n 0, 1) := by decide +kernel
theorem d_A_law_1345 : decode c_A_law 1345 = .ok (.iload 4, 2) := by decide +kernel
theorem d_A_law_1347 : decode c_A_law 1347 = .ok (.iconst 3, 1) := by decide +kernel
theorem d_A_law_1348 : decode c_A_law 1348 = .ok (.iadd, 1) := by decide +kernel
theorem d_A_law_1349 : decode c_A_law 1349 = .ok (.iaload, 1) := by decide +kernel
theorem d_A_law_1350 : decode c_A_law 1350 = .ok (.invokevirtual 181, 3) := by decide +kernel
theorem d_A_law_1353 : decode c_A_law 1353 = .ok (.istore 6, 2) := by decide +kernel
theorem d_A_law_1355 : decode c_A_law 1355 = .ok (.aload_n 2, 1) := by decide +kernel
theorem d_A_law_1356 : decode c_A_law 1356 = .ok (.invokevirtual 125, 3) := by decide +kernel
theorem d_A_law_1359 : decode c_A_law 1359 = .ok (.iload 5, 2) := by decide +kernel
theorem d_A_law_1361 : decode c_A_law 1361 = .ok (.if_icmp .eq 5, 3) := by decide +kernel
theorem d_A_law_1364 : decode c_A_law 1364 = .ok (.iconst 0, 1) := by decide +kernel
theorem d_A_law_1365 : decode c_A_law 1365 = .ok (.ireturn, 1) := by decide +kernel
theorem d_A_law_1366 : decode c_A_law 1366 = .ok (.iload 5, 2) := by decide +kernel
theorem d_A_law_1368 : decode c_A_law 1368 = .ok (.ifCond .ne 15, 3) := by decide +kernel
theorem d_A_law_1371 : decode c_A_law 1371 = .ok (.aload_n 3, 1) := by decide +kernel
theorem d_A_law_1372 : decode c_A_law 1372 = .ok (.iconst 0, 1) := by decide +kernel
theorem d_A_law_1373 : decode c_A_law 1373 = .ok (.laload, 1) := by decide +kernel
theorem d_A_law_1374 : decode c_A_law 1374 = .ok (.iload 6, 2) := by decide +kernel
theorem d_A_law_1376 : decode c_A_law 1376 = .ok (.i2l, 1) := by decide +kernel
theorem d_A_law_1377 : decode c_A_law 1377 = .ok (.lcmp, 1) := by decide +kernel
theorem d_A_law_1378 : decode c_A_law 1378 = .ok (.ifCond .eq 5, 3) := by decide +kernel
theorem d_A_law_1381 : decode c_A_law 1381 = .ok (.iconst 0, 1) := by decide +kernel
theorem d_A_law_1382 : decode c_A_law 1382 = .ok (.ireturn, 1) := by decide +kernel
theorem d_A_law_1383 : decode c_A_law 1383 = .ok (.goto 852, 3) := by decide +kernel
theorem d_A_law_1386 : decode c_A_law 1386 = .ok (.aload_n 1, 1) := by decide +kernel
theorem d_A_law_1387 : decode c_A_law 1387 = .ok (.aload_n 0, 1) := by decide +kernel
theorem d_A_law_1388 : decode c_A_law 1388 = .ok (.iload 4, 2) := by decide +kernel
theorem d_A_law_1390 : decode c_A_law 1390 = .ok (.iconst 1, 1) := by decide +kernel
theorem d_A_law_1391 : decode c_A_law 1391 = .ok (.iadd, 1) := by decide +kernel
theorem d_A_law_1392 : decode c_A_law 1392 = .ok (.iaload, 1) := by decide +kernel
theorem d_A_law_1393 : decode c_A_law 1393 = .ok (.aload_n 0, 1) := by decide +kernel
theorem d_A_law_1394 : decode c_A_law 1394 = .ok (.iload 4, 2) := by decide +kernel
theorem d_A_law_1396 : decode c_A_law 1396 = .ok (.iconst 2, 1) := by decide +kernel
theorem d_A_law_1397 : decode c_A_law 1397 = .ok (.iadd, 1) := by decide +kernel
theorem d_A_law_1398 : decode c_A_law 1398 = .ok (.iaload, 1) := by decide +kernel
theorem d_A_law_1399 : decode c_A_law 1399 = .ok (.aload_n 0, 1) := by decide +kernel
theorem d_A_law_1400 : decode c_A_law 1400 = .ok (.iload 4, 2) := by decide +kernel
theorem d_A_law_1402 : decode c_A_law 1402 = .ok (.iconst 3, 1) := by decide +kernel
theorem d_A_law_1403 : decode c_A_law 1403 = .ok (.iadd, 1) := by decide +kernel
theorem d_A_law_1404 : decode c_A_law 1404 = .ok (.iaload, 1) := by decide +kernel
theorem d_A_law_1405 : decode c_A_law 1405 = .ok (.aload_n 0, 1) := by decide +kernel
theorem d_A_law_1406 : decode c_A_law 1406 = .ok (.iload 4, 2) := by decide +kernel
theorem d_A_law_1408 : decode c_A_law 1408 = .ok (.iconst 4, 1) := by decide +kernel
theorem d_A_law_1409 : decode c_A_law 1409 = .ok (.iadd, 1) := by decide +kernel
theorem d_A_law_1410 : decode c_A_law 1410 = .ok (.iaload, 1) := by decide +kernel
theorem d_A_law_1411 : decode c_A_law 1411 = .ok (.aload_n 3, 1) := by decide +kernel
theorem d_A_law_1412 : decode c_A_law 1412 = .ok (.invokestatic 182, 3) := by decide +kernel
theorem d_A_law_1415 : decode c_A_law 1415 = .ok (.istore 5, 2) := by decide +kernel
theorem d_A_law_1417 : decode c_A_law 1417 = .ok (.aload_n 2, 1) := by decide +kernel
theorem d_A_law_1418 : decode c_A_law 1418 = .ok (.aload_n 0, 1) := by decide +kernel
theorem d_A_law_1419 : decode c_A_law 1419 = .ok (.iload 4, 2) := by decide +kernel
theorem d_A_law_1421 : decode c_A_law 1421 = .ok (.iconst 1, 1) := by decide +kernel
theorem d_A_law_1422 : decode c_A_law 1422 = .ok (.iadd, 1) := by decide +kernel
theorem d_A_law_1423 : decode c_A_law 1423 = .ok (.iaload, 1) := by decide +kernel
theorem d_A_law_1424 : decode c_A_law 1424 = .ok (.aload_n 0, 1) := by decide +kernel
theorem d_A_law_1425 : decode c_A_law 1425 = .ok (.iload 4, 2) := by decide +kernel
theorem d_A_law_1427 : decode c_A_law 1427 = .ok (.iconst 2, 1) := by decide +kernel
theorem d_A_law_1428 : decode c_A_law 1428 = .ok (.iadd, 1) := by decide +kernel
theorem d_A_law_1429 : decode c_A_law 1429 = .ok (.iaload, 1) := by decide +kernel
theorem d_A_law_1430 : decode c_A_law 1430 = .ok (.aload_n 0, 1) := by decide +kernel
theorem d_A_law_1431 : decode c_A_law 1431 = .ok (.iload 4, 2) := by decide +kernel
theorem d_A_law_1433 : decode c_A_law 1433 = .ok (.iconst 3, 1) := by decide +kernel
theorem d_A_law_1434 : decode c_A_law 1434 = .ok (.iadd, 1) := by decide +kernel
theorem d_A_law_1435 : decode c_A_law 1435 = .ok (.iaload, 1) := by decide +kernel
theorem d_A_law_1436 : decode c_A_law 1436 = .ok (.aload_n 0, 1) := by decide +kernel
theorem d_A_law_1437 : decode c_A_law 1437 = .ok (.iload 4, 2) := by decide +kernel
theorem d_A_law_1439 : decode c_A_law 1439 = .ok (.iconst 4, 1) := by decide +kernel
theorem d_A_law_1440 : decode c_A_law 1440 = .ok (.iadd, 1) := by decide +kernel
theorem d_A_law_1441 : decode c_A_law 1441 = .ok (.iaload, 1) := by decide +kernel
theorem d_A_law_1442 : decode c_A_law 1442 = .ok (.invokevirtual 184, 3) := by decide +kernel
theorem d_A_law_1445 : decode c_A_law 1445 = .ok (.istore 6, 2) := by decide +kernel
theorem d_A_law_1447 : decode c_A_law 1447 = .ok (.aload_n 2, 1) := by decide +kernel
theorem d_A_law_1448 : decode c_A_law 1448 = .ok (.invokevirtual 125, 3) := by decide +kernel
theorem d_A_law_1451 : decode c_A_law 1451 = .ok (.iload 5, 2) := by decide +kernel
theorem d_A_law_1453 : decode c_A_law 1453 = .ok (.if_icmp .eq 5, 3) := by decide +kernel
theorem d_A_law_1456 : decode c_A_law 1456 = .ok (.iconst 0, 1) := by decide +kernel
theorem d_A_law_1457 : decode c_A_law 1457 = .ok (.ireturn, 1) := by decide +kernel
theorem d_A_law_1458 : decode c_A_law 1458 = .ok (.iload 5, 2) := by decide +kernel
theorem d_A_law_1460 : decode c_A_law 1460 = .ok (.ifCond .ne 15, 3) := by decide +kernel
theorem d_A_law_1463 : decode c_A_law 1463 = .ok (.aload_n 3, 1) := by decide +kernel
theorem d_A_law_1464 : decode c_A_law 1464 = .ok (.iconst 0, 1) := by decide +kernel
theorem d_A_law_1465 : decode c_A_law 1465 = .ok (.laload, 1) := by decide +kernel
theorem d_A_law_1466 : decode c_A_law 1466 = .ok (.iload 6, 2) := by decide +kernel
theorem d_A_law_1468 : decode c_A_law 1468 = .ok (.i2l, 1) := by decide +kernel
theorem d_A_law_1469 : decode c_A_law 1469 = .ok (.lcmp, 1) := by decide +kernel
theorem d_A_law_1470 : decode c_A_law 1470 = .ok (.ifCond .eq 5, 3) := by decide +kernel
theorem d_A_law_1473 : decode c_A_law 1473 = .ok (.iconst 0, 1) := by decide +kernel
theorem d_A_law_1474 : decode c_A_law 1474 = .ok (.ireturn, 1) := by decide +kernel
theorem d_A_law_1475 : decode c_A_law 1475 = .ok (.goto 760, 3) := by decide +kernel
theorem d_A_law_1478 : decode c_A_law 1478 = .ok (.aload_n 1, 1) := by decide +kernel
theorem d_A_law_1479 : decode c_A_law 1479 = .ok (.aload_n 3, 1) := by decide +kernel
theorem d_A_law_1480 : decode c_A_law 1480 = .ok (.invokestatic 185, 3) := by decide +kernel
theorem d_A_law_1483 : decode c_A_law 1483 = .ok (.istore 5, 2) := by decide +kernel
theorem d_A_law_1485 : decode c_A_law 1485 = .ok (.aload_n 2, 1) := by decide +kernel
theorem d_A_law_1486 : decode c_A_law 1486 = .ok (.invokevirtual 187, 3) := by decide +kernel
theorem d_A_law_1489 : decode c_A_law 1489 = .ok (.istore 6, 2) := by decide +kernel
theorem d_A_law_1491 : decode c_A_law 1491 = .ok (.aload_n 2, 1) := by decide +kernel
theorem d_A_law_1492 : decode c_A_law 1492 = .ok (.invokevirtual 125, 3) := by decide +kernel
theorem d_A_law_1495 : decode c_A_law 1495 = .ok (.iload 5, 2) := by decide +kernel
theorem d_A_law_1497 : decode c_A_law 1497 = .ok (.if_icmp .eq 5, 3) := by decide +kernel
theorem d_A_law_1500 : decode c_A_law 1500 = .ok (.iconst 0, 1) := by decide +kernel
theorem d_A_law_1501 : decode c_A_law 1501 = .ok (.ireturn, 1) := by decide +kernel
theorem d_A_law_1502 : decode c_A_law 1502 = .ok (.iload 5, 2) := by decide +kernel
theorem d_A_law_1504 : decode c_A_law 1504 = .ok (.ifCond .ne 15, 3) := by decide +kernel
theorem d_A_law_1507 : decode c_A_law 1507 = .ok (.aload_n 3, 1) := by decide +kernel
theorem d_A_law_1508 : decode c_A_law 1508 = .ok (.iconst 0, 1) := by decide +kernel
theorem d_A_law_1509 : decode c_A_law 1509 = .ok (.laload, 1) := by decide +kernel
theorem d_A_law_1510 : decode c_A_law 1510 = .ok (.iload 6, 2) := by decide +kernel
theorem d_A_law_1512 : decode c_A_law 1512 = .ok (.i2l, 1) := by decide +kernel
theorem d_A_law_1513 : decode c_A_law 1513 = .ok (.lcmp, 1) := by decide +kernel
theorem d_A_law_1514 : decode c_A_law 1514 = .ok (.ifCond .eq 5, 3) := by decide +kernel
theorem d_A_law_1517 : decode c_A_law 1517 = .ok (.iconst 0, 1) := by decide +kernel
theorem d_A_law_1518 : decode c_A_law 1518 = .ok (.ireturn, 1) := by decide +kernel
theorem d_A_law_1519 : decode c_A_law 1519 = .ok (.goto 716, 3) := by decide +kernel
theorem d_A_law_1522 : decode c_A_law 1522 = .ok (.aload_n 1, 1) := by decide +kernel
theorem d_A_law_1523 : decode c_A_law 1523 = .ok (.aload_n 0, 1) := by decide +kernel
theorem d_A_law_1524 : decode c_A_law 1524 = .ok (.iload 4, 2) := by decide +kernel
theorem d_A_law_1526 : decode c_A_law 1526 = .ok (.iconst 1, 1) := by decide +kernel
theorem d_A_law_1527 : decode c_A_law 1527 = .ok (.iadd, 1) := by decide +kernel
theorem d_A_law_1528 : decode c_A_law 1528 = .ok (.iaload, 1) := by decide +kernel
theorem d_A_law_1529 : decode c_A_law 1529 = .ok (.aload_n 0, 1) := by decide +kernel
theorem d_A_law_1530 : decode c_A_law 1530 = .ok (.iload 4, 2) := by decide +kernel
theorem d_A_law_1532 : decode c_A_law 1532 = .ok (.iconst 2, 1) := by decide +kernel
theorem d_A_law_1533 : decode c_A_law 1533 = .ok (.iadd, 1) := by decide +kernel
theorem d_A_law_1534 : decode c_A_law 1534 = .ok (.iaload, 1) := by decide +kernel
theorem d_A_law_1535 : decode c_A_law 1535 = .ok (.aload_n 3, 1) := by decide +kernel
theorem d_A_law_1536 : decode c_A_law 1536 = .ok (.invokestatic 188, 3) := by decide +kernel
theorem d_A_law_1539 : decode c_A_law 1539 = .ok (.istore 5, 2) := by decide +kernel
theorem d_A_law_1541 : decode c_A_law 1541 = .ok (.aload_n 2, 1) := by decide +kernel
theorem d_A_law_1542 : decode c_A_law 1542 = .ok (.aload_n 0, 1) := by decide +kernel
theorem d_A_law_1543 : decode c_A_law 1543 = .ok (.iload 4, 2) := by decide +kernel
theorem d_A_law_1545 : decode c_A_law 1545 = .ok (.iconst 1, 1) := by decide +kernel
theorem d_A_law_1546 : decode c_A_law 1546 = .ok (.iadd, 1) := by decide +kernel
theorem d_A_law_1547 : decode c_A_law 1547 = .ok (.iaload, 1) := by decide +kernel
theorem d_A_law_1548 : decode c_A_law 1548 = .ok (.aload_n 0, 1) := by decide +kernel
theorem d_A_law_1549 : decode c_A_law 1549 = .ok (.iload 4, 2) := by decide +kernel
theorem d_A_law_1551 : decode c_A_law 1551 = .ok (.iconst 2, 1) := by decide +kernel
theorem d_A_law_1552 : decode c_A_law 1552 = .ok (.iadd, 1) := by decide +kernel
theorem d_A_law_1553 : decode c_A_law 1553 = .ok (.iaload, 1) := by decide +kernel
theorem d_A_law_1554 : decode c_A_law 1554 = .ok (.invokevirtual 190, 3) := by decide +kernel
theorem d_A_law_1557 : decode c_A_law 1557 = .ok (.istore 6, 2) := by decide +kernel
theorem d_A_law_1559 : decode c_A_law 1559 = .ok (.aload_n 2, 1) := by decide +kernel
theorem d_A_law_1560 : decode c_A_law 1560 = .ok (.invokevirtual 125, 3) := by decide +kernel
theorem d_A_law_1563 : decode c_A_law 1563 = .ok (.iload 5, 2) := by decide +kernel
theorem d_A_law_1565 : decode c_A_law 1565 = .ok (.if_icmp .eq 5, 3) := by decide +kernel
theorem d_A_law_1568 : decode c_A_law 1568 = .ok (.iconst 0, 1) := by decide +kernel
theorem d_A_law_1569 : decode c_A_law 1569 = .ok (.ireturn, 1) := by decide +kernel
theorem d_A_law_1570 : decode c_A_law 1570 = .ok (.iload 5, 2) := by decide +kernel
theorem d_A_law_1572 : decode c_A_law 1572 = .ok (.ifCond .ne 15, 3) := by decide +kernel
theorem d_A_law_1575 : decode c_A_law 1575 = .ok (.aload_n 3, 1) := by decide +kernel
theorem d_A_law_1576 : decode c_A_law 1576 = .ok (.iconst 0, 1) := by decide +kernel
theorem d_A_law_1577 : decode c_A_law 1577 = .ok (.laload, 1) := by decide +kernel
theorem d_A_law_1578 : decode c_A_law 1578 = .ok (.iload 6, 2) := by decide +kernel
theorem d_A_law_1580 : decode c_A_law 1580 = .ok (.i2l, 1) := by decide +kernel
theorem d_A_law_1581 : decode c_A_law 1581 = .ok (.lcmp, 1) := by decide +kernel
theorem d_A_law_1582 : decode c_A_law 1582 = .ok (.ifCond .eq 5, 3) := by decide +kernel
theorem d_A_law_1585 : decode c_A_law 1585 = .ok (.iconst 0, 1) := by decide +kernel
theorem d_A_law_1586 : decode c_A_law 1586 = .ok (.ireturn, 1) := by decide +kernel
theorem d_A_law_1587 : decode c_A_law 1587 = .ok (.goto 648, 3) := by decide +kernel
theorem d_A_law_1590 : decode c_A_law 1590 = .ok (.aload_n 1, 1) := by decide +kernel
theorem d_A_law_1591 : decode c_A_law 1591 = .ok (.aload_n 0, 1) := by decide +kernel
theorem d_A_law_1592 : decode c_A_law 1592 = .ok (.iload 4, 2) := by decide +kernel
theorem d_A_law_1594 : decode c_A_law 1594 = .ok (.iconst 1, 1) := by decide +kernel
theorem d_A_law_1595 : decode c_A_law 1595 = .ok (.iadd, 1) := by decide +kernel
theorem d_A_law_1596 : decode c_A_law 1596 = .ok (.iaload, 1) := by decide +kernel
theorem d_A_law_1597 : decode c_A_law 1597 = .ok (.aload_n 0, 1) := by decide +kernel
theorem d_A_law_1598 : decode c_A_law 1598 = .ok (.iload 4, 2) := by decide +kernel
theorem d_A_law_1600 : decode c_A_law 1600 = .ok (.iconst 2, 1) := by decide +kernel
theorem d_A_law_1601 : decode c_A_law 1601 = .ok (.iadd, 1) := by decide +kernel
theorem d_A_law_1602 : decode c_A_law 1602 = .ok (.iaload, 1) := by decide +kernel
theorem d_A_law_1603 : decode c_A_law 1603 = .ok (.aload_n 0, 1) := by decide +kernel
theorem d_A_law_1604 : decode c_A_law 1604 = .ok (.iload 4, 2) := by decide +kernel
theorem d_A_law_1606 : decode c_A_law 1606 = .ok (.iconst 3, 1) := by decide +kernel
theorem d_A_law_1607 : decode c_A_law 1607 = .ok (.iadd, 1) := by decide +kernel
theorem d_A_law_1608 : decode c_A_law 1608 = .ok (.iaload, 1) := by decide +kernel
theorem d_A_law_1609 : decode c_A_law 1609 = .ok (.ifCond .eq 7, 3) := by decide +kernel
theorem d_A_law_1612 : decode c_A_law 1612 = .ok (.iconst 1, 1) := by decide +kernel
theorem d_A_law_1613 : decode c_A_law 1613 = .ok (.goto 4, 3) := by decide +kernel
theorem d_A_law_1616 : decode c_A_law 1616 = .ok (.iconst 0, 1) := by decide +kernel
theorem d_A_law_1617 : decode c_A_law 1617 = .ok (.aload_n 3, 1) := by decide +kernel
theorem d_A_law_1618 : decode c_A_law 1618 = .ok (.invokestatic 191, 3) := by decide +kernel
theorem d_A_law_1621 : decode c_A_law 1621 = .ok (.istore 5, 2) := by decide +kernel
theorem d_A_law_1623 : decode c_A_law 1623 = .ok (.aload_n 2, 1) := by decide +kernel
theorem d_A_law_1624 : decode c_A_law 1624 = .ok (.aload_n 0, 1) := by decide +kernel
theorem d_A_law_1625 : decode c_A_law 1625 = .ok (.iload 4, 2) := by decide +kernel
theorem d_A_law_1627 : decode c_A_law 1627 = .ok (.iconst 1, 1) := by decide +kernel
theorem d_A_law_1628 : decode c_A_law 1628 = .ok (.iadd, 1) := by decide +kernel
theorem d_A_law_1629 : decode c_A_law 1629 = .ok (.iaload, 1) := by decide +kernel
theorem d_A_law_1630 : decode c_A_law 1630 = .ok (.aload_n 0, 1) := by decide +kernel
theorem d_A_law_1631 : decode c_A_law 1631 = .ok (.iload 4, 2) := by decide +kernel
theorem d_A_law_1633 : decode c_A_law 1633 = .ok (.iconst 2, 1) := by decide +kernel
theorem d_A_law_1634 : decode c_A_law 1634 = .ok (.iadd, 1) := by decide +kernel
theorem d_A_law_1635 : decode c_A_law 1635 = .ok (.iaload, 1) := by decide +kernel
theorem d_A_law_1636 : decode c_A_law 1636 = .ok (.aload_n 0, 1) := by decide +kernel
theorem d_A_law_1637 : decode c_A_law 1637 = .ok (.iload 4, 2) := by decide +kernel
theorem d_A_law_1639 : decode c_A_law 1639 = .ok (.iconst 3, 1) := by decide +kernel
theorem d_A_law_1640 : decode c_A_law 1640 = .ok (.iadd, 1) := by decide +kernel
theorem d_A_law_1641 : decode c_A_law 1641 = .ok (.iaload, 1) := by decide +kernel
theorem d_A_law_1642 : decode c_A_law 1642 = .ok (.ifCond .eq 7, 3) := by decide +kernel
theorem d_A_law_1645 : decode c_A_law 1645 = .ok (.iconst 1, 1) := by decide +kernel
theorem d_A_law_1646 : decode c_A_law 1646 = .ok (.goto 4, 3) := by decide +kernel
theorem d_A_law_1649 : decode c_A_law 1649 = .ok (.iconst 0, 1) := by decide +kernel
theorem d_A_law_1650 : decode c_A_law 1650 = .ok (.invokevirtual 194, 3) := by decide +kernel
theorem d_A_law_1653 : decode c_A_law 1653 = .ok (.istore 6, 2) := by decide +kernel
theorem d_A_law_1655 : decode c_A_law 1655 = .ok (.aload_n 2, 1) := by decide +kernel
theorem d_A_law_1656 : decode c_A_law 1656 = .ok (.invokevirtual 125, 3) := by decide +kernel
theorem d_A_law_1659 : decode c_A_law 1659 = .ok (.iload 5, 2) := by decide +kernel
theorem d_A_law_1661 : decode c_A_law 1661 = .ok (.if_icmp .eq 5, 3) := by decide +kernel
theorem d_A_law_1664 : decode c_A_law 1664 = .ok (.iconst 0, 1) := by decide +kernel
theorem d_A_law_1665 : decode c_A_law 1665 = .ok (.ireturn, 1) := by decide +kernel
theorem d_A_law_1666 : decode c_A_law 1666 = .ok (.iload 5, 2) := by decide +kernel
theorem d_A_law_1668 : decode c_A_law 1668 = .ok (.ifCond .ne 15, 3) := by decide +kernel
theorem d_A_law_1671 : decode c_A_law 1671 = .ok (.aload_n 3, 1) := by decide +kernel
theorem d_A_law_1672 : decode c_A_law 1672 = .ok (.iconst 0, 1) := by decide +kernel
theorem d_A_law_1673 : decode c_A_law 1673 = .ok (.laload, 1) := by decide +kernel
theorem d_A_law_1674 : decode c_A_law 1674 = .ok (.iload 6, 2) := by decide +kernel
theorem d_A_law_1676 : decode c_A_law 1676 = .ok (.i2l, 1) := by decide +kernel
theorem d_A_law_1677 : decode c_A_law 1677 = .ok (.lcmp, 1) := by decide +kernel
theorem d_A_law_1678 : decode c_A_law 1678 = .ok (.ifCond .eq 5, 3) := by decide +kernel
theorem d_A_law_1681 : decode c_A_law 1681 = .ok (.iconst 0, 1) := by decide +kernel
theorem d_A_law_1682 : decode c_A_law 1682 = .ok (.ireturn, 1) := by decide +kernel
theorem d_A_law_1683 : decode c_A_law 1683 = .ok (.goto 552, 3) := by decide +kernel
theorem d_A_law_1686 : decode c_A_law 1686 = .ok (.aload_n 1, 1) := by decide +kernel
theorem d_A_law_1687 : decode c_A_law 1687 = .ok (.aload_n 0, 1) := by decide +kernel
theorem d_A_law_1688 : decode c_A_law 1688 = .ok (.iload 4, 2) := by decide +kernel
theorem d_A_law_1690 : decode c_A_law 1690 = .ok (.iconst 1, 1) := by decide +kernel
theorem d_A_law_1691 : decode c_A_law 1691 = .ok (.iadd, 1) := by decide +kernel
theorem d_A_law_1692 : decode c_A_law 1692 = .ok (.iaload, 1) := by decide +kernel
theorem d_A_law_1693 : decode c_A_law 1693 = .ok (.aload_n 0, 1) := by decide +kernel
theorem d_A_law_1694 : decode c_A_law 1694 = .ok (.iload 4, 2) := by decide +kernel
theorem d_A_law_1696 : decode c_A_law 1696 = .ok (.iconst 2, 1) := by decide +kernel
theorem d_A_law_1697 : decode c_A_law 1697 = .ok (.iadd, 1) := by decide +kernel
theorem d_A_law_1698 : decode c_A_law 1698 = .ok (.iaload, 1) := by decide +kernel
theorem d_A_law_1699 : decode c_A_law 1699 = .ok (.aload_n 3, 1) := by decide +kernel
theorem d_A_law_1700 : decode c_A_law 1700 = .ok (.invokestatic 195, 3) := by decide +kernel
theorem d_A_law_1703 : decode c_A_law 1703 = .ok (.istore 5, 2) := by decide +kernel
theorem d_A_law_1705 : decode c_A_law 1705 = .ok (.aload_n 2, 1) := by decide +kernel
theorem d_A_law_1706 : decode c_A_law 1706 = .ok (.aload_n 0, 1) := by decide +kernel
theorem d_A_law_1707 : decode c_A_law 1707 = .ok (.iload 4, 2) := by decide +kernel
theorem d_A_law_1709 : decode c_A_law 1709 = .ok (.iconst 1, 1) := by decide +kernel
theorem d_A_law_1710 : decode c_A_law 1710 = .ok (.iadd, 1) := by decide +kernel
theorem d_A_law_1711 : decode c_A_law 1711 = .ok (.iaload, 1) := by decide +kernel
theorem d_A_law_1712 : decode c_A_law 1712 = .ok (.aload_n 0, 1) := by decide +kernel
theorem d_A_law_1713 : decode c_A_law 1713 = .ok (.iload 4, 2) := by decide +kernel
theorem d_A_law_1715 : decode c_A_law 1715 = .ok (.iconst 2, 1) := by decide +kernel
theorem d_A_law_1716 : decode c_A_law 1716 = .ok (.iadd, 1) := by decide +kernel
theorem d_A_law_1717 : decode c_A_law 1717 = .ok (.iaload, 1) := by decide +kernel
theorem d_A_law_1718 : decode c_A_law 1718 = .ok (.invokevirtual 197, 3) := by decide +kernel
theorem d_A_law_1721 : decode c_A_law 1721 = .ok (.istore 6, 2) := by decide +kernel
theorem d_A_law_1723 : decode c_A_law 1723 = .ok (.aload_n 2, 1) := by decide +kernel
theorem d_A_law_1724 : decode c_A_law 1724 = .ok (.invokevirtual 125, 3) := by decide +kernel
theorem d_A_law_1727 : decode c_A_law 1727 = .ok (.iload 5, 2) := by decide +kernel
theorem d_A_law_1729 : decode c_A_law 1729 = .ok (.if_icmp .eq 5, 3) := by decide +kernel
theorem d_A_law_1732 : decode c_A_law 1732 = .ok (.iconst 0, 1) := by decide +kernel
theorem d_A_law_1733 : decode c_A_law 1733 = .ok (.ireturn, 1) := by decide +kernel
theorem d_A_law_1734 : decode c_A_law 1734 = .ok (.iload 5, 2) := by decide +kernel
theorem d_A_law_1736 : decode c_A_law 1736 = .ok (.ifCond .ne 15, 3) := by decide +kernel
theorem d_A_law_1739 : decode c_A_law 1739 = .ok (.aload_n 3, 1) := by decide +kernel
theorem d_A_law_1740 : decode c_A_law 1740 = .ok (.iconst 0, 1) := by decide +kernel
theorem d_A_law_1741 : decode c_A_law 1741 = .ok (.laload, 1) := by decide +kernel
theorem d_A_law_1742 : decode c_A_law 1742 = .ok (.iload 6, 2) := by decide +kernel
theorem d_A_law_1744 : decode c_A_law 1744 = .ok (.i2l, 1) := by decide +kernel
theorem d_A_law_1745 : decode c_A_law 1745 = .ok (.lcmp, 1) := by decide +kernel
theorem d_A_law_1746 : decode c_A_law 1746 = .ok (.ifCond .eq 5, 3) := by decide +kernel
theorem d_A_law_1749 : decode c_A_law 1749 = .ok (.iconst 0, 1) := by decide +kernel
theorem d_A_law_1750 : decode c_A_law 1750 = .ok (.ireturn, 1) := by decide +kernel
theorem d_A_law_1751 : decode c_A_law 1751 = .ok (.goto 484, 3) := by decide +kernel
theorem d_A_law_1754 : decode c_A_law 1754 = .ok (.aload_n 1, 1) := by decide +kernel
theorem d_A_law_1755 : decode c_A_law 1755 = .ok (.aload_n 0, 1) := by decide +kernel
theorem d_A_law_1756 : decode c_A_law 1756 = .ok (.iload 4, 2) := by decide +kernel
theorem d_A_law_1758 : decode c_A_law 1758 = .ok (.iconst 1, 1) := by decide +kernel
theorem d_A_law_1759 : decode c_A_law 1759 = .ok (.iadd, 1) := by decide +kernel
theorem d_A_law_1760 : decode c_A_law 1760 = .ok (.iaload, 1) := by decide +kernel
theorem d_A_law_1761 : decode c_A_law 1761 = .ok (.aload_n 0, 1) := by decide +kernel
theorem d_A_law_1762 : decode c_A_law 1762 = .ok (.iload 4, 2) := by decide +kernel
theorem d_A_law_1764 : decode c_A_law 1764 = .ok (.iconst 2, 1) := by decide +kernel
theorem d_A_law_1765 : decode c_A_law 1765 = .ok (.iadd, 1) := by decide +kernel
theorem d_A_law_1766 : decode c_A_law 1766 = .ok (.iaload, 1) := by decide +kernel
theorem d_A_law_1767 : decode c_A_law 1767 = .ok (.aload_n 3, 1) := by decide +kernel
theorem d_A_law_1768 : decode c_A_law 1768 = .ok (.invokestatic 198, 3) := by decide +kernel
theorem d_A_law_1771 : decode c_A_law 1771 = .ok (.istore 5, 2) := by decide +kernel
theorem d_A_law_1773 : decode c_A_law 1773 = .ok (.aload_n 2, 1) := by decide +kernel
theorem d_A_law_1774 : decode c_A_law 1774 = .ok (.aload_n 0, 1) := by decide +kernel
theorem d_A_law_1775 : decode c_A_law 1775 = .ok (.iload 4, 2) := by decide +kernel
theorem d_A_law_1777 : decode c_A_law 1777 = .ok (.iconst 1, 1) := by decide +kernel
theorem d_A_law_1778 : decode c_A_law 1778 = .ok (.iadd, 1) := by decide +kernel
theorem d_A_law_1779 : decode c_A_law 1779 = .ok (.iaload, 1) := by decide +kernel
theorem d_A_law_1780 : decode c_A_law 1780 = .ok (.aload_n 0, 1) := by decide +kernel
theorem d_A_law_1781 : decode c_A_law 1781 = .ok (.iload 4, 2) := by decide +kernel
theorem d_A_law_1783 : decode c_A_law 1783 = .ok (.iconst 2, 1) := by decide +kernel
theorem d_A_law_1784 : decode c_A_law 1784 = .ok (.iadd, 1) := by decide +kernel
theorem d_A_law_1785 : decode c_A_law 1785 = .ok (.iaload, 1) := by decide +kernel
theorem d_A_law_1786 : decode c_A_law 1786 = .ok (.invokevirtual 200, 3) := by decide +kernel
theorem d_A_law_1789 : decode c_A_law 1789 = .ok (.istore 6, 2) := by decide +kernel
theorem d_A_law_1791 : decode c_A_law 1791 = .ok (.aload_n 2, 1) := by decide +kernel
theorem d_A_law_1792 : decode c_A_law 1792 = .ok (.invokevirtual 125, 3) := by decide +kernel
theorem d_A_law_1795 : decode c_A_law 1795 = .ok (.iload 5, 2) := by decide +kernel
theorem d_A_law_1797 : decode c_A_law 1797 = .ok (.if_icmp .eq 5, 3) := by decide +kernel
theorem d_A_law_1800 : decode c_A_law 1800 = .ok (.iconst 0, 1) := by decide +kernel
theorem d_A_law_1801 : decode c_A_law 1801 = .ok (.ireturn, 1) := by decide +kernel
theorem d_A_law_1802 : decode c_A_law 1802 = .ok (.iload 5, 2) := by decide +kernel
theorem d_A_law_1804 : decode c_A_law 1804 = .ok (.ifCond .ne 15, 3) := by decide +kernel
theorem d_A_law_1807 : decode c_A_law 1807 = .ok (.aload_n 3, 1) := by decide +kernel
theorem d_A_law_1808 : decode c_A_law 1808 = .ok (.iconst 0, 1) := by decide +kernel
theorem d_A_law_1809 : decode c_A_law 1809 = .ok (.laload, 1) := by decide +kernel
theorem d_A_law_1810 : decode c_A_law 1810 = .ok (.iload 6, 2) := by decide +kernel
theorem d_A_law_1812 : decode c_A_law 1812 = .ok (.i2l, 1) := by decide +kernel
theorem d_A_law_1813 : decode c_A_law 1813 = .ok (.lcmp, 1) := by decide +kernel
theorem d_A_law_1814 : decode c_A_law 1814 = .ok (.ifCond .eq 5, 3) := by decide +kernel
theorem d_A_law_1817 : decode c_A_law 1817 = .ok (.iconst 0, 1) := by decide +kernel
theorem d_A_law_1818 : decode c_A_law 1818 = .ok (.ireturn, 1) := by decide +kernel
theorem d_A_law_1819 : decode c_A_law 1819 = .ok (.goto 416, 3) := by decide +kernel
theorem d_A_law_1822 : decode c_A_law 1822 = .ok (.aload_n 1, 1) := by decide +kernel
theorem d_A_law_1823 : decode c_A_law 1823 = .ok (.aload_n 0, 1) := by decide +kernel
theorem d_A_law_1824 : decode c_A_law 1824 = .ok (.iload 4, 2) := by decide +kernel
theorem d_A_law_1826 : decode c_A_law 1826 = .ok (.iconst 1, 1) := by decide +kernel
theorem d_A_law_1827 : decode c_A_law 1827 = .ok (.iadd, 1) := by decide +kernel
theorem d_A_law_1828 : decode c_A_law 1828 = .ok (.iaload, 1) := by decide +kernel
theorem d_A_law_1829 : decode c_A_law 1829 = .ok (.aload_n 0, 1) := by decide +kernel
theorem d_A_law_1830 : decode c_A_law 1830 = .ok (.iload 4, 2) := by decide +kernel
theorem d_A_law_1832 : decode c_A_law 1832 = .ok (.iconst 2, 1) := by decide +kernel
theorem d_A_law_1833 : decode c_A_law 1833 = .ok (.iadd, 1) := by decide +kernel
theorem d_A_law_1834 : decode c_A_law 1834 = .ok (.iaload, 1) := by decide +kernel
theorem d_A_law_1835 : decode c_A_law 1835 = .ok (.aload_n 3, 1) := by decide +kernel
theorem d_A_law_1836 : decode c_A_law 1836 = .ok (.invokestatic 201, 3) := by decide +kernel
theorem d_A_law_1839 : decode c_A_law 1839 = .ok (.istore 5, 2) := by decide +kernel
theorem d_A_law_1841 : decode c_A_law 1841 = .ok (.aload_n 2, 1) := by decide +kernel
theorem d_A_law_1842 : decode c_A_law 1842 = .ok (.aload_n 0, 1) := by decide +kernel
theorem d_A_law_1843 : decode c_A_law 1843 = .ok (.iload 4, 2) := by decide +kernel
theorem d_A_law_1845 : decode c_A_law 1845 = .ok (.iconst 1, 1) := by decide +kernel
theorem d_A_law_1846 : decode c_A_law 1846 = .ok (.iadd, 1) := by decide +kernel
theorem d_A_law_1847 : decode c_A_law 1847 = .ok (.iaload, 1) := by decide +kernel
theorem d_A_law_1848 : decode c_A_law 1848 = .ok (.aload_n 0, 1) := by decide +kernel
theorem d_A_law_1849 : decode c_A_law 1849 = .ok (.iload 4, 2) := by decide +kernel
theorem d_A_law_1851 : decode c_A_law 1851 = .ok (.iconst 2, 1) := by decide +kernel
theorem d_A_law_1852 : decode c_A_law 1852 = .ok (.iadd, 1) := by decide +kernel
theorem d_A_law_1853 : decode c_A_law 1853 = .ok (.iaload, 1) := by decide +kernel
theorem d_A_law_1854 : decode c_A_law 1854 = .ok (.invokevirtual 203, 3) := by decide +kernel
theorem d_A_law_1857 : decode c_A_law 1857 = .ok (.istore 6, 2) := by decide +kernel
theorem d_A_law_1859 : decode c_A_law 1859 = .ok (.aload_n 2, 1) := by decide +kernel
theorem d_A_law_1860 : decode c_A_law 1860 = .ok (.invokevirtual 125, 3) := by decide +kernel
theorem d_A_law_1863 : decode c_A_law 1863 = .ok (.iload 5, 2) := by decide +kernel
theorem d_A_law_1865 : decode c_A_law 1865 = .ok (.if_icmp .eq 5, 3) := by decide +kernel
theorem d_A_law_1868 : decode c_A_law 1868 = .ok (.iconst 0, 1) := by decide +kernel
theorem d_A_law_1869 : decode c_A_law 1869 = .ok (.ireturn, 1) := by decide +kernel
theorem d_A_law_1870 : decode c_A_law 1870 = .ok (.iload 5, 2) := by decide +kernel
theorem d_A_law_1872 : decode c_A_law 1872 = .ok (.ifCond .ne 15, 3) := by decide +kernel
theorem d_A_law_1875 : decode c_A_law 1875 = .ok (.aload_n 3, 1) := by decide +kernel
theorem d_A_law_1876 : decode c_A_law 1876 = .ok (.iconst 0, 1) := by decide +kernel
theorem d_A_law_1877 : decode c_A_law 1877 = .ok (.laload, 1) := by decide +kernel
theorem d_A_law_1878 : decode c_A_law 1878 = .ok (.iload 6, 2) := by decide +kernel
theorem d_A_law_1880 : decode c_A_law 1880 = .ok (.i2l, 1) := by decide +kernel
theorem d_A_law_1881 : decode c_A_law 1881 = .ok (.lcmp, 1) := by decide +kernel
theorem d_A_law_1882 : decode c_A_law 1882 = .ok (.ifCond .eq 5, 3) := by decide +kernel
theorem d_A_law_1885 : decode c_A_law 1885 = .ok (.iconst 0, 1) := by decide +kernel
theorem d_A_law_1886 : decode c_A_law 1886 = .ok (.ireturn, 1) := by decide +kernel
theorem d_A_law_1887 : decode c_A_law 1887 = .ok (.goto 348, 3) := by decide +kernel
theorem d_A_law_1890 : decode c_A_law 1890 = .ok (.aload_n 1, 1) := by decide +kernel
theorem d_A_law_1891 : decode c_A_law 1891 = .ok (.aload_n 0, 1) := by decide +kernel
theorem d_A_law_1892 : decode c_A_law 1892 = .ok (.iload 4, 2) := by decide +kernel
theorem d_A_law_1894 : decode c_A_law 1894 = .ok (.iconst 1, 1) := by decide +kernel
theorem d_A_law_1895 : decode c_A_law 1895 = .ok (.iadd, 1) := by decide +kernel
theorem d_A_law_1896 : decode c_A_law 1896 = .ok (.iaload, 1) := by decide +kernel
theorem d_A_law_1897 : decode c_A_law 1897 = .ok (.aload_n 0, 1) := by decide +kernel
theorem d_A_law_1898 : decode c_A_law 1898 = .ok (.iload 4, 2) := by decide +kernel
theorem d_A_law_1900 : decode c_A_law 1900 = .ok (.iconst 2, 1) := by decide +kernel
theorem d_A_law_1901 : decode c_A_law 1901 = .ok (.iadd, 1) := by decide +kernel
theorem d_A_law_1902 : decode c_A_law 1902 = .ok (.iaload, 1) := by decide +kernel
theorem d_A_law_1903 : decode c_A_law 1903 = .ok (.aload_n 0, 1) := by decide +kernel
theorem d_A_law_1904 : decode c_A_law 1904 = .ok (.iload 4, 2) := by decide +kernel
theorem d_A_law_1906 : decode c_A_law 1906 = .ok (.iconst 3, 1) := by decide +kernel
theorem d_A_law_1907 : decode c_A_law 1907 = .ok (.iadd, 1) := by decide +kernel
theorem d_A_law_1908 : decode c_A_law 1908 = .ok (.iaload, 1) := by decide +kernel
theorem d_A_law_1909 : decode c_A_law 1909 = .ok (.aload_n 3, 1) := by decide +kernel
theorem d_A_law_1910 : decode c_A_law 1910 = .ok (.invokestatic 204, 3) := by decide +kernel
theorem d_A_law_1913 : decode c_A_law 1913 = .ok (.istore 5, 2) := by decide +kernel
theorem d_A_law_1915 : decode c_A_law 1915 = .ok (.aload_n 2, 1) := by decide +kernel
theorem d_A_law_1916 : decode c_A_law 1916 = .ok (.aload_n 0, 1) := by decide +kernel
theorem d_A_law_1917 : decode c_A_law 1917 = .ok (.iload 4, 2) := by decide +kernel
theorem d_A_law_1919 : decode c_A_law 1919 = .ok (.iconst 1, 1) := by decide +kernel
theorem d_A_law_1920 : decode c_A_law 1920 = .ok (.iadd, 1) := by decide +kernel
theorem d_A_law_1921 : decode c_A_law 1921 = .ok (.iaload, 1) := by decide +kernel
theorem d_A_law_1922 : decode c_A_law 1922 = .ok (.aload_n 0, 1) := by decide +kernel
theorem d_A_law_1923 : decode c_A_law 1923 = .ok (.iload 4, 2) := by decide +kernel
theorem d_A_law_1925 : decode c_A_law 1925 = .ok (.iconst 2, 1) := by decide +kernel
theorem d_A_law_1926 : decode c_A_law 1926 = .ok (.iadd, 1) := by decide +kernel
theorem d_A_law_1927 : decode c_A_law 1927 = .ok (.iaload, 1) := by decide +kernel
theorem d_A_law_1928 : decode c_A_law 1928 = .ok (.aload_n 0, 1) := by decide +kernel
theorem d_A_law_1929 : decode c_A_law 1929 = .ok (.iload 4, 2) := by decide +kernel
theorem d_A_law_1931 : decode c_A_law 1931 = .ok (.iconst 3, 1) := by decide +kernel
theorem d_A_law_1932 : decode c_A_law 1932 = .ok (.iadd, 1) := by decide +kernel
theorem d_A_law_1933 : decode c_A_law 1933 = .ok (.iaload, 1) := by decide +kernel
theorem d_A_law_1934 : decode c_A_law 1934 = .ok (.invokevirtual 206, 3) := by decide +kernel
theorem d_A_law_1937 : decode c_A_law 1937 = .ok (.istore 6, 2) := by decide +kernel
theorem d_A_law_1939 : decode c_A_law 1939 = .ok (.aload_n 2, 1) := by decide +kernel
theorem d_A_law_1940 : decode c_A_law 1940 = .ok (.invokevirtual 125, 3) := by decide +kernel
theorem d_A_law_1943 : decode c_A_law 1943 = .ok (.iload 5, 2) := by decide +kernel
theorem d_A_law_1945 : decode c_A_law 1945 = .ok (.if_icmp .eq 5, 3) := by decide +kernel
theorem d_A_law_1948 : decode c_A_law 1948 = .ok (.iconst 0, 1) := by decide +kernel
theorem d_A_law_1949 : decode c_A_law 1949 = .ok (.ireturn, 1) := by decide +kernel
theorem d_A_law_1950 : decode c_A_law 1950 = .ok (.iload 5, 2) := by decide +kernel
theorem d_A_law_1952 : decode c_A_law 1952 = .ok (.ifCond .ne 15, 3) := by decide +kernel
theorem d_A_law_1955 : decode c_A_law 1955 = .ok (.aload_n 3, 1) := by decide +kernel
theorem d_A_law_1956 : decode c_A_law 1956 = .ok (.iconst 0, 1) := by decide +kernel
theorem d_A_law_1957 : decode c_A_law 1957 = .ok (.laload, 1) := by decide +kernel
theorem d_A_law_1958 : decode c_A_law 1958 = .ok (.iload 6, 2) := by decide +kernel
theorem d_A_law_1960 : decode c_A_law 1960 = .ok (.i2l, 1) := by decide +kernel
theorem d_A_law_1961 : decode c_A_law 1961 = .ok (.lcmp, 1) := by decide +kernel
theorem d_A_law_1962 : decode c_A_law 1962 = .ok (.ifCond .eq 5, 3) := by decide +kernel
theorem d_A_law_1965 : decode c_A_law 1965 = .ok (.iconst 0, 1) := by decide +kernel
theorem d_A_law_1966 : decode c_A_law 1966 = .ok (.ireturn, 1) := by decide +kernel
theorem d_A_law_1967 : decode c_A_law 1967 = .ok (.goto 268, 3) := by decide +kernel
theorem d_A_law_1970 : decode c_A_law 1970 = .ok (.aload_n 1, 1) := by decide +kernel
theorem d_A_law_1971 : decode c_A_law 1971 = .ok (.aload_n 0, 1) := by decide +kernel
theorem d_A_law_1972 : decode c_A_law 1972 = .ok (.iload 4, 2) := by decide +kernel
theorem d_A_law_1974 : decode c_A_law 1974 = .ok (.iconst 1, 1) := by decide +kernel
theorem d_A_law_1975 : decode c_A_law 1975 = .ok (.iadd, 1) := by decide +kernel
theorem d_A_law_1976 : decode c_A_law 1976 = .ok (.iaload, 1) := by decide +kernel
theorem d_A_law_1977 : decode c_A_law 1977 = .ok (.aload_n 0, 1) := by decide +kernel
theorem d_A_law_1978 : decode c_A_law 1978 = .ok (.iload 4, 2) := by decide +kernel
theorem d_A_law_1980 : decode c_A_law 1980 = .ok (.iconst 2, 1) := by decide +kernel
theorem d_A_law_1981 : decode c_A_law 1981 = .ok (.iadd, 1) := by decide +kernel
theorem d_A_law_1982 : decode c_A_law 1982 = .ok (.iaload, 1) := by decide +kernel
theorem d_A_law_1983 : decode c_A_law 1983 = .ok (.aload_n 0, 1) := by decide +kernel
theorem d_A_law_1984 : decode c_A_law 1984 = .ok (.iload 4, 2) := by decide +kernel
theorem d_A_law_1986 : decode c_A_law 1986 = .ok (.iconst 3, 1) := by decide +kernel
theorem d_A_law_1987 : decode c_A_law 1987 = .ok (.iadd, 1) := by decide +kernel
theorem d_A_law_1988 : decode c_A_law 1988 = .ok (.iaload, 1) := by decide +kernel
theorem d_A_law_1989 : decode c_A_law 1989 = .ok (.aload_n 3, 1) := by decide +kernel
theorem d_A_law_1990 : decode c_A_law 1990 = .ok (.invokestatic 207, 3) := by decide +kernel
theorem d_A_law_1993 : decode c_A_law 1993 = .ok (.istore 5, 2) := by decide +kernel
theorem d_A_law_1995 : decode c_A_law 1995 = .ok (.aload_n 2, 1) := by decide +kernel
theorem d_A_law_1996 : decode c_A_law 1996 = .ok (.aload_n 0, 1) := by decide +kernel
theorem d_A_law_1997 : decode c_A_law 1997 = .ok (.iload 4, 2) := by decide +kernel
theorem d_A_law_1999 : decode c_A_law 1999 = .ok (.iconst 1, 1) := by decide +kernel
theorem d_A_law_2000 : decode c_A_law 2000 = .ok (.iadd, 1) := by decide +kernel
theorem d_A_law_2001 : decode c_A_law 2001 = .ok (.iaload, 1) := by decide +kernel
theorem d_A_law_2002 : decode c_A_law 2002 = .ok (.aload_n 0, 1) := by decide +kernel
theorem d_A_law_2003 : decode c_A_law 2003 = .ok (.iload 4, 2) := by decide +kernel
theorem d_A_law_2005 : decode c_A_law 2005 = .ok (.iconst 2, 1) := by decide +kernel
theorem d_A_law_2006 : decode c_A_law 2006 = .ok (.iadd, 1) := by decide +kernel
theorem d_A_law_2007 : decode c_A_law 2007 = .ok (.iaload, 1) := by decide +kernel
theorem d_A_law_2008 : decode c_A_law 2008 = .ok (.aload_n 0, 1) := by decide +kernel
theorem d_A_law_2009 : decode c_A_law 2009 = .ok (.iload 4, 2) := by decide +kernel
theorem d_A_law_2011 : decode c_A_law 2011 = .ok (.iconst 3, 1) := by decide +kernel
theorem d_A_law_2012 : decode c_A_law 2012 = .ok (.iadd, 1) := by decide +kernel
theorem d_A_law_2013 : decode c_A_law 2013 = .ok (.iaload, 1) := by decide +kernel
theorem d_A_law_2014 : decode c_A_law 2014 = .ok (.invokevirtual 209, 3) := by decide +kernel
theorem d_A_law_2017 : decode c_A_law 2017 = .ok (.istore 6, 2) := by decide +kernel
theorem d_A_law_2019 : decode c_A_law 2019 = .ok (.aload_n 2, 1) := by decide +kernel
theorem d_A_law_2020 : decode c_A_law 2020 = .ok (.invokevirtual 125, 3) := by decide +kernel
theorem d_A_law_2023 : decode c_A_law 2023 = .ok (.iload 5, 2) := by decide +kernel
theorem d_A_law_2025 : decode c_A_law 2025 = .ok (.if_icmp .eq 5, 3) := by decide +kernel
theorem d_A_law_2028 : decode c_A_law 2028 = .ok (.iconst 0, 1) := by decide +kernel
theorem d_A_law_2029 : decode c_A_law 2029 = .ok (.ireturn, 1) := by decide +kernel
theorem d_A_law_2030 : decode c_A_law 2030 = .ok (.iload 5, 2) := by decide +kernel
theorem d_A_law_2032 : decode c_A_law 2032 = .ok (.ifCond .ne 15, 3) := by decide +kernel
theorem d_A_law_2035 : decode c_A_law 2035 = .ok (.aload_n 3, 1) := by decide +kernel
theorem d_A_law_2036 : decode c_A_law 2036 = .ok (.iconst 0, 1) := by decide +kernel
theorem d_A_law_2037 : decode c_A_law 2037 = .ok (.laload, 1) := by decide +kernel
theorem d_A_law_2038 : decode c_A_law 2038 = .ok (.iload 6, 2) := by decide +kernel
theorem d_A_law_2040 : decode c_A_law 2040 = .ok (.i2l, 1) := by decide +kernel
theorem d_A_law_2041 : decode c_A_law 2041 = .ok (.lcmp, 1) := by decide +kernel
theorem d_A_law_2042 : decode c_A_law 2042 = .ok (.ifCond .eq 5, 3) := by decide +kernel
theorem d_A_law_2045 : decode c_A_law 2045 = .ok (.iconst 0, 1) := by decide +kernel
theorem d_A_law_2046 : decode c_A_law 2046 = .ok (.ireturn, 1) := by decide +kernel
theorem d_A_law_2047 : decode c_A_law 2047 = .ok (.goto 188, 3) := by decide +kernel
theorem d_A_law_2050 : decode c_A_law 2050 = .ok (.aload_n 1, 1) := by decide +kernel
theorem d_A_law_2051 : decode c_A_law 2051 = .ok (.aload_n 0, 1) := by decide +kernel
theorem d_A_law_2052 : decode c_A_law 2052 = .ok (.iload 4, 2) := by decide +kernel
theorem d_A_law_2054 : decode c_A_law 2054 = .ok (.iconst 1, 1) := by decide +kernel
theorem d_A_law_2055 : decode c_A_law 2055 = .ok (.iadd, 1) := by decide +kernel
theorem d_A_law_2056 : decode c_A_law 2056 = .ok (.iaload, 1) := by decide +kernel
theorem d_A_law_2057 : decode c_A_law 2057 = .ok (.aload_n 0, 1) := by decide +kernel
theorem d_A_law_2058 : decode c_A_law 2058 = .ok (.iload 4, 2) := by decide +kernel
theorem d_A_law_2060 : decode c_A_law 2060 = .ok (.iconst 2, 1) := by decide +kernel
theorem d_A_law_2061 : decode c_A_law 2061 = .ok (.iadd, 1) := by decide +kernel
theorem d_A_law_2062 : decode c_A_law 2062 = .ok (.iaload, 1) := by decide +kernel
theorem d_A_law_2063 : decode c_A_law 2063 = .ok (.aload_n 3, 1) := by decide +kernel
theorem d_A_law_2064 : decode c_A_law 2064 = .ok (.invokestatic 210, 3) := by decide +kernel
theorem d_A_law_2067 : decode c_A_law 2067 = .ok (.istore 5, 2) := by decide +kernel
theorem d_A_law_2069 : decode c_A_law 2069 = .ok (.aload_n 2, 1) := by decide +kernel
theorem d_A_law_2070 : decode c_A_law 2070 = .ok (.aload_n 0, 1) := by decide +kernel
theorem d_A_law_2071 : decode c_A_law 2071 = .ok (.iload 4, 2) := by decide +kernel
theorem d_A_law_2073 : decode c_A_law 2073 = .ok (.iconst 1, 1) := by decide +kernel
theorem d_A_law_2074 : decode c_A_law 2074 = .ok (.iadd, 1) := by decide +kernel
theorem d_A_law_2075 : decode c_A_law 2075 = .ok (.iaload, 1) := by decide +kernel
theorem d_A_law_2076 : decode c_A_law 2076 = .ok (.aload_n 0, 1) := by decide +kernel
theorem d_A_law_2077 : decode c_A_law 2077 = .ok (.iload 4, 2) := by decide +kernel
theorem d_A_law_2079 : decode c_A_law 2079 = .ok (.iconst 2, 1) := by decide +kernel
theorem d_A_law_2080 : decode c_A_law 2080 = .ok (.iadd, 1) := by decide +kernel
theorem d_A_law_2081 : decode c_A_law 2081 = .ok (.iaload, 1) := by decide +kernel
theorem d_A_law_2082 : decode c_A_law 2082 = .ok (.invokevirtual 212, 3) := by decide +kernel
theorem d_A_law_2085 : decode c_A_law 2085 = .ok (.istore 6, 2) := by decide +kernel
theorem d_A_law_2087 : decode c_A_law 2087 = .ok (.aload_n 2, 1) := by decide +kernel
theorem d_A_law_2088 : decode c_A_law 2088 = .ok (.invokevirtual 125, 3) := by decide +kernel
theorem d_A_law_2091 : decode c_A_law 2091 = .ok (.iload 5, 2) := by decide +kernel
theorem d_A_law_2093 : decode c_A_law 2093 = .ok (.if_icmp .eq 5, 3) := by decide +kernel
theorem d_A_law_2096 : decode c_A_law 2096 = .ok (.iconst 0, 1) := by decide +kernel
theorem d_A_law_2097 : decode c_A_law 2097 = .ok (.ireturn, 1) := by decide +kernel
theorem d_A_law_2098 : decode c_A_law 2098 = .ok (.iload 5, 2) := by decide +kernel
theorem d_A_law_2100 : decode c_A_law 2100 = .ok (.ifCond .ne 15, 3) := by decide +kernel
theorem d_A_law_2103 : decode c_A_law 2103 = .ok (.aload_n 3, 1) := by decide +kernel
theorem d_A_law_2104 : decode c_A_law 2104 = .ok (.iconst 0, 1) := by decide +kernel
theorem d_A_law_2105 : decode c_A_law 2105 = .ok (.laload, 1) := by decide +kernel
theorem d_A_law_2106 : decode c_A_law 2106 = .ok (.iload 6, 2) := by decide +kernel
theorem d_A_law_2108 : decode c_A_law 2108 = .ok (.i2l, 1) := by decide +kernel
theorem d_A_law_2109 : decode c_A_law 2109 = .ok (.lcmp, 1) := by decide +kernel
theorem d_A_law_2110 : decode c_A_law 2110 = .ok (.ifCond .eq 5, 3) := by decide +kernel
theorem d_A_law_2113 : decode c_A_law 2113 = .ok (.iconst 0, 1) := by decide +kernel
theorem d_A_law_2114 : decode c_A_law 2114 = .ok (.ireturn, 1) := by decide +kernel
theorem d_A_law_2115 : decode c_A_law 2115 = .ok (.goto 120, 3) := by decide +kernel
theorem d_A_law_2118 : decode c_A_law 2118 = .ok (.aload_n 1, 1) := by decide +kernel
theorem d_A_law_2119 : decode c_A_law 2119 = .ok (.aload_n 0, 1) := by decide +kernel
theorem d_A_law_2120 : decode c_A_law 2120 = .ok (.iload 4, 2) := by decide +kernel
theorem d_A_law_2122 : decode c_A_law 2122 = .ok (.iconst 1, 1) := by decide +kernel
theorem d_A_law_2123 : decode c_A_law 2123 = .ok (.iadd, 1) := by decide +kernel
theorem d_A_law_2124 : decode c_A_law 2124 = .ok (.iaload, 1) := by decide +kernel
theorem d_A_law_2125 : decode c_A_law 2125 = .ok (.aload_n 0, 1) := by decide +kernel
theorem d_A_law_2126 : decode c_A_law 2126 = .ok (.iload 4, 2) := by decide +kernel
theorem d_A_law_2128 : decode c_A_law 2128 = .ok (.iconst 2, 1) := by decide +kernel
theorem d_A_law_2129 : decode c_A_law 2129 = .ok (.iadd, 1) := by decide +kernel
theorem d_A_law_2130 : decode c_A_law 2130 = .ok (.iaload, 1) := by decide +kernel
theorem d_A_law_2131 : decode c_A_law 2131 = .ok (.aload_n 3, 1) := by decide +kernel
theorem d_A_law_2132 : decode c_A_law 2132 = .ok (.invokestatic 213, 3) := by decide +kernel
theorem d_A_law_2135 : decode c_A_law 2135 = .ok (.istore 5, 2) := by decide +kernel
theorem d_A_law_2137 : decode c_A_law 2137 = .ok (.aload_n 2, 1) := by decide +kernel
theorem d_A_law_2138 : decode c_A_law 2138 = .ok (.aload_n 0, 1) := by decide +kernel
theorem d_A_law_2139 : decode c_A_law 2139 = .ok (.iload 4, 2) := by decide +kernel
theorem d_A_law_2141 : decode c_A_law 2141 = .ok (.iconst 1, 1) := by decide +kernel
theorem d_A_law_2142 : decode c_A_law 2142 = .ok (.iadd, 1) := by decide +kernel
theorem d_A_law_2143 : decode c_A_law 2143 = .ok (.iaload, 1) := by decide +kernel
theorem d_A_law_2144 : decode c_A_law 2144 = .ok (.aload_n 0, 1) := by decide +kernel
theorem d_A_law_2145 : decode c_A_law 2145 = .ok (.iload 4, 2) := by decide +kernel
theorem d_A_law_2147 : decode c_A_law 2147 = .ok (.iconst 2, 1) := by decide +kernel
theorem d_A_law_2148 : decode c_A_law 2148 = .ok (.iadd, 1) := by decide +kernel
theorem d_A_law_2149 : decode c_A_law 2149 = .ok (.iaload, 1) := by decide +kernel
theorem d_A_law_2150 : decode c_A_law 2150 = .ok (.invokevirtual 215, 3) := by decide +kernel
theorem d_A_law_2153 : decode c_A_law 2153 = .ok (.istore 6, 2) := by decide +kernel
theorem d_A_law_2155 : decode c_A_law 2155 = .ok (.aload_n 2, 1) := by decide +kernel
theorem d_A_law_2156 : decode c_A_law 2156 = .ok (.invokevirtual 125, 3) := by decide +kernel
theorem d_A_law_2159 : decode c_A_law 2159 = .ok (.iload 5, 2) := by decide +kernel
theorem d_A_law_2161 : decode c_A_law 2161 = .ok (.if_icmp .eq 5, 3) := by decide +kernel
theorem d_A_law_2164 : decode c_A_law 2164 = .ok (.iconst 0, 1) := by decide +kernel
theorem d_A_law_2165 : decode c_A_law 2165 = .ok (.ireturn, 1) := by decide +kernel
theorem d_A_law_2166 : decode c_A_law 2166 = .ok (.iload 5, 2) := by decide +kernel
theorem d_A_law_2168 : decode c_A_law 2168 = .ok (.ifCond .ne 15, 3) := by decide +kernel
theorem d_A_law_2171 : decode c_A_law 2171 = .ok (.aload_n 3, 1) := by decide +kernel
theorem d_A_law_2172 : decode c_A_law 2172 = .ok (.iconst 0, 1) := by decide +kernel
theorem d_A_law_2173 : decode c_A_law 2173 = .ok (.laload, 1) := by decide +kernel
theorem d_A_law_2174 : decode c_A_law 2174 = .ok (.iload 6, 2) := by decide +kernel
theorem d_A_law_2176 : decode c_A_law 2176 = .ok (.i2l, 1) := by decide +kernel
theorem d_A_law_2177 : decode c_A_law 2177 = .ok (.lcmp, 1) := by decide +kernel
theorem d_A_law_2178 : decode c_A_law 2178 = .ok (.ifCond .eq 5, 3) := by decide +kernel
theorem d_A_law_2181 : decode c_A_law 2181 = .ok (.iconst 0, 1) := by decide +kernel
theorem d_A_law_2182 : decode c_A_law 2182 = .ok (.ireturn, 1) := by decide +kernel
theorem d_A_law_2183 : decode c_A_law 2183 = .ok (.goto 52, 3) := by decide +kernel
theorem d_A_law_2186 : decode c_A_law 2186 = .ok (.aload_n 1, 1) := by decide +kernel
theorem d_A_law_2187 : decode c_A_law 2187 = .ok (.invokevirtual 216, 3) := by decide +kernel
theorem d_A_law_2190 : decode c_A_law 2190 = .ok (.aload_n 2, 1) := by decide +kernel
theorem d_A_law_2191 : decode c_A_law 2191 = .ok (.invokevirtual 219, 3) := by decide +kernel
theorem d_A_law_2194 : decode c_A_law 2194 = .ok (.goto 41, 3) := by decide +kernel
theorem d_A_law_2197 : decode c_A_law 2197 = .ok (.aload_n 1, 1) := by decide +kernel
theorem d_A_law_2198 : decode c_A_law 2198 = .ok (.invokevirtual 220, 3) := by decide +kernel
theorem d_A_law_2201 : decode c_A_law 2201 = .ok (.aload_n 2, 1) := by decide +kernel
theorem d_A_law_2202 : decode c_A_law 2202 = .ok (.invokevirtual 224, 3) := by decide +kernel
theorem d_A_law_2205 : decode c_A_law 2205 = .ok (.if_icmp .eq 30, 3) := by decide +kernel
theorem d_A_law_2208 : decode c_A_law 2208 = .ok (.iconst 0, 1) := by decide +kernel
theorem d_A_law_2209 : decode c_A_law 2209 = .ok (.ireturn, 1) := by decide +kernel
theorem d_A_law_2210 : decode c_A_law 2210 = .ok (.aload_n 1, 1) := by decide +kernel
theorem d_A_law_2211 : decode c_A_law 2211 = .ok (.aload_n 0, 1) := by decide +kernel
theorem d_A_law_2212 : decode c_A_law 2212 = .ok (.iload 4, 2) := by decide +kernel
theorem d_A_law_2214 : decode c_A_law 2214 = .ok (.iconst 1, 1) := by decide +kernel
theorem d_A_law_2215 : decode c_A_law 2215 = .ok (.iadd, 1) := by decide +kernel
theorem d_A_law_2216 : decode c_A_law 2216 = .ok (.iaload, 1) := by decide +kernel
theorem d_A_law_2217 : decode c_A_law 2217 = .ok (.invokevirtual 225, 3) := by decide +kernel
theorem d_A_law_2220 : decode c_A_law 2220 = .ok (.aload_n 2, 1) := by decide +kernel
theorem d_A_law_2221 : decode c_A_law 2221 = .ok (.aload_n 0, 1) := by decide +kernel
theorem d_A_law_2222 : decode c_A_law 2222 = .ok (.iload 4, 2) := by decide +kernel
theorem d_A_law_2224 : decode c_A_law 2224 = .ok (.iconst 1, 1) := by decide +kernel
theorem d_A_law_2225 : decode c_A_law 2225 = .ok (.iadd, 1) := by decide +kernel
theorem d_A_law_2226 : decode c_A_law 2226 = .ok (.iaload, 1) := by decide +kernel
theorem d_A_law_2227 : decode c_A_law 2227 = .ok (.invokevirtual 228, 3) := by decide +kernel
theorem d_A_law_2230 : decode c_A_law 2230 = .ok (.if_icmp .eq 5, 3) := by decide +kernel
theorem d_A_law_2233 : decode c_A_law 2233 = .ok (.iconst 0, 1) := by decide +kernel
theorem d_A_law_2234 : decode c_A_law 2234 = .ok (.ireturn, 1) := by decide +kernel
theorem d_A_law_2235 : decode c_A_law 2235 = .ok (.iinc 4 6, 3) := by decide +kernel
theorem d_A_law_2238 : decode c_A_law 2238 = .ok (.goto (-2215), 3) := by decide +kernel
theorem d_A_law_2241 : decode c_A_law 2241 = .ok (.iconst 1, 1) := by decide +kernel
theorem d_A_law_2242 : decode c_A_law 2242 = .ok (.ireturn, 1) := by decide +kernel
