theorem d_T_init_0 : decode c_T_init 0 = .ok (.aload_n 0, 1) := by decide +kernel
theorem d_T_init_1 : decode c_T_init 1 = .ok (.invokespecial 1, 3) := by decide +kernel
theorem d_T_init_4 : decode c_T_init 4 = .ok (.aload_n 0, 1) := by decide +kernel
theorem d_T_init_5 : decode c_T_init 5 = .ok (.sipush 400, 3) := by decide +kernel
theorem d_T_init_8 : decode c_T_init 8 = .ok (.newarray .int, 2) := by decide +kernel
theorem d_T_init_10 : decode c_T_init 10 = .ok (.putfield 9, 3) := by decide +kernel
theorem d_T_init_13 : decode c_T_init 13 = .ok (.aload_n 0, 1) := by decide +kernel
theorem d_T_init_14 : decode c_T_init 14 = .ok (.iconst 0, 1) := by decide +kernel
theorem d_T_init_15 : decode c_T_init 15 = .ok (.putfield 13, 3) := by decide +kernel
theorem d_T_init_18 : decode c_T_init 18 = .ok (.return_, 1) := by decide +kernel
theorem d_T_hasRoom_0 : decode c_T_hasRoom 0 = .ok (.aload_n 0, 1) := by decide +kernel
theorem d_T_hasRoom_1 : decode c_T_hasRoom 1 = .ok (.getfield 13, 3) := by decide +kernel
theorem d_T_hasRoom_4 : decode c_T_hasRoom 4 = .ok (.bipush 20, 2) := by decide +kernel
theorem d_T_hasRoom_6 : decode c_T_hasRoom 6 = .ok (.iadd, 1) := by decide +kernel
theorem d_T_hasRoom_7 : decode c_T_hasRoom 7 = .ok (.sipush 400, 3) := by decide +kernel
theorem d_T_hasRoom_10 : decode c_T_hasRoom 10 = .ok (.if_icmp .gt 7, 3) := by decide +kernel
theorem d_T_hasRoom_13 : decode c_T_hasRoom 13 = .ok (.iconst 1, 1) := by decide +kernel
theorem d_T_hasRoom_14 : decode c_T_hasRoom 14 = .ok (.goto 4, 3) := by decide +kernel
theorem d_T_hasRoom_17 : decode c_T_hasRoom 17 = .ok (.iconst 0, 1) := by decide +kernel
theorem d_T_hasRoom_18 : decode c_T_hasRoom 18 = .ok (.ireturn, 1) := by decide +kernel
theorem d_T_add_0 : decode c_T_add 0 = .ok (.bipush 24, 2) := by decide +kernel
theorem d_T_add_2 : decode c_T_add 2 = .ok (.istore_n 2, 1) := by decide +kernel
theorem d_T_add_3 : decode c_T_add 3 = .ok (.iload_n 2, 1) := by decide +kernel
theorem d_T_add_4 : decode c_T_add 4 = .ok (.ifCond .lt 45, 3) := by decide +kernel
theorem d_T_add_7 : decode c_T_add 7 = .ok (.aload_n 0, 1) := by decide +kernel
theorem d_T_add_8 : decode c_T_add 8 = .ok (.getfield 13, 3) := by decide +kernel
theorem d_T_add_11 : decode c_T_add 11 = .ok (.sipush 400, 3) := by decide +kernel
theorem d_T_add_14 : decode c_T_add 14 = .ok (.if_icmp .ge 35, 3) := by decide +kernel
theorem d_T_add_17 : decode c_T_add 17 = .ok (.aload_n 0, 1) := by decide +kernel
theorem d_T_add_18 : decode c_T_add 18 = .ok (.getfield 9, 3) := by decide +kernel
theorem d_T_add_21 : decode c_T_add 21 = .ok (.aload_n 0, 1) := by decide +kernel
theorem d_T_add_22 : decode c_T_add 22 = .ok (.getfield 13, 3) := by decide +kernel
theorem d_T_add_25 : decode c_T_add 25 = .ok (.iload_n 1, 1) := by decide +kernel
theorem d_T_add_26 : decode c_T_add 26 = .ok (.iload_n 2, 1) := by decide +kernel
theorem d_T_add_27 : decode c_T_add 27 = .ok (.ishr, 1) := by decide +kernel
theorem d_T_add_28 : decode c_T_add 28 = .ok (.sipush 255, 3) := by decide +kernel
theorem d_T_add_31 : decode c_T_add 31 = .ok (.iand, 1) := by decide +kernel
theorem d_T_add_32 : decode c_T_add 32 = .ok (.iastore, 1) := by decide +kernel
theorem d_T_add_33 : decode c_T_add 33 = .ok (.aload_n 0, 1) := by decide +kernel
theorem d_T_add_34 : decode c_T_add 34 = .ok (.dup, 1) := by decide +kernel
theorem d_T_add_35 : decode c_T_add 35 = .ok (.getfield 13, 3) := by decide +kernel
theorem d_T_add_38 : decode c_T_add 38 = .ok (.iconst 1, 1) := by decide +kernel
theorem d_T_add_39 : decode c_T_add 39 = .ok (.iadd, 1) := by decide +kernel
theorem d_T_add_40 : decode c_T_add 40 = .ok (.putfield 13, 3) := by decide +kernel
theorem d_T_add_43 : decode c_T_add 43 = .ok (.iinc 2 (-8), 3) := by decide +kernel
theorem d_T_add_46 : decode c_T_add 46 = .ok (.goto (-43), 3) := by decide +kernel
theorem d_T_add_49 : decode c_T_add 49 = .ok (.return_, 1) := by decide +kernel
theorem d_T_cut_0 : decode c_T_cut 0 = .ok (.iload_n 1, 1) := by decide +kernel
theorem d_T_cut_1 : decode c_T_cut 1 = .ok (.ifCond .lt 11, 3) := by decide +kernel
theorem d_T_cut_4 : decode c_T_cut 4 = .ok (.iload_n 1, 1) := by decide +kernel
theorem d_T_cut_5 : decode c_T_cut 5 = .ok (.aload_n 0, 1) := by decide +kernel
theorem d_T_cut_6 : decode c_T_cut 6 = .ok (.getfield 13, 3) := by decide +kernel
theorem d_T_cut_9 : decode c_T_cut 9 = .ok (.if_icmp .le 5, 3) := by decide +kernel
theorem d_T_cut_12 : decode c_T_cut 12 = .ok (.iconst 0, 1) := by decide +kernel
theorem d_T_cut_13 : decode c_T_cut 13 = .ok (.ireturn, 1) := by decide +kernel
theorem d_T_cut_14 : decode c_T_cut 14 = .ok (.aload_n 0, 1) := by decide +kernel
theorem d_T_cut_15 : decode c_T_cut 15 = .ok (.iload_n 1, 1) := by decide +kernel
theorem d_T_cut_16 : decode c_T_cut 16 = .ok (.putfield 13, 3) := by decide +kernel
theorem d_T_cut_19 : decode c_T_cut 19 = .ok (.iconst 1, 1) := by decide +kernel
theorem d_T_cut_20 : decode c_T_cut 20 = .ok (.ireturn, 1) := by decide +kernel
theorem d_T_size_0 : decode c_T_size 0 = .ok (.aload_n 0, 1) := by decide +kernel
theorem d_T_size_1 : decode c_T_size 1 = .ok (.getfield 13, 3) := by decide +kernel
theorem d_T_size_4 : decode c_T_size 4 = .ok (.ireturn, 1) := by decide +kernel
theorem d_T_byteAt_0 : decode c_T_byteAt 0 = .ok (.iload_n 1, 1) := by decide +kernel
theorem d_T_byteAt_1 : decode c_T_byteAt 1 = .ok (.ifCond .lt 19, 3) := by decide +kernel
theorem d_T_byteAt_4 : decode c_T_byteAt 4 = .ok (.iload_n 1, 1) := by decide +kernel
theorem d_T_byteAt_5 : decode c_T_byteAt 5 = .ok (.sipush 400, 3) := by decide +kernel
theorem d_T_byteAt_8 : decode c_T_byteAt 8 = .ok (.if_icmp .ge 12, 3) := by decide +kernel
theorem d_T_byteAt_11 : decode c_T_byteAt 11 = .ok (.aload_n 0, 1) := by decide +kernel
theorem d_T_byteAt_12 : decode c_T_byteAt 12 = .ok (.getfield 9, 3) := by decide +kernel
theorem d_T_byteAt_15 : decode c_T_byteAt 15 = .ok (.iload_n 1, 1) := by decide +kernel
theorem d_T_byteAt_16 : decode c_T_byteAt 16 = .ok (.iaload, 1) := by decide +kernel
theorem d_T_byteAt_17 : decode c_T_byteAt 17 = .ok (.goto 4, 3) := by decide +kernel
theorem d_T_byteAt_20 : decode c_T_byteAt 20 = .ok (.iconst 0, 1) := by decide +kernel
theorem d_T_byteAt_21 : decode c_T_byteAt 21 = .ok (.ireturn, 1) := by decide +kernel
theorem d_L_init_0 : decode c_L_init 0 = .ok (.aload_n 0, 1) := by decide +kernel
theorem d_L_init_1 : decode c_L_init 1 = .ok (.invokespecial 5, 3) := by decide +kernel
theorem d_L_init_4 : decode c_L_init 4 = .ok (.aload_n 0, 1) := by decide +kernel
theorem d_L_init_5 : decode c_L_init 5 = .ok (.sipush 499, 3) := by decide +kernel
theorem d_L_init_8 : decode c_L_init 8 = .ok (.newarray .int, 2) := by decide +kernel
theorem d_L_init_10 : decode c_L_init 10 = .ok (.putfield 11, 3) := by decide +kernel
theorem d_L_init_13 : decode c_L_init 13 = .ok (.aload_n 0, 1) := by decide +kernel
theorem d_L_init_14 : decode c_L_init 14 = .ok (.sipush 648, 3) := by decide +kernel
theorem d_L_init_17 : decode c_L_init 17 = .ok (.newarray .int, 2) := by decide +kernel
theorem d_L_init_19 : decode c_L_init 19 = .ok (.putfield 15, 3) := by decide +kernel
theorem d_L_init_22 : decode c_L_init 22 = .ok (.aload_n 0, 1) := by decide +kernel
theorem d_L_init_23 : decode c_L_init 23 = .ok (.getfield 15, 3) := by decide +kernel
theorem d_L_init_26 : decode c_L_init 26 = .ok (.iconst (-1), 1) := by decide +kernel
theorem d_L_init_27 : decode c_L_init 27 = .ok (.invokestatic 18, 3) := by decide +kernel
theorem d_L_init_30 : decode c_L_init 30 = .ok (.getstatic 24, 3) := by decide +kernel
theorem d_L_init_33 : decode c_L_init 33 = .ok (.iconst 0, 1) := by decide +kernel
theorem d_L_init_34 : decode c_L_init 34 = .ok (.aload_n 0, 1) := by decide +kernel
theorem d_L_init_35 : decode c_L_init 35 = .ok (.getfield 11, 3) := by decide +kernel
theorem d_L_init_38 : decode c_L_init 38 = .ok (.iconst 2, 1) := by decide +kernel
theorem d_L_init_39 : decode c_L_init 39 = .ok (.bipush 11, 2) := by decide +kernel
theorem d_L_init_41 : decode c_L_init 41 = .ok (.invokestatic 27, 3) := by decide +kernel
theorem d_L_init_44 : decode c_L_init 44 = .ok (.return_, 1) := by decide +kernel
theorem d_L_take_0 : decode c_L_take 0 = .ok (.aload_n 1, 1) := by decide +kernel
theorem d_L_take_1 : decode c_L_take 1 = .ok (.iload_n 2, 1) := by decide +kernel
theorem d_L_take_2 : decode c_L_take 2 = .ok (.aload_n 0, 1) := by decide +kernel
theorem d_L_take_3 : decode c_L_take 3 = .ok (.getfield 11, 3) := by decide +kernel
theorem d_L_take_6 : decode c_L_take 6 = .ok (.iconst 0, 1) := by decide +kernel
theorem d_L_take_7 : decode c_L_take 7 = .ok (.sipush 499, 3) := by decide +kernel
theorem d_L_take_10 : decode c_L_take 10 = .ok (.invokestatic 27, 3) := by decide +kernel
theorem d_L_take_13 : decode c_L_take 13 = .ok (.aload_n 0, 1) := by decide +kernel
theorem d_L_take_14 : decode c_L_take 14 = .ok (.invokevirtual 33, 3) := by decide +kernel
theorem d_L_take_17 : decode c_L_take 17 = .ok (.return_, 1) := by decide +kernel
theorem d_L_copyTo_0 : decode c_L_copyTo 0 = .ok (.aload_n 0, 1) := by decide +kernel
theorem d_L_copyTo_1 : decode c_L_copyTo 1 = .ok (.getfield 11, 3) := by decide +kernel
theorem d_L_copyTo_4 : decode c_L_copyTo 4 = .ok (.iconst 0, 1) := by decide +kernel
theorem d_L_copyTo_5 : decode c_L_copyTo 5 = .ok (.aload_n 1, 1) := by decide +kernel
theorem d_L_copyTo_6 : decode c_L_copyTo 6 = .ok (.iload_n 2, 1) := by decide +kernel
theorem d_L_copyTo_7 : decode c_L_copyTo 7 = .ok (.sipush 499, 3) := by decide +kernel
theorem d_L_copyTo_10 : decode c_L_copyTo 10 = .ok (.invokestatic 27, 3) := by decide +kernel
theorem d_L_copyTo_13 : decode c_L_copyTo 13 = .ok (.return_, 1) := by decide +kernel
theorem d_L_layOut_0 : decode c_L_layOut 0 = .ok (.aload_n 0, 1) := by decide +kernel
theorem d_L_layOut_1 : decode c_L_layOut 1 = .ok (.getfield 15, 3) := by decide +kernel
theorem d_L_layOut_4 : decode c_L_layOut 4 = .ok (.iconst (-1), 1) := by decide +kernel
theorem d_L_layOut_5 : decode c_L_layOut 5 = .ok (.invokestatic 18, 3) := by decide +kernel
theorem d_L_layOut_8 : decode c_L_layOut 8 = .ok (.iconst 0, 1) := by decide +kernel
theorem d_L_layOut_9 : decode c_L_layOut 9 = .ok (.istore_n 1, 1) := by decide +kernel
theorem d_L_layOut_10 : decode c_L_layOut 10 = .ok (.iload_n 1, 1) := by decide +kernel
theorem d_L_layOut_11 : decode c_L_layOut 11 = .ok (.aload_n 0, 1) := by decide +kernel
theorem d_L_layOut_12 : decode c_L_layOut 12 = .ok (.invokevirtual 36, 3) := by decide +kernel
theorem d_L_layOut_15 : decode c_L_layOut 15 = .ok (.if_icmp .ge 31, 3) := by decide +kernel
theorem d_L_layOut_18 : decode c_L_layOut 18 = .ok (.iconst 0, 1) := by decide +kernel
theorem d_L_layOut_19 : decode c_L_layOut 19 = .ok (.istore_n 2, 1) := by decide +kernel
theorem d_L_layOut_20 : decode c_L_layOut 20 = .ok (.iload_n 2, 1) := by decide +kernel
theorem d_L_layOut_21 : decode c_L_layOut 21 = .ok (.aload_n 0, 1) := by decide +kernel
theorem d_L_layOut_22 : decode c_L_layOut 22 = .ok (.invokevirtual 40, 3) := by decide +kernel
theorem d_L_layOut_25 : decode c_L_layOut 25 = .ok (.if_icmp .ge 15, 3) := by decide +kernel
theorem d_L_layOut_28 : decode c_L_layOut 28 = .ok (.aload_n 0, 1) := by decide +kernel
theorem d_L_layOut_29 : decode c_L_layOut 29 = .ok (.iload_n 1, 1) := by decide +kernel
theorem d_L_layOut_30 : decode c_L_layOut 30 = .ok (.iload_n 2, 1) := by decide +kernel
theorem d_L_layOut_31 : decode c_L_layOut 31 = .ok (.invokevirtual 43, 3) := by decide +kernel
theorem d_L_layOut_34 : decode c_L_layOut 34 = .ok (.iinc 2 1, 3) := by decide +kernel
theorem d_L_layOut_37 : decode c_L_layOut 37 = .ok (.goto (-17), 3) := by decide +kernel
theorem d_L_layOut_40 : decode c_L_layOut 40 = .ok (.iinc 1 1, 3) := by decide +kernel
theorem d_L_layOut_43 : decode c_L_layOut 43 = .ok (.goto (-33), 3) := by decide +kernel
theorem d_L_layOut_46 : decode c_L_layOut 46 = .ok (.return_, 1) := by decide +kernel
theorem d_L_layOutPlace_0 : decode c_L_layOutPlace 0 = .ok (.iload_n 1, 1) := by decide +kernel
theorem d_L_layOutPlace_1 : decode c_L_layOutPlace 1 = .ok (.aload_n 0, 1) := by decide +kernel
theorem d_L_layOutPlace_2 : decode c_L_layOutPlace 2 = .ok (.invokevirtual 40, 3) := by decide +kernel
theorem d_L_layOutPlace_5 : decode c_L_layOutPlace 5 = .ok (.imul, 1) := by decide +kernel
theorem d_L_layOutPlace_6 : decode c_L_layOutPlace 6 = .ok (.iload_n 2, 1) := by decide +kernel
theorem d_L_layOutPlace_7 : decode c_L_layOutPlace 7 = .ok (.iadd, 1) := by decide +kernel
theorem d_L_layOutPlace_8 : decode c_L_layOutPlace 8 = .ok (.bipush 8, 2) := by decide +kernel
theorem d_L_layOutPlace_10 : decode c_L_layOutPlace 10 = .ok (.imul, 1) := by decide +kernel
theorem d_L_layOutPlace_11 : decode c_L_layOutPlace 11 = .ok (.istore_n 3, 1) := by decide +kernel
theorem d_L_layOutPlace_12 : decode c_L_layOutPlace 12 = .ok (.iconst 0, 1) := by decide +kernel
theorem d_L_layOutPlace_13 : decode c_L_layOutPlace 13 = .ok (.istore 4, 2) := by decide +kernel
theorem d_L_layOutPlace_15 : decode c_L_layOutPlace 15 = .ok (.iload 4, 2) := by decide +kernel
theorem d_L_layOutPlace_17 : decode c_L_layOutPlace 17 = .ok (.bipush 8, 2) := by decide +kernel
theorem d_L_layOutPlace_19 : decode c_L_layOutPlace 19 = .ok (.if_icmp .ge 76, 3) := by decide +kernel
theorem d_L_layOutPlace_22 : decode c_L_layOutPlace 22 = .ok (.iload_n 1, 1) := by decide +kernel
theorem d_L_layOutPlace_23 : decode c_L_layOutPlace 23 = .ok (.getstatic 47, 3) := by decide +kernel
theorem d_L_layOutPlace_26 : decode c_L_layOutPlace 26 = .ok (.iload 4, 2) := by decide +kernel
theorem d_L_layOutPlace_28 : decode c_L_layOutPlace 28 = .ok (.iaload, 1) := by decide +kernel
theorem d_L_layOutPlace_29 : decode c_L_layOutPlace 29 = .ok (.iadd, 1) := by decide +kernel
theorem d_L_layOutPlace_30 : decode c_L_layOutPlace 30 = .ok (.istore 5, 2) := by decide +kernel
theorem d_L_layOutPlace_32 : decode c_L_layOutPlace 32 = .ok (.iload_n 2, 1) := by decide +kernel
theorem d_L_layOutPlace_33 : decode c_L_layOutPlace 33 = .ok (.getstatic 50, 3) := by decide +kernel
theorem d_L_layOutPlace_36 : decode c_L_layOutPlace 36 = .ok (.iload 4, 2) := by decide +kernel
theorem d_L_layOutPlace_38 : decode c_L_layOutPlace 38 = .ok (.iaload, 1) := by decide +kernel
theorem d_L_layOutPlace_39 : decode c_L_layOutPlace 39 = .ok (.iadd, 1) := by decide +kernel
theorem d_L_layOutPlace_40 : decode c_L_layOutPlace 40 = .ok (.istore 6, 2) := by decide +kernel
theorem d_L_layOutPlace_42 : decode c_L_layOutPlace 42 = .ok (.iload 5, 2) := by decide +kernel
theorem d_L_layOutPlace_44 : decode c_L_layOutPlace 44 = .ok (.ifCond .lt 45, 3) := by decide +kernel
theorem d_L_layOutPlace_47 : decode c_L_layOutPlace 47 = .ok (.iload 5, 2) := by decide +kernel
theorem d_L_layOutPlace_49 : decode c_L_layOutPlace 49 = .ok (.aload_n 0, 1) := by decide +kernel
theorem d_L_layOutPlace_50 : decode c_L_layOutPlace 50 = .ok (.invokevirtual 36, 3) := by decide +kernel
theorem d_L_layOutPlace_53 : decode c_L_layOutPlace 53 = .ok (.if_icmp .ge 36, 3) := by decide +kernel
theorem d_L_layOutPlace_56 : decode c_L_layOutPlace 56 = .ok (.iload 6, 2) := by decide +kernel
theorem d_L_layOutPlace_58 : decode c_L_layOutPlace 58 = .ok (.ifCond .lt 31, 3) := by decide +kernel
theorem d_L_layOutPlace_61 : decode c_L_layOutPlace 61 = .ok (.iload 6, 2) := by decide +kernel
theorem d_L_layOutPlace_63 : decode c_L_layOutPlace 63 = .ok (.aload_n 0, 1) := by decide +kernel
theorem d_L_layOutPlace_64 : decode c_L_layOutPlace 64 = .ok (.invokevirtual 40, 3) := by decide +kernel
theorem d_L_layOutPlace_67 : decode c_L_layOutPlace 67 = .ok (.if_icmp .ge 22, 3) := by decide +kernel
theorem d_L_layOutPlace_70 : decode c_L_layOutPlace 70 = .ok (.aload_n 0, 1) := by decide +kernel
theorem d_L_layOutPlace_71 : decode c_L_layOutPlace 71 = .ok (.getfield 15, 3) := by decide +kernel
theorem d_L_layOutPlace_74 : decode c_L_layOutPlace 74 = .ok (.iload_n 3, 1) := by decide +kernel
theorem d_L_layOutPlace_75 : decode c_L_layOutPlace 75 = .ok (.iload 4, 2) := by decide +kernel
theorem d_L_layOutPlace_77 : decode c_L_layOutPlace 77 = .ok (.iadd, 1) := by decide +kernel
theorem d_L_layOutPlace_78 : decode c_L_layOutPlace 78 = .ok (.iload 5, 2) := by decide +kernel
theorem d_L_layOutPlace_80 : decode c_L_layOutPlace 80 = .ok (.aload_n 0, 1) := by decide +kernel
theorem d_L_layOutPlace_81 : decode c_L_layOutPlace 81 = .ok (.invokevirtual 40, 3) := by decide +kernel
theorem d_L_layOutPlace_84 : decode c_L_layOutPlace 84 = .ok (.imul, 1) := by decide +kernel
theorem d_L_layOutPlace_85 : decode c_L_layOutPlace 85 = .ok (.iload 6, 2) := by decide +kernel
theorem d_L_layOutPlace_87 : decode c_L_layOutPlace 87 = .ok (.iadd, 1) := by decide +kernel
theorem d_L_layOutPlace_88 : decode c_L_layOutPlace 88 = .ok (.iastore, 1) := by decide +kernel
theorem d_L_layOutPlace_89 : decode c_L_layOutPlace 89 = .ok (.iinc 4 1, 3) := by decide +kernel
theorem d_L_layOutPlace_92 : decode c_L_layOutPlace 92 = .ok (.goto (-77), 3) := by decide +kernel
theorem d_L_layOutPlace_95 : decode c_L_layOutPlace 95 = .ok (.return_, 1) := by decide +kernel
theorem d_L_wide_0 : decode c_L_wide 0 = .ok (.aload_n 0, 1) := by decide +kernel
theorem d_L_wide_1 : decode c_L_wide 1 = .ok (.getfield 11, 3) := by decide +kernel
theorem d_L_wide_4 : decode c_L_wide 4 = .ok (.iconst 0, 1) := by decide +kernel
theorem d_L_wide_5 : decode c_L_wide 5 = .ok (.iaload, 1) := by decide +kernel
theorem d_L_wide_6 : decode c_L_wide 6 = .ok (.ireturn, 1) := by decide +kernel
theorem d_L_deep_0 : decode c_L_deep 0 = .ok (.aload_n 0, 1) := by decide +kernel
theorem d_L_deep_1 : decode c_L_deep 1 = .ok (.getfield 11, 3) := by decide +kernel
theorem d_L_deep_4 : decode c_L_deep 4 = .ok (.iconst 1, 1) := by decide +kernel
theorem d_L_deep_5 : decode c_L_deep 5 = .ok (.iaload, 1) := by decide +kernel
theorem d_L_deep_6 : decode c_L_deep 6 = .ok (.ireturn, 1) := by decide +kernel
theorem d_L_places_0 : decode c_L_places 0 = .ok (.aload_n 0, 1) := by decide +kernel
theorem d_L_places_1 : decode c_L_places 1 = .ok (.getfield 11, 3) := by decide +kernel
theorem d_L_places_4 : decode c_L_places 4 = .ok (.iconst 0, 1) := by decide +kernel
theorem d_L_places_5 : decode c_L_places 5 = .ok (.iaload, 1) := by decide +kernel
theorem d_L_places_6 : decode c_L_places 6 = .ok (.aload_n 0, 1) := by decide +kernel
theorem d_L_places_7 : decode c_L_places 7 = .ok (.getfield 11, 3) := by decide +kernel
theorem d_L_places_10 : decode c_L_places 10 = .ok (.iconst 1, 1) := by decide +kernel
theorem d_L_places_11 : decode c_L_places 11 = .ok (.iaload, 1) := by decide +kernel
theorem d_L_places_12 : decode c_L_places 12 = .ok (.imul, 1) := by decide +kernel
theorem d_L_places_13 : decode c_L_places 13 = .ok (.ireturn, 1) := by decide +kernel
theorem d_L_value_0 : decode c_L_value 0 = .ok (.aload_n 0, 1) := by decide +kernel
theorem d_L_value_1 : decode c_L_value 1 = .ok (.getfield 11, 3) := by decide +kernel
theorem d_L_value_4 : decode c_L_value 4 = .ok (.iconst 2, 1) := by decide +kernel
theorem d_L_value_5 : decode c_L_value 5 = .ok (.iload_n 1, 1) := by decide +kernel
theorem d_L_value_6 : decode c_L_value 6 = .ok (.iadd, 1) := by decide +kernel
theorem d_L_value_7 : decode c_L_value 7 = .ok (.iaload, 1) := by decide +kernel
theorem d_L_value_8 : decode c_L_value 8 = .ok (.ireturn, 1) := by decide +kernel
theorem d_L_setValue_0 : decode c_L_setValue 0 = .ok (.aload_n 0, 1) := by decide +kernel
theorem d_L_setValue_1 : decode c_L_setValue 1 = .ok (.getfield 11, 3) := by decide +kernel
theorem d_L_setValue_4 : decode c_L_setValue 4 = .ok (.iconst 2, 1) := by decide +kernel
theorem d_L_setValue_5 : decode c_L_setValue 5 = .ok (.iload_n 1, 1) := by decide +kernel
theorem d_L_setValue_6 : decode c_L_setValue 6 = .ok (.iadd, 1) := by decide +kernel
theorem d_L_setValue_7 : decode c_L_setValue 7 = .ok (.iload_n 2, 1) := by decide +kernel
theorem d_L_setValue_8 : decode c_L_setValue 8 = .ok (.iastore, 1) := by decide +kernel
theorem d_L_setValue_9 : decode c_L_setValue 9 = .ok (.return_, 1) := by decide +kernel
theorem d_L_height_0 : decode c_L_height 0 = .ok (.aload_n 0, 1) := by decide +kernel
theorem d_L_height_1 : decode c_L_height 1 = .ok (.getfield 11, 3) := by decide +kernel
theorem d_L_height_4 : decode c_L_height 4 = .ok (.bipush 13, 2) := by decide +kernel
theorem d_L_height_6 : decode c_L_height 6 = .ok (.iload_n 1, 1) := by decide +kernel
theorem d_L_height_7 : decode c_L_height 7 = .ok (.iadd, 1) := by decide +kernel
theorem d_L_height_8 : decode c_L_height 8 = .ok (.iaload, 1) := by decide +kernel
theorem d_L_height_9 : decode c_L_height 9 = .ok (.ireturn, 1) := by decide +kernel
theorem d_L_setHeight_0 : decode c_L_setHeight 0 = .ok (.aload_n 0, 1) := by decide +kernel
theorem d_L_setHeight_1 : decode c_L_setHeight 1 = .ok (.getfield 11, 3) := by decide +kernel
theorem d_L_setHeight_4 : decode c_L_setHeight 4 = .ok (.bipush 13, 2) := by decide +kernel
theorem d_L_setHeight_6 : decode c_L_setHeight 6 = .ok (.iload_n 1, 1) := by decide +kernel
theorem d_L_setHeight_7 : decode c_L_setHeight 7 = .ok (.iadd, 1) := by decide +kernel
theorem d_L_setHeight_8 : decode c_L_setHeight 8 = .ok (.iload_n 2, 1) := by decide +kernel
theorem d_L_setHeight_9 : decode c_L_setHeight 9 = .ok (.iastore, 1) := by decide +kernel
theorem d_L_setHeight_10 : decode c_L_setHeight 10 = .ok (.return_, 1) := by decide +kernel
theorem d_L_isWet_0 : decode c_L_isWet 0 = .ok (.iload_n 1, 1) := by decide +kernel
theorem d_L_isWet_1 : decode c_L_isWet 1 = .ok (.iconst (-1), 1) := by decide +kernel
theorem d_L_isWet_2 : decode c_L_isWet 2 = .ok (.if_icmp .eq 19, 3) := by decide +kernel
theorem d_L_isWet_5 : decode c_L_isWet 5 = .ok (.aload_n 0, 1) := by decide +kernel
theorem d_L_isWet_6 : decode c_L_isWet 6 = .ok (.getfield 11, 3) := by decide +kernel
theorem d_L_isWet_9 : decode c_L_isWet 9 = .ok (.bipush 94, 2) := by decide +kernel
theorem d_L_isWet_11 : decode c_L_isWet 11 = .ok (.iload_n 1, 1) := by decide +kernel
theorem d_L_isWet_12 : decode c_L_isWet 12 = .ok (.iadd, 1) := by decide +kernel
theorem d_L_isWet_13 : decode c_L_isWet 13 = .ok (.iaload, 1) := by decide +kernel
theorem d_L_isWet_14 : decode c_L_isWet 14 = .ok (.ifCond .eq 7, 3) := by decide +kernel
theorem d_L_isWet_17 : decode c_L_isWet 17 = .ok (.iconst 1, 1) := by decide +kernel
theorem d_L_isWet_18 : decode c_L_isWet 18 = .ok (.goto 4, 3) := by decide +kernel
theorem d_L_isWet_21 : decode c_L_isWet 21 = .ok (.iconst 0, 1) := by decide +kernel
theorem d_L_isWet_22 : decode c_L_isWet 22 = .ok (.ireturn, 1) := by decide +kernel
theorem d_L_setWet_0 : decode c_L_setWet 0 = .ok (.aload_n 0, 1) := by decide +kernel
theorem d_L_setWet_1 : decode c_L_setWet 1 = .ok (.getfield 11, 3) := by decide +kernel
theorem d_L_setWet_4 : decode c_L_setWet 4 = .ok (.bipush 94, 2) := by decide +kernel
theorem d_L_setWet_6 : decode c_L_setWet 6 = .ok (.iload_n 1, 1) := by decide +kernel
theorem d_L_setWet_7 : decode c_L_setWet 7 = .ok (.iadd, 1) := by decide +kernel
theorem d_L_setWet_8 : decode c_L_setWet 8 = .ok (.iload_n 2, 1) := by decide +kernel
theorem d_L_setWet_9 : decode c_L_setWet 9 = .ok (.ifCond .eq 7, 3) := by decide +kernel
theorem d_L_setWet_12 : decode c_L_setWet 12 = .ok (.iconst 1, 1) := by decide +kernel
theorem d_L_setWet_13 : decode c_L_setWet 13 = .ok (.goto 4, 3) := by decide +kernel
theorem d_L_setWet_16 : decode c_L_setWet 16 = .ok (.iconst 0, 1) := by decide +kernel
theorem d_L_setWet_17 : decode c_L_setWet 17 = .ok (.iastore, 1) := by decide +kernel
theorem d_L_setWet_18 : decode c_L_setWet 18 = .ok (.return_, 1) := by decide +kernel
theorem d_L_wetPlaces_0 : decode c_L_wetPlaces 0 = .ok (.iconst 0, 1) := by decide +kernel
theorem d_L_wetPlaces_1 : decode c_L_wetPlaces 1 = .ok (.istore_n 1, 1) := by decide +kernel
theorem d_L_wetPlaces_2 : decode c_L_wetPlaces 2 = .ok (.iconst 0, 1) := by decide +kernel
theorem d_L_wetPlaces_3 : decode c_L_wetPlaces 3 = .ok (.istore_n 2, 1) := by decide +kernel
theorem d_L_wetPlaces_4 : decode c_L_wetPlaces 4 = .ok (.iload_n 2, 1) := by decide +kernel
theorem d_L_wetPlaces_5 : decode c_L_wetPlaces 5 = .ok (.aload_n 0, 1) := by decide +kernel
theorem d_L_wetPlaces_6 : decode c_L_wetPlaces 6 = .ok (.invokevirtual 53, 3) := by decide +kernel
theorem d_L_wetPlaces_9 : decode c_L_wetPlaces 9 = .ok (.if_icmp .ge 21, 3) := by decide +kernel
theorem d_L_wetPlaces_12 : decode c_L_wetPlaces 12 = .ok (.iload_n 1, 1) := by decide +kernel
theorem d_L_wetPlaces_13 : decode c_L_wetPlaces 13 = .ok (.aload_n 0, 1) := by decide +kernel
theorem d_L_wetPlaces_14 : decode c_L_wetPlaces 14 = .ok (.getfield 11, 3) := by decide +kernel
theorem d_L_wetPlaces_17 : decode c_L_wetPlaces 17 = .ok (.bipush 94, 2) := by decide +kernel
theorem d_L_wetPlaces_19 : decode c_L_wetPlaces 19 = .ok (.iload_n 2, 1) := by decide +kernel
theorem d_L_wetPlaces_20 : decode c_L_wetPlaces 20 = .ok (.iadd, 1) := by decide +kernel
theorem d_L_wetPlaces_21 : decode c_L_wetPlaces 21 = .ok (.iaload, 1) := by decide +kernel
theorem d_L_wetPlaces_22 : decode c_L_wetPlaces 22 = .ok (.iadd, 1) := by decide +kernel
theorem d_L_wetPlaces_23 : decode c_L_wetPlaces 23 = .ok (.istore_n 1, 1) := by decide +kernel
theorem d_L_wetPlaces_24 : decode c_L_wetPlaces 24 = .ok (.iinc 2 1, 3) := by decide +kernel
theorem d_L_wetPlaces_27 : decode c_L_wetPlaces 27 = .ok (.goto (-23), 3) := by decide +kernel
theorem d_L_wetPlaces_30 : decode c_L_wetPlaces 30 = .ok (.iload_n 1, 1) := by decide +kernel
theorem d_L_wetPlaces_31 : decode c_L_wetPlaces 31 = .ok (.ireturn, 1) := by decide +kernel
theorem d_L_isBuilt_0 : decode c_L_isBuilt 0 = .ok (.aload_n 0, 1) := by decide +kernel
theorem d_L_isBuilt_1 : decode c_L_isBuilt 1 = .ok (.iload_n 1, 1) := by decide +kernel
theorem d_L_isBuilt_2 : decode c_L_isBuilt 2 = .ok (.invokevirtual 56, 3) := by decide +kernel
theorem d_L_isBuilt_5 : decode c_L_isBuilt 5 = .ok (.ifCond .eq 7, 3) := by decide +kernel
theorem d_L_isBuilt_8 : decode c_L_isBuilt 8 = .ok (.iconst 1, 1) := by decide +kernel
theorem d_L_isBuilt_9 : decode c_L_isBuilt 9 = .ok (.goto 4, 3) := by decide +kernel
theorem d_L_isBuilt_12 : decode c_L_isBuilt 12 = .ok (.iconst 0, 1) := by decide +kernel
theorem d_L_isBuilt_13 : decode c_L_isBuilt 13 = .ok (.ireturn, 1) := by decide +kernel
theorem d_L_roadSize_0 : decode c_L_roadSize 0 = .ok (.aload_n 0, 1) := by decide +kernel
theorem d_L_roadSize_1 : decode c_L_roadSize 1 = .ok (.getfield 11, 3) := by decide +kernel
theorem d_L_roadSize_4 : decode c_L_roadSize 4 = .ok (.sipush 175, 3) := by decide +kernel
theorem d_L_roadSize_7 : decode c_L_roadSize 7 = .ok (.iload_n 1, 1) := by decide +kernel
theorem d_L_roadSize_8 : decode c_L_roadSize 8 = .ok (.bipush 81, 2) := by decide +kernel
theorem d_L_roadSize_10 : decode c_L_roadSize 10 = .ok (.imul, 1) := by decide +kernel
theorem d_L_roadSize_11 : decode c_L_roadSize 11 = .ok (.iadd, 1) := by decide +kernel
theorem d_L_roadSize_12 : decode c_L_roadSize 12 = .ok (.iaload, 1) := by decide +kernel
theorem d_L_roadSize_13 : decode c_L_roadSize 13 = .ok (.ireturn, 1) := by decide +kernel
theorem d_L_roadPlace_0 : decode c_L_roadPlace 0 = .ok (.aload_n 0, 1) := by decide +kernel
theorem d_L_roadPlace_1 : decode c_L_roadPlace 1 = .ok (.getfield 11, 3) := by decide +kernel
theorem d_L_roadPlace_4 : decode c_L_roadPlace 4 = .ok (.sipush 175, 3) := by decide +kernel
theorem d_L_roadPlace_7 : decode c_L_roadPlace 7 = .ok (.iload_n 1, 1) := by decide +kernel
theorem d_L_roadPlace_8 : decode c_L_roadPlace 8 = .ok (.bipush 81, 2) := by decide +kernel
theorem d_L_roadPlace_10 : decode c_L_roadPlace 10 = .ok (.imul, 1) := by decide +kernel
theorem d_L_roadPlace_11 : decode c_L_roadPlace 11 = .ok (.iadd, 1) := by decide +kernel
theorem d_L_roadPlace_12 : decode c_L_roadPlace 12 = .ok (.iconst 1, 1) := by decide +kernel
theorem d_L_roadPlace_13 : decode c_L_roadPlace 13 = .ok (.iadd, 1) := by decide +kernel
theorem d_L_roadPlace_14 : decode c_L_roadPlace 14 = .ok (.iload_n 2, 1) := by decide +kernel
theorem d_L_roadPlace_15 : decode c_L_roadPlace 15 = .ok (.iadd, 1) := by decide +kernel
theorem d_L_roadPlace_16 : decode c_L_roadPlace 16 = .ok (.iaload, 1) := by decide +kernel
theorem d_L_roadPlace_17 : decode c_L_roadPlace 17 = .ok (.ireturn, 1) := by decide +kernel
theorem d_L_roadOffset_0 : decode c_L_roadOffset 0 = .ok (.aload_n 0, 1) := by decide +kernel
theorem d_L_roadOffset_1 : decode c_L_roadOffset 1 = .ok (.getfield 11, 3) := by decide +kernel
theorem d_L_roadOffset_4 : decode c_L_roadOffset 4 = .ok (.sipush 175, 3) := by decide +kernel
theorem d_L_roadOffset_7 : decode c_L_roadOffset 7 = .ok (.iload_n 1, 1) := by decide +kernel
theorem d_L_roadOffset_8 : decode c_L_roadOffset 8 = .ok (.bipush 81, 2) := by decide +kernel
theorem d_L_roadOffset_10 : decode c_L_roadOffset 10 = .ok (.imul, 1) := by decide +kernel
theorem d_L_roadOffset_11 : decode c_L_roadOffset 11 = .ok (.iadd, 1) := by decide +kernel
theorem d_L_roadOffset_12 : decode c_L_roadOffset 12 = .ok (.iconst 1, 1) := by decide +kernel
theorem d_L_roadOffset_13 : decode c_L_roadOffset 13 = .ok (.iadd, 1) := by decide +kernel
theorem d_L_roadOffset_14 : decode c_L_roadOffset 14 = .ok (.bipush 40, 2) := by decide +kernel
theorem d_L_roadOffset_16 : decode c_L_roadOffset 16 = .ok (.iadd, 1) := by decide +kernel
theorem d_L_roadOffset_17 : decode c_L_roadOffset 17 = .ok (.iload_n 2, 1) := by decide +kernel
theorem d_L_roadOffset_18 : decode c_L_roadOffset 18 = .ok (.iadd, 1) := by decide +kernel
theorem d_L_roadOffset_19 : decode c_L_roadOffset 19 = .ok (.iaload, 1) := by decide +kernel
theorem d_L_roadOffset_20 : decode c_L_roadOffset 20 = .ok (.ireturn, 1) := by decide +kernel
theorem d_L_setRoadOffset_0 : decode c_L_setRoadOffset 0 = .ok (.aload_n 0, 1) := by decide +kernel
theorem d_L_setRoadOffset_1 : decode c_L_setRoadOffset 1 = .ok (.getfield 11, 3) := by decide +kernel
theorem d_L_setRoadOffset_4 : decode c_L_setRoadOffset 4 = .ok (.sipush 175, 3) := by decide +kernel
theorem d_L_setRoadOffset_7 : decode c_L_setRoadOffset 7 = .ok (.iload_n 1, 1) := by decide +kernel
theorem d_L_setRoadOffset_8 : decode c_L_setRoadOffset 8 = .ok (.bipush 81, 2) := by decide +kernel
theorem d_L_setRoadOffset_10 : decode c_L_setRoadOffset 10 = .ok (.imul, 1) := by decide +kernel
theorem d_L_setRoadOffset_11 : decode c_L_setRoadOffset 11 = .ok (.iadd, 1) := by decide +kernel
theorem d_L_setRoadOffset_12 : decode c_L_setRoadOffset 12 = .ok (.iconst 1, 1) := by decide +kernel
theorem d_L_setRoadOffset_13 : decode c_L_setRoadOffset 13 = .ok (.iadd, 1) := by decide +kernel
theorem d_L_setRoadOffset_14 : decode c_L_setRoadOffset 14 = .ok (.bipush 40, 2) := by decide +kernel
theorem d_L_setRoadOffset_16 : decode c_L_setRoadOffset 16 = .ok (.iadd, 1) := by decide +kernel
theorem d_L_setRoadOffset_17 : decode c_L_setRoadOffset 17 = .ok (.iload_n 2, 1) := by decide +kernel
theorem d_L_setRoadOffset_18 : decode c_L_setRoadOffset 18 = .ok (.iadd, 1) := by decide +kernel
theorem d_L_setRoadOffset_19 : decode c_L_setRoadOffset 19 = .ok (.iload_n 3, 1) := by decide +kernel
theorem d_L_setRoadOffset_20 : decode c_L_setRoadOffset 20 = .ok (.iastore, 1) := by decide +kernel
theorem d_L_setRoadOffset_21 : decode c_L_setRoadOffset 21 = .ok (.return_, 1) := by decide +kernel
theorem d_L_clearRoad_0 : decode c_L_clearRoad 0 = .ok (.sipush 175, 3) := by decide +kernel
theorem d_L_clearRoad_3 : decode c_L_clearRoad 3 = .ok (.iload_n 1, 1) := by decide +kernel
theorem d_L_clearRoad_4 : decode c_L_clearRoad 4 = .ok (.bipush 81, 2) := by decide +kernel
theorem d_L_clearRoad_6 : decode c_L_clearRoad 6 = .ok (.imul, 1) := by decide +kernel
theorem d_L_clearRoad_7 : decode c_L_clearRoad 7 = .ok (.iadd, 1) := by decide +kernel
theorem d_L_clearRoad_8 : decode c_L_clearRoad 8 = .ok (.istore_n 2, 1) := by decide +kernel
theorem d_L_clearRoad_9 : decode c_L_clearRoad 9 = .ok (.aload_n 0, 1) := by decide +kernel
theorem d_L_clearRoad_10 : decode c_L_clearRoad 10 = .ok (.getfield 11, 3) := by decide +kernel
theorem d_L_clearRoad_13 : decode c_L_clearRoad 13 = .ok (.iload_n 2, 1) := by decide +kernel
theorem d_L_clearRoad_14 : decode c_L_clearRoad 14 = .ok (.iload_n 2, 1) := by decide +kernel
theorem d_L_clearRoad_15 : decode c_L_clearRoad 15 = .ok (.bipush 81, 2) := by decide +kernel
theorem d_L_clearRoad_17 : decode c_L_clearRoad 17 = .ok (.iadd, 1) := by decide +kernel
theorem d_L_clearRoad_18 : decode c_L_clearRoad 18 = .ok (.iconst 0, 1) := by decide +kernel
theorem d_L_clearRoad_19 : decode c_L_clearRoad 19 = .ok (.invokestatic 60, 3) := by decide +kernel
theorem d_L_clearRoad_22 : decode c_L_clearRoad 22 = .ok (.return_, 1) := by decide +kernel
theorem d_L_setRoad_0 : decode c_L_setRoad 0 = .ok (.aload_n 0, 1) := by decide +kernel
theorem d_L_setRoad_1 : decode c_L_setRoad 1 = .ok (.iload_n 1, 1) := by decide +kernel
theorem d_L_setRoad_2 : decode c_L_setRoad 2 = .ok (.invokevirtual 63, 3) := by decide +kernel
theorem d_L_setRoad_5 : decode c_L_setRoad 5 = .ok (.sipush 175, 3) := by decide +kernel
theorem d_L_setRoad_8 : decode c_L_setRoad 8 = .ok (.iload_n 1, 1) := by decide +kernel
theorem d_L_setRoad_9 : decode c_L_setRoad 9 = .ok (.bipush 81, 2) := by decide +kernel
theorem d_L_setRoad_11 : decode c_L_setRoad 11 = .ok (.imul, 1) := by decide +kernel
theorem d_L_setRoad_12 : decode c_L_setRoad 12 = .ok (.iadd, 1) := by decide +kernel
theorem d_L_setRoad_13 : decode c_L_setRoad 13 = .ok (.istore 4, 2) := by decide +kernel
theorem d_L_setRoad_15 : decode c_L_setRoad 15 = .ok (.aload_n 0, 1) := by decide +kernel
theorem d_L_setRoad_16 : decode c_L_setRoad 16 = .ok (.getfield 11, 3) := by decide +kernel
theorem d_L_setRoad_19 : decode c_L_setRoad 19 = .ok (.iload 4, 2) := by decide +kernel
theorem d_L_setRoad_21 : decode c_L_setRoad 21 = .ok (.iload_n 3, 1) := by decide +kernel
theorem d_L_setRoad_22 : decode c_L_setRoad 22 = .ok (.iastore, 1) := by decide +kernel
theorem d_L_setRoad_23 : decode c_L_setRoad 23 = .ok (.aload_n 2, 1) := by decide +kernel
theorem d_L_setRoad_24 : decode c_L_setRoad 24 = .ok (.iconst 0, 1) := by decide +kernel
theorem d_L_setRoad_25 : decode c_L_setRoad 25 = .ok (.aload_n 0, 1) := by decide +kernel
theorem d_L_setRoad_26 : decode c_L_setRoad 26 = .ok (.getfield 11, 3) := by decide +kernel
theorem d_L_setRoad_29 : decode c_L_setRoad 29 = .ok (.iload 4, 2) := by decide +kernel
theorem d_L_setRoad_31 : decode c_L_setRoad 31 = .ok (.iconst 1, 1) := by decide +kernel
theorem d_L_setRoad_32 : decode c_L_setRoad 32 = .ok (.iadd, 1) := by decide +kernel
theorem d_L_setRoad_33 : decode c_L_setRoad 33 = .ok (.iload_n 3, 1) := by decide +kernel
theorem d_L_setRoad_34 : decode c_L_setRoad 34 = .ok (.invokestatic 27, 3) := by decide +kernel
theorem d_L_setRoad_37 : decode c_L_setRoad 37 = .ok (.return_, 1) := by decide +kernel
theorem d_L_builtBits_0 : decode c_L_builtBits 0 = .ok (.iconst 0, 1) := by decide +kernel
theorem d_L_builtBits_1 : decode c_L_builtBits 1 = .ok (.istore_n 1, 1) := by decide +kernel
theorem d_L_builtBits_2 : decode c_L_builtBits 2 = .ok (.iconst 0, 1) := by decide +kernel
theorem d_L_builtBits_3 : decode c_L_builtBits 3 = .ok (.istore_n 2, 1) := by decide +kernel
theorem d_L_builtBits_4 : decode c_L_builtBits 4 = .ok (.iload_n 2, 1) := by decide +kernel
theorem d_L_builtBits_5 : decode c_L_builtBits 5 = .ok (.iconst 4, 1) := by decide +kernel
theorem d_L_builtBits_6 : decode c_L_builtBits 6 = .ok (.if_icmp .ge 27, 3) := by decide +kernel
theorem d_L_builtBits_9 : decode c_L_builtBits 9 = .ok (.iload_n 1, 1) := by decide +kernel
theorem d_L_builtBits_10 : decode c_L_builtBits 10 = .ok (.aload_n 0, 1) := by decide +kernel
theorem d_L_builtBits_11 : decode c_L_builtBits 11 = .ok (.iload_n 2, 1) := by decide +kernel
theorem d_L_builtBits_12 : decode c_L_builtBits 12 = .ok (.invokevirtual 67, 3) := by decide +kernel
theorem d_L_builtBits_15 : decode c_L_builtBits 15 = .ok (.ifCond .eq 9, 3) := by decide +kernel
theorem d_L_builtBits_18 : decode c_L_builtBits 18 = .ok (.iconst 1, 1) := by decide +kernel
theorem d_L_builtBits_19 : decode c_L_builtBits 19 = .ok (.iload_n 2, 1) := by decide +kernel
theorem d_L_builtBits_20 : decode c_L_builtBits 20 = .ok (.ishl, 1) := by decide +kernel
theorem d_L_builtBits_21 : decode c_L_builtBits 21 = .ok (.goto 4, 3) := by decide +kernel
theorem d_L_builtBits_24 : decode c_L_builtBits 24 = .ok (.iconst 0, 1) := by decide +kernel
theorem d_L_builtBits_25 : decode c_L_builtBits 25 = .ok (.ior, 1) := by decide +kernel
theorem d_L_builtBits_26 : decode c_L_builtBits 26 = .ok (.istore_n 1, 1) := by decide +kernel
theorem d_L_builtBits_27 : decode c_L_builtBits 27 = .ok (.iinc 2 1, 3) := by decide +kernel
theorem d_L_builtBits_30 : decode c_L_builtBits 30 = .ok (.goto (-26), 3) := by decide +kernel
theorem d_L_builtBits_33 : decode c_L_builtBits 33 = .ok (.iload_n 1, 1) := by decide +kernel
theorem d_L_builtBits_34 : decode c_L_builtBits 34 = .ok (.ireturn, 1) := by decide +kernel
theorem d_L_roadHeading_0 : decode c_L_roadHeading 0 = .ok (.aload_n 0, 1) := by decide +kernel
theorem d_L_roadHeading_1 : decode c_L_roadHeading 1 = .ok (.aload_n 0, 1) := by decide +kernel
theorem d_L_roadHeading_2 : decode c_L_roadHeading 2 = .ok (.iload_n 1, 1) := by decide +kernel
theorem d_L_roadHeading_3 : decode c_L_roadHeading 3 = .ok (.iload_n 2, 1) := by decide +kernel
theorem d_L_roadHeading_4 : decode c_L_roadHeading 4 = .ok (.invokevirtual 71, 3) := by decide +kernel
theorem d_L_roadHeading_7 : decode c_L_roadHeading 7 = .ok (.aload_n 0, 1) := by decide +kernel
theorem d_L_roadHeading_8 : decode c_L_roadHeading 8 = .ok (.iload_n 1, 1) := by decide +kernel
theorem d_L_roadHeading_9 : decode c_L_roadHeading 9 = .ok (.iload_n 2, 1) := by decide +kernel
theorem d_L_roadHeading_10 : decode c_L_roadHeading 10 = .ok (.iconst 1, 1) := by decide +kernel
theorem d_L_roadHeading_11 : decode c_L_roadHeading 11 = .ok (.iadd, 1) := by decide +kernel
theorem d_L_roadHeading_12 : decode c_L_roadHeading 12 = .ok (.invokevirtual 71, 3) := by decide +kernel
theorem d_L_roadHeading_15 : decode c_L_roadHeading 15 = .ok (.invokevirtual 75, 3) := by decide +kernel
theorem d_L_roadHeading_18 : decode c_L_roadHeading 18 = .ok (.ireturn, 1) := by decide +kernel
theorem d_L_headingTo_0 : decode c_L_headingTo 0 = .ok (.iconst 0, 1) := by decide +kernel
theorem d_L_headingTo_1 : decode c_L_headingTo 1 = .ok (.istore_n 3, 1) := by decide +kernel
theorem d_L_headingTo_2 : decode c_L_headingTo 2 = .ok (.iload_n 3, 1) := by decide +kernel
theorem d_L_headingTo_3 : decode c_L_headingTo 3 = .ok (.bipush 7, 2) := by decide +kernel
theorem d_L_headingTo_5 : decode c_L_headingTo 5 = .ok (.if_icmp .ge 24, 3) := by decide +kernel
theorem d_L_headingTo_8 : decode c_L_headingTo 8 = .ok (.aload_n 0, 1) := by decide +kernel
theorem d_L_headingTo_9 : decode c_L_headingTo 9 = .ok (.getfield 15, 3) := by decide +kernel
theorem d_L_headingTo_12 : decode c_L_headingTo 12 = .ok (.iload_n 1, 1) := by decide +kernel
theorem d_L_headingTo_13 : decode c_L_headingTo 13 = .ok (.bipush 8, 2) := by decide +kernel
theorem d_L_headingTo_15 : decode c_L_headingTo 15 = .ok (.imul, 1) := by decide +kernel
theorem d_L_headingTo_16 : decode c_L_headingTo 16 = .ok (.iload_n 3, 1) := by decide +kernel
theorem d_L_headingTo_17 : decode c_L_headingTo 17 = .ok (.iadd, 1) := by decide +kernel
theorem d_L_headingTo_18 : decode c_L_headingTo 18 = .ok (.iaload, 1) := by decide +kernel
theorem d_L_headingTo_19 : decode c_L_headingTo 19 = .ok (.iload_n 2, 1) := by decide +kernel
theorem d_L_headingTo_20 : decode c_L_headingTo 20 = .ok (.if_icmp .eq 9, 3) := by decide +kernel
theorem d_L_headingTo_23 : decode c_L_headingTo 23 = .ok (.iinc 3 1, 3) := by decide +kernel
theorem d_L_headingTo_26 : decode c_L_headingTo 26 = .ok (.goto (-24), 3) := by decide +kernel
theorem d_L_headingTo_29 : decode c_L_headingTo 29 = .ok (.iload_n 3, 1) := by decide +kernel
theorem d_L_headingTo_30 : decode c_L_headingTo 30 = .ok (.ireturn, 1) := by decide +kernel
theorem d_L_besideOf_0 : decode c_L_besideOf 0 = .ok (.aload_n 0, 1) := by decide +kernel
theorem d_L_besideOf_1 : decode c_L_besideOf 1 = .ok (.getfield 15, 3) := by decide +kernel
theorem d_L_besideOf_4 : decode c_L_besideOf 4 = .ok (.iload_n 1, 1) := by decide +kernel
theorem d_L_besideOf_5 : decode c_L_besideOf 5 = .ok (.bipush 8, 2) := by decide +kernel
theorem d_L_besideOf_7 : decode c_L_besideOf 7 = .ok (.imul, 1) := by decide +kernel
theorem d_L_besideOf_8 : decode c_L_besideOf 8 = .ok (.iload_n 2, 1) := by decide +kernel
theorem d_L_besideOf_9 : decode c_L_besideOf 9 = .ok (.iadd, 1) := by decide +kernel
theorem d_L_besideOf_10 : decode c_L_besideOf 10 = .ok (.iaload, 1) := by decide +kernel
theorem d_L_besideOf_11 : decode c_L_besideOf 11 = .ok (.ireturn, 1) := by decide +kernel
theorem d_L_isEdge_0 : decode c_L_isEdge 0 = .ok (.iconst 0, 1) := by decide +kernel
theorem d_L_isEdge_1 : decode c_L_isEdge 1 = .ok (.istore_n 2, 1) := by decide +kernel
theorem d_L_isEdge_2 : decode c_L_isEdge 2 = .ok (.iload_n 2, 1) := by decide +kernel
theorem d_L_isEdge_3 : decode c_L_isEdge 3 = .ok (.bipush 8, 2) := by decide +kernel
theorem d_L_isEdge_5 : decode c_L_isEdge 5 = .ok (.if_icmp .ge 21, 3) := by decide +kernel
theorem d_L_isEdge_8 : decode c_L_isEdge 8 = .ok (.aload_n 0, 1) := by decide +kernel
theorem d_L_isEdge_9 : decode c_L_isEdge 9 = .ok (.iload_n 1, 1) := by decide +kernel
theorem d_L_isEdge_10 : decode c_L_isEdge 10 = .ok (.iload_n 2, 1) := by decide +kernel
theorem d_L_isEdge_11 : decode c_L_isEdge 11 = .ok (.invokevirtual 78, 3) := by decide +kernel
theorem d_L_isEdge_14 : decode c_L_isEdge 14 = .ok (.iconst (-1), 1) := by decide +kernel
theorem d_L_isEdge_15 : decode c_L_isEdge 15 = .ok (.if_icmp .ne 5, 3) := by decide +kernel
theorem d_L_isEdge_18 : decode c_L_isEdge 18 = .ok (.iconst 1, 1) := by decide +kernel
theorem d_L_isEdge_19 : decode c_L_isEdge 19 = .ok (.ireturn, 1) := by decide +kernel
theorem d_L_isEdge_20 : decode c_L_isEdge 20 = .ok (.iinc 2 1, 3) := by decide +kernel
theorem d_L_isEdge_23 : decode c_L_isEdge 23 = .ok (.goto (-21), 3) := by decide +kernel
theorem d_L_isEdge_26 : decode c_L_isEdge 26 = .ok (.iconst 0, 1) := by decide +kernel
theorem d_L_isEdge_27 : decode c_L_isEdge 27 = .ok (.ireturn, 1) := by decide +kernel
theorem d_L_differ_0 : decode c_L_differ 0 = .ok (.aload_n 0, 1) := by decide +kernel
theorem d_L_differ_1 : decode c_L_differ 1 = .ok (.getfield 11, 3) := by decide +kernel
theorem d_L_differ_4 : decode c_L_differ 4 = .ok (.bipush 13, 2) := by decide +kernel
theorem d_L_differ_6 : decode c_L_differ 6 = .ok (.iload_n 2, 1) := by decide +kernel
theorem d_L_differ_7 : decode c_L_differ 7 = .ok (.iadd, 1) := by decide +kernel
theorem d_L_differ_8 : decode c_L_differ 8 = .ok (.iaload, 1) := by decide +kernel
theorem d_L_differ_9 : decode c_L_differ 9 = .ok (.aload_n 0, 1) := by decide +kernel
theorem d_L_differ_10 : decode c_L_differ 10 = .ok (.getfield 11, 3) := by decide +kernel
theorem d_L_differ_13 : decode c_L_differ 13 = .ok (.bipush 13, 2) := by decide +kernel
theorem d_L_differ_15 : decode c_L_differ 15 = .ok (.iload_n 1, 1) := by decide +kernel
theorem d_L_differ_16 : decode c_L_differ 16 = .ok (.iadd, 1) := by decide +kernel
theorem d_L_differ_17 : decode c_L_differ 17 = .ok (.iaload, 1) := by decide +kernel
theorem d_L_differ_18 : decode c_L_differ 18 = .ok (.isub, 1) := by decide +kernel
theorem d_L_differ_19 : decode c_L_differ 19 = .ok (.istore_n 3, 1) := by decide +kernel
theorem d_L_differ_20 : decode c_L_differ 20 = .ok (.iload_n 3, 1) := by decide +kernel
theorem d_L_differ_21 : decode c_L_differ 21 = .ok (.ifCond .ge 8, 3) := by decide +kernel
theorem d_L_differ_24 : decode c_L_differ 24 = .ok (.iload_n 3, 1) := by decide +kernel
theorem d_L_differ_25 : decode c_L_differ 25 = .ok (.ineg, 1) := by decide +kernel
theorem d_L_differ_26 : decode c_L_differ 26 = .ok (.goto 4, 3) := by decide +kernel
theorem d_L_differ_29 : decode c_L_differ 29 = .ok (.iload_n 3, 1) := by decide +kernel
theorem d_L_differ_30 : decode c_L_differ 30 = .ok (.ireturn, 1) := by decide +kernel
theorem d_L_isOpen_0 : decode c_L_isOpen 0 = .ok (.aload_n 0, 1) := by decide +kernel
theorem d_L_isOpen_1 : decode c_L_isOpen 1 = .ok (.iload_n 1, 1) := by decide +kernel
theorem d_L_isOpen_2 : decode c_L_isOpen 2 = .ok (.iload_n 2, 1) := by decide +kernel
theorem d_L_isOpen_3 : decode c_L_isOpen 3 = .ok (.invokevirtual 78, 3) := by decide +kernel
theorem d_L_isOpen_6 : decode c_L_isOpen 6 = .ok (.istore_n 3, 1) := by decide +kernel
theorem d_L_isOpen_7 : decode c_L_isOpen 7 = .ok (.iload_n 3, 1) := by decide +kernel
theorem d_L_isOpen_8 : decode c_L_isOpen 8 = .ok (.iconst (-1), 1) := by decide +kernel
theorem d_L_isOpen_9 : decode c_L_isOpen 9 = .ok (.if_icmp .eq 19, 3) := by decide +kernel
theorem d_L_isOpen_12 : decode c_L_isOpen 12 = .ok (.aload_n 0, 1) := by decide +kernel
theorem d_L_isOpen_13 : decode c_L_isOpen 13 = .ok (.iload_n 1, 1) := by decide +kernel
theorem d_L_isOpen_14 : decode c_L_isOpen 14 = .ok (.invokevirtual 81, 3) := by decide +kernel
theorem d_L_isOpen_17 : decode c_L_isOpen 17 = .ok (.ifCond .ne 11, 3) := by decide +kernel
theorem d_L_isOpen_20 : decode c_L_isOpen 20 = .ok (.aload_n 0, 1) := by decide +kernel
theorem d_L_isOpen_21 : decode c_L_isOpen 21 = .ok (.iload_n 3, 1) := by decide +kernel
theorem d_L_isOpen_22 : decode c_L_isOpen 22 = .ok (.invokevirtual 81, 3) := by decide +kernel
theorem d_L_isOpen_25 : decode c_L_isOpen 25 = .ok (.ifCond .eq 5, 3) := by decide +kernel
theorem d_L_isOpen_28 : decode c_L_isOpen 28 = .ok (.iconst 0, 1) := by decide +kernel
theorem d_L_isOpen_29 : decode c_L_isOpen 29 = .ok (.ireturn, 1) := by decide +kernel
theorem d_L_isOpen_30 : decode c_L_isOpen 30 = .ok (.iload_n 2, 1) := by decide +kernel
theorem d_L_isOpen_31 : decode c_L_isOpen 31 = .ok (.iconst 1, 1) := by decide +kernel
theorem d_L_isOpen_32 : decode c_L_isOpen 32 = .ok (.iand, 1) := by decide +kernel
theorem d_L_isOpen_33 : decode c_L_isOpen 33 = .ok (.ifCond .eq 39, 3) := by decide +kernel
theorem d_L_isOpen_36 : decode c_L_isOpen 36 = .ok (.aload_n 0, 1) := by decide +kernel
theorem d_L_isOpen_37 : decode c_L_isOpen 37 = .ok (.aload_n 0, 1) := by decide +kernel
theorem d_L_isOpen_38 : decode c_L_isOpen 38 = .ok (.iload_n 1, 1) := by decide +kernel
theorem d_L_isOpen_39 : decode c_L_isOpen 39 = .ok (.iload_n 2, 1) := by decide +kernel
theorem d_L_isOpen_40 : decode c_L_isOpen 40 = .ok (.iconst 1, 1) := by decide +kernel
theorem d_L_isOpen_41 : decode c_L_isOpen 41 = .ok (.isub, 1) := by decide +kernel
theorem d_L_isOpen_42 : decode c_L_isOpen 42 = .ok (.bipush 7, 2) := by decide +kernel
theorem d_L_isOpen_44 : decode c_L_isOpen 44 = .ok (.iand, 1) := by decide +kernel
theorem d_L_isOpen_45 : decode c_L_isOpen 45 = .ok (.invokevirtual 78, 3) := by decide +kernel
theorem d_L_isOpen_48 : decode c_L_isOpen 48 = .ok (.invokevirtual 81, 3) := by decide +kernel
theorem d_L_isOpen_51 : decode c_L_isOpen 51 = .ok (.ifCond .eq 21, 3) := by decide +kernel
theorem d_L_isOpen_54 : decode c_L_isOpen 54 = .ok (.aload_n 0, 1) := by decide +kernel
theorem d_L_isOpen_55 : decode c_L_isOpen 55 = .ok (.aload_n 0, 1) := by decide +kernel
theorem d_L_isOpen_56 : decode c_L_isOpen 56 = .ok (.iload_n 1, 1) := by decide +kernel
theorem d_L_isOpen_57 : decode c_L_isOpen 57 = .ok (.iload_n 2, 1) := by decide +kernel
theorem d_L_isOpen_58 : decode c_L_isOpen 58 = .ok (.iconst 1, 1) := by decide +kernel
theorem d_L_isOpen_59 : decode c_L_isOpen 59 = .ok (.iadd, 1) := by decide +kernel
theorem d_L_isOpen_60 : decode c_L_isOpen 60 = .ok (.bipush 7, 2) := by decide +kernel
theorem d_L_isOpen_62 : decode c_L_isOpen 62 = .ok (.iand, 1) := by decide +kernel
theorem d_L_isOpen_63 : decode c_L_isOpen 63 = .ok (.invokevirtual 78, 3) := by decide +kernel
theorem d_L_isOpen_66 : decode c_L_isOpen 66 = .ok (.invokevirtual 81, 3) := by decide +kernel
theorem d_L_isOpen_69 : decode c_L_isOpen 69 = .ok (.ifCond .ne 7, 3) := by decide +kernel
theorem d_L_isOpen_72 : decode c_L_isOpen 72 = .ok (.iconst 1, 1) := by decide +kernel
theorem d_L_isOpen_73 : decode c_L_isOpen 73 = .ok (.goto 4, 3) := by decide +kernel
theorem d_L_isOpen_76 : decode c_L_isOpen 76 = .ok (.iconst 0, 1) := by decide +kernel
theorem d_L_isOpen_77 : decode c_L_isOpen 77 = .ok (.ireturn, 1) := by decide +kernel
theorem d_L_isSteep_0 : decode c_L_isSteep 0 = .ok (.bipush 100, 2) := by decide +kernel
theorem d_L_isSteep_2 : decode c_L_isSteep 2 = .ok (.aload_n 0, 1) := by decide +kernel
theorem d_L_isSteep_3 : decode c_L_isSteep 3 = .ok (.iload_n 1, 1) := by decide +kernel
theorem d_L_isSteep_4 : decode c_L_isSteep 4 = .ok (.aload_n 0, 1) := by decide +kernel
theorem d_L_isSteep_5 : decode c_L_isSteep 5 = .ok (.iload_n 1, 1) := by decide +kernel
theorem d_L_isSteep_6 : decode c_L_isSteep 6 = .ok (.iload_n 2, 1) := by decide +kernel
theorem d_L_isSteep_7 : decode c_L_isSteep 7 = .ok (.invokevirtual 78, 3) := by decide +kernel
theorem d_L_isSteep_10 : decode c_L_isSteep 10 = .ok (.invokevirtual 84, 3) := by decide +kernel
theorem d_L_isSteep_13 : decode c_L_isSteep 13 = .ok (.imul, 1) := by decide +kernel
theorem d_L_isSteep_14 : decode c_L_isSteep 14 = .ok (.iload_n 3, 1) := by decide +kernel
theorem d_L_isSteep_15 : decode c_L_isSteep 15 = .ok (.iload_n 2, 1) := by decide +kernel
theorem d_L_isSteep_16 : decode c_L_isSteep 16 = .ok (.invokestatic 87, 3) := by decide +kernel
theorem d_L_isSteep_19 : decode c_L_isSteep 19 = .ok (.imul, 1) := by decide +kernel
theorem d_L_isSteep_20 : decode c_L_isSteep 20 = .ok (.if_icmp .le 7, 3) := by decide +kernel
theorem d_L_isSteep_23 : decode c_L_isSteep 23 = .ok (.iconst 1, 1) := by decide +kernel
theorem d_L_isSteep_24 : decode c_L_isSteep 24 = .ok (.goto 4, 3) := by decide +kernel
theorem d_L_isSteep_27 : decode c_L_isSteep 27 = .ok (.iconst 0, 1) := by decide +kernel
theorem d_L_isSteep_28 : decode c_L_isSteep 28 = .ok (.ireturn, 1) := by decide +kernel
theorem d_L_canStep_0 : decode c_L_canStep 0 = .ok (.aload_n 0, 1) := by decide +kernel
theorem d_L_canStep_1 : decode c_L_canStep 1 = .ok (.iload_n 1, 1) := by decide +kernel
theorem d_L_canStep_2 : decode c_L_canStep 2 = .ok (.iload_n 2, 1) := by decide +kernel
theorem d_L_canStep_3 : decode c_L_canStep 3 = .ok (.invokevirtual 90, 3) := by decide +kernel
theorem d_L_canStep_6 : decode c_L_canStep 6 = .ok (.ifCond .eq 21, 3) := by decide +kernel
theorem d_L_canStep_9 : decode c_L_canStep 9 = .ok (.aload_n 0, 1) := by decide +kernel
theorem d_L_canStep_10 : decode c_L_canStep 10 = .ok (.iload_n 1, 1) := by decide +kernel
theorem d_L_canStep_11 : decode c_L_canStep 11 = .ok (.iload_n 2, 1) := by decide +kernel
theorem d_L_canStep_12 : decode c_L_canStep 12 = .ok (.aload_n 0, 1) := by decide +kernel
theorem d_L_canStep_13 : decode c_L_canStep 13 = .ok (.iconst 0, 1) := by decide +kernel
theorem d_L_canStep_14 : decode c_L_canStep 14 = .ok (.invokevirtual 94, 3) := by decide +kernel
theorem d_L_canStep_17 : decode c_L_canStep 17 = .ok (.invokevirtual 97, 3) := by decide +kernel
theorem d_L_canStep_20 : decode c_L_canStep 20 = .ok (.ifCond .ne 7, 3) := by decide +kernel
theorem d_L_canStep_23 : decode c_L_canStep 23 = .ok (.iconst 1, 1) := by decide +kernel
theorem d_L_canStep_24 : decode c_L_canStep 24 = .ok (.goto 4, 3) := by decide +kernel
theorem d_L_canStep_27 : decode c_L_canStep 27 = .ok (.iconst 0, 1) := by decide +kernel
theorem d_L_canStep_28 : decode c_L_canStep 28 = .ok (.ireturn, 1) := by decide +kernel
theorem d_L_stepBits_0 : decode c_L_stepBits 0 = .ok (.iconst 0, 1) := by decide +kernel
theorem d_L_stepBits_1 : decode c_L_stepBits 1 = .ok (.istore_n 2, 1) := by decide +kernel
theorem d_L_stepBits_2 : decode c_L_stepBits 2 = .ok (.iconst 0, 1) := by decide +kernel
theorem d_L_stepBits_3 : decode c_L_stepBits 3 = .ok (.istore_n 3, 1) := by decide +kernel
theorem d_L_stepBits_4 : decode c_L_stepBits 4 = .ok (.iload_n 3, 1) := by decide +kernel
theorem d_L_stepBits_5 : decode c_L_stepBits 5 = .ok (.bipush 8, 2) := by decide +kernel
theorem d_L_stepBits_7 : decode c_L_stepBits 7 = .ok (.if_icmp .ge 28, 3) := by decide +kernel
theorem d_L_stepBits_10 : decode c_L_stepBits 10 = .ok (.iload_n 2, 1) := by decide +kernel
theorem d_L_stepBits_11 : decode c_L_stepBits 11 = .ok (.aload_n 0, 1) := by decide +kernel
theorem d_L_stepBits_12 : decode c_L_stepBits 12 = .ok (.iload_n 1, 1) := by decide +kernel
theorem d_L_stepBits_13 : decode c_L_stepBits 13 = .ok (.iload_n 3, 1) := by decide +kernel
theorem d_L_stepBits_14 : decode c_L_stepBits 14 = .ok (.invokevirtual 101, 3) := by decide +kernel
theorem d_L_stepBits_17 : decode c_L_stepBits 17 = .ok (.ifCond .eq 9, 3) := by decide +kernel
theorem d_L_stepBits_20 : decode c_L_stepBits 20 = .ok (.iconst 1, 1) := by decide +kernel
theorem d_L_stepBits_21 : decode c_L_stepBits 21 = .ok (.iload_n 3, 1) := by decide +kernel
theorem d_L_stepBits_22 : decode c_L_stepBits 22 = .ok (.ishl, 1) := by decide +kernel
theorem d_L_stepBits_23 : decode c_L_stepBits 23 = .ok (.goto 4, 3) := by decide +kernel
theorem d_L_stepBits_26 : decode c_L_stepBits 26 = .ok (.iconst 0, 1) := by decide +kernel
theorem d_L_stepBits_27 : decode c_L_stepBits 27 = .ok (.ior, 1) := by decide +kernel
theorem d_L_stepBits_28 : decode c_L_stepBits 28 = .ok (.istore_n 2, 1) := by decide +kernel
theorem d_L_stepBits_29 : decode c_L_stepBits 29 = .ok (.iinc 3 1, 3) := by decide +kernel
theorem d_L_stepBits_32 : decode c_L_stepBits 32 = .ok (.goto (-28), 3) := by decide +kernel
theorem d_L_stepBits_35 : decode c_L_stepBits 35 = .ok (.iload_n 2, 1) := by decide +kernel
theorem d_L_stepBits_36 : decode c_L_stepBits 36 = .ok (.ireturn, 1) := by decide +kernel
theorem d_L_isFlat_0 : decode c_L_isFlat 0 = .ok (.iconst 0, 1) := by decide +kernel
theorem d_L_isFlat_1 : decode c_L_isFlat 1 = .ok (.istore_n 2, 1) := by decide +kernel
theorem d_L_isFlat_2 : decode c_L_isFlat 2 = .ok (.iload_n 2, 1) := by decide +kernel
theorem d_L_isFlat_3 : decode c_L_isFlat 3 = .ok (.bipush 8, 2) := by decide +kernel
theorem d_L_isFlat_5 : decode c_L_isFlat 5 = .ok (.if_icmp .ge 37, 3) := by decide +kernel
theorem d_L_isFlat_8 : decode c_L_isFlat 8 = .ok (.aload_n 0, 1) := by decide +kernel
theorem d_L_isFlat_9 : decode c_L_isFlat 9 = .ok (.iload_n 1, 1) := by decide +kernel
theorem d_L_isFlat_10 : decode c_L_isFlat 10 = .ok (.iload_n 2, 1) := by decide +kernel
theorem d_L_isFlat_11 : decode c_L_isFlat 11 = .ok (.invokevirtual 78, 3) := by decide +kernel
theorem d_L_isFlat_14 : decode c_L_isFlat 14 = .ok (.istore_n 3, 1) := by decide +kernel
theorem d_L_isFlat_15 : decode c_L_isFlat 15 = .ok (.iload_n 3, 1) := by decide +kernel
theorem d_L_isFlat_16 : decode c_L_isFlat 16 = .ok (.iconst (-1), 1) := by decide +kernel
theorem d_L_isFlat_17 : decode c_L_isFlat 17 = .ok (.if_icmp .eq 19, 3) := by decide +kernel
theorem d_L_isFlat_20 : decode c_L_isFlat 20 = .ok (.aload_n 0, 1) := by decide +kernel
theorem d_L_isFlat_21 : decode c_L_isFlat 21 = .ok (.iload_n 1, 1) := by decide +kernel
theorem d_L_isFlat_22 : decode c_L_isFlat 22 = .ok (.iload_n 3, 1) := by decide +kernel
theorem d_L_isFlat_23 : decode c_L_isFlat 23 = .ok (.invokevirtual 84, 3) := by decide +kernel
theorem d_L_isFlat_26 : decode c_L_isFlat 26 = .ok (.aload_n 0, 1) := by decide +kernel
theorem d_L_isFlat_27 : decode c_L_isFlat 27 = .ok (.iconst 2, 1) := by decide +kernel
theorem d_L_isFlat_28 : decode c_L_isFlat 28 = .ok (.invokevirtual 94, 3) := by decide +kernel
theorem d_L_isFlat_31 : decode c_L_isFlat 31 = .ok (.if_icmp .le 5, 3) := by decide +kernel
theorem d_L_isFlat_34 : decode c_L_isFlat 34 = .ok (.iconst 0, 1) := by decide +kernel
theorem d_L_isFlat_35 : decode c_L_isFlat 35 = .ok (.ireturn, 1) := by decide +kernel
theorem d_L_isFlat_36 : decode c_L_isFlat 36 = .ok (.iinc 2 1, 3) := by decide +kernel
theorem d_L_isFlat_39 : decode c_L_isFlat 39 = .ok (.goto (-37), 3) := by decide +kernel
theorem d_L_isFlat_42 : decode c_L_isFlat 42 = .ok (.iconst 1, 1) := by decide +kernel
theorem d_L_isFlat_43 : decode c_L_isFlat 43 = .ok (.ireturn, 1) := by decide +kernel
theorem d_L_stepCost_0 : decode c_L_stepCost 0 = .ok (.iload_n 2, 1) := by decide +kernel
theorem d_L_stepCost_1 : decode c_L_stepCost 1 = .ok (.invokestatic 87, 3) := by decide +kernel
theorem d_L_stepCost_4 : decode c_L_stepCost 4 = .ok (.aload_n 0, 1) := by decide +kernel
theorem d_L_stepCost_5 : decode c_L_stepCost 5 = .ok (.iconst 3, 1) := by decide +kernel
theorem d_L_stepCost_6 : decode c_L_stepCost 6 = .ok (.invokevirtual 94, 3) := by decide +kernel
theorem d_L_stepCost_9 : decode c_L_stepCost 9 = .ok (.aload_n 0, 1) := by decide +kernel
theorem d_L_stepCost_10 : decode c_L_stepCost 10 = .ok (.iload_n 1, 1) := by decide +kernel
theorem d_L_stepCost_11 : decode c_L_stepCost 11 = .ok (.aload_n 0, 1) := by decide +kernel
theorem d_L_stepCost_12 : decode c_L_stepCost 12 = .ok (.iload_n 1, 1) := by decide +kernel
theorem d_L_stepCost_13 : decode c_L_stepCost 13 = .ok (.iload_n 2, 1) := by decide +kernel
theorem d_L_stepCost_14 : decode c_L_stepCost 14 = .ok (.invokevirtual 78, 3) := by decide +kernel
theorem d_L_stepCost_17 : decode c_L_stepCost 17 = .ok (.invokevirtual 84, 3) := by decide +kernel
theorem d_L_stepCost_20 : decode c_L_stepCost 20 = .ok (.imul, 1) := by decide +kernel
theorem d_L_stepCost_21 : decode c_L_stepCost 21 = .ok (.iadd, 1) := by decide +kernel
theorem d_L_stepCost_22 : decode c_L_stepCost 22 = .ok (.ireturn, 1) := by decide +kernel
theorem d_L_bendCost_0 : decode c_L_bendCost 0 = .ok (.iload_n 1, 1) := by decide +kernel
theorem d_L_bendCost_1 : decode c_L_bendCost 1 = .ok (.aload_n 0, 1) := by decide +kernel
theorem d_L_bendCost_2 : decode c_L_bendCost 2 = .ok (.iconst 1, 1) := by decide +kernel
theorem d_L_bendCost_3 : decode c_L_bendCost 3 = .ok (.invokevirtual 94, 3) := by decide +kernel
theorem d_L_bendCost_6 : decode c_L_bendCost 6 = .ok (.if_icmp .gt 13, 3) := by decide +kernel
theorem d_L_bendCost_9 : decode c_L_bendCost 9 = .ok (.aload_n 0, 1) := by decide +kernel
theorem d_L_bendCost_10 : decode c_L_bendCost 10 = .ok (.iconst 4, 1) := by decide +kernel
theorem d_L_bendCost_11 : decode c_L_bendCost 11 = .ok (.invokevirtual 94, 3) := by decide +kernel
theorem d_L_bendCost_14 : decode c_L_bendCost 14 = .ok (.iload_n 1, 1) := by decide +kernel
theorem d_L_bendCost_15 : decode c_L_bendCost 15 = .ok (.imul, 1) := by decide +kernel
theorem d_L_bendCost_16 : decode c_L_bendCost 16 = .ok (.goto 8, 3) := by decide +kernel
theorem d_L_bendCost_19 : decode c_L_bendCost 19 = .ok (.aload_n 0, 1) := by decide +kernel
theorem d_L_bendCost_20 : decode c_L_bendCost 20 = .ok (.iconst 5, 1) := by decide +kernel
theorem d_L_bendCost_21 : decode c_L_bendCost 21 = .ok (.invokevirtual 94, 3) := by decide +kernel
theorem d_L_bendCost_24 : decode c_L_bendCost 24 = .ok (.ireturn, 1) := by decide +kernel
theorem d_X_init_0 : decode c_X_init 0 = .ok (.aload_n 0, 1) := by decide +kernel
theorem d_X_init_1 : decode c_X_init 1 = .ok (.invokespecial 3, 3) := by decide +kernel
theorem d_X_init_4 : decode c_X_init 4 = .ok (.aload_n 0, 1) := by decide +kernel
theorem d_X_init_5 : decode c_X_init 5 = .ok (.aload_n 1, 1) := by decide +kernel
theorem d_X_init_6 : decode c_X_init 6 = .ok (.putfield 9, 3) := by decide +kernel
theorem d_X_init_9 : decode c_X_init 9 = .ok (.aload_n 0, 1) := by decide +kernel
theorem d_X_init_10 : decode c_X_init 10 = .ok (.sipush 499, 3) := by decide +kernel
theorem d_X_init_13 : decode c_X_init 13 = .ok (.newarray .int, 2) := by decide +kernel
theorem d_X_init_15 : decode c_X_init 15 = .ok (.putfield 17, 3) := by decide +kernel
theorem d_X_init_18 : decode c_X_init 18 = .ok (.aload_n 0, 1) := by decide +kernel
theorem d_X_init_19 : decode c_X_init 19 = .ok (.bipush 11, 2) := by decide +kernel
theorem d_X_init_21 : decode c_X_init 21 = .ok (.newarray .boolean, 2) := by decide +kernel
theorem d_X_init_23 : decode c_X_init 23 = .ok (.putfield 21, 3) := by decide +kernel
theorem d_X_init_26 : decode c_X_init 26 = .ok (.return_, 1) := by decide +kernel
theorem d_X_told_0 : decode c_X_told 0 = .ok (.aload_n 0, 1) := by decide +kernel
theorem d_X_told_1 : decode c_X_told 1 = .ok (.getfield 17, 3) := by decide +kernel
theorem d_X_told_4 : decode c_X_told 4 = .ok (.areturn, 1) := by decide +kernel
theorem d_X_read_0 : decode c_X_read 0 = .ok (.aload_n 0, 1) := by decide +kernel
theorem d_X_read_1 : decode c_X_read 1 = .ok (.aload_n 0, 1) := by decide +kernel
theorem d_X_read_2 : decode c_X_read 2 = .ok (.getfield 9, 3) := by decide +kernel
theorem d_X_read_5 : decode c_X_read 5 = .ok (.invokevirtual 25, 3) := by decide +kernel
theorem d_X_read_8 : decode c_X_read 8 = .ok (.putfield 31, 3) := by decide +kernel
theorem d_X_read_11 : decode c_X_read 11 = .ok (.aload_n 0, 1) := by decide +kernel
theorem d_X_read_12 : decode c_X_read 12 = .ok (.iconst 0, 1) := by decide +kernel
theorem d_X_read_13 : decode c_X_read 13 = .ok (.putfield 34, 3) := by decide +kernel
theorem d_X_read_16 : decode c_X_read 16 = .ok (.aload_n 0, 1) := by decide +kernel
theorem d_X_read_17 : decode c_X_read 17 = .ok (.getfield 17, 3) := by decide +kernel
theorem d_X_read_20 : decode c_X_read 20 = .ok (.iconst 0, 1) := by decide +kernel
theorem d_X_read_21 : decode c_X_read 21 = .ok (.invokestatic 37, 3) := by decide +kernel
theorem d_X_read_24 : decode c_X_read 24 = .ok (.getstatic 43, 3) := by decide +kernel
theorem d_X_read_27 : decode c_X_read 27 = .ok (.iconst 0, 1) := by decide +kernel
theorem d_X_read_28 : decode c_X_read 28 = .ok (.aload_n 0, 1) := by decide +kernel
theorem d_X_read_29 : decode c_X_read 29 = .ok (.getfield 17, 3) := by decide +kernel
theorem d_X_read_32 : decode c_X_read 32 = .ok (.iconst 2, 1) := by decide +kernel
theorem d_X_read_33 : decode c_X_read 33 = .ok (.bipush 11, 2) := by decide +kernel
theorem d_X_read_35 : decode c_X_read 35 = .ok (.invokestatic 46, 3) := by decide +kernel
theorem d_X_read_38 : decode c_X_read 38 = .ok (.iconst 0, 1) := by decide +kernel
theorem d_X_read_39 : decode c_X_read 39 = .ok (.istore_n 1, 1) := by decide +kernel
theorem d_X_read_40 : decode c_X_read 40 = .ok (.iload_n 1, 1) := by decide +kernel
theorem d_X_read_41 : decode c_X_read 41 = .ok (.bipush 11, 2) := by decide +kernel
theorem d_X_read_43 : decode c_X_read 43 = .ok (.if_icmp .ge 16, 3) := by decide +kernel
theorem d_X_read_46 : decode c_X_read 46 = .ok (.aload_n 0, 1) := by decide +kernel
theorem d_X_read_47 : decode c_X_read 47 = .ok (.getfield 21, 3) := by decide +kernel
theorem d_X_read_50 : decode c_X_read 50 = .ok (.iload_n 1, 1) := by decide +kernel
theorem d_X_read_51 : decode c_X_read 51 = .ok (.iconst 0, 1) := by decide +kernel
theorem d_X_read_52 : decode c_X_read 52 = .ok (.bastore, 1) := by decide +kernel
theorem d_X_read_53 : decode c_X_read 53 = .ok (.iinc 1 1, 3) := by decide +kernel
theorem d_X_read_56 : decode c_X_read 56 = .ok (.goto (-16), 3) := by decide +kernel
theorem d_X_read_59 : decode c_X_read 59 = .ok (.aload_n 0, 1) := by decide +kernel
theorem d_X_read_60 : decode c_X_read 60 = .ok (.invokevirtual 52, 3) := by decide +kernel
theorem d_X_read_63 : decode c_X_read 63 = .ok (.ifCond .eq 21, 3) := by decide +kernel
theorem d_X_read_66 : decode c_X_read 66 = .ok (.aload_n 0, 1) := by decide +kernel
theorem d_X_read_67 : decode c_X_read 67 = .ok (.invokevirtual 56, 3) := by decide +kernel
theorem d_X_read_70 : decode c_X_read 70 = .ok (.ifCond .eq 14, 3) := by decide +kernel
theorem d_X_read_73 : decode c_X_read 73 = .ok (.aload_n 0, 1) := by decide +kernel
theorem d_X_read_74 : decode c_X_read 74 = .ok (.invokevirtual 59, 3) := by decide +kernel
theorem d_X_read_77 : decode c_X_read 77 = .ok (.ifCond .eq 7, 3) := by decide +kernel
theorem d_X_read_80 : decode c_X_read 80 = .ok (.iconst (-1), 1) := by decide +kernel
theorem d_X_read_81 : decode c_X_read 81 = .ok (.goto 7, 3) := by decide +kernel
theorem d_X_read_84 : decode c_X_read 84 = .ok (.aload_n 0, 1) := by decide +kernel
theorem d_X_read_85 : decode c_X_read 85 = .ok (.getfield 62, 3) := by decide +kernel
theorem d_X_read_88 : decode c_X_read 88 = .ok (.ireturn, 1) := by decide +kernel
theorem d_X_readSize_0 : decode c_X_readSize 0 = .ok (.aload_n 0, 1) := by decide +kernel
theorem d_X_readSize_1 : decode c_X_readSize 1 = .ok (.ldc 65, 2) := by decide +kernel
theorem d_X_readSize_3 : decode c_X_readSize 3 = .ok (.invokevirtual 67, 3) := by decide +kernel
theorem d_X_readSize_6 : decode c_X_readSize 6 = .ok (.ifCond .eq 29, 3) := by decide +kernel
theorem d_X_readSize_9 : decode c_X_readSize 9 = .ok (.aload_n 0, 1) := by decide +kernel
theorem d_X_readSize_10 : decode c_X_readSize 10 = .ok (.iconst 2, 1) := by decide +kernel
theorem d_X_readSize_11 : decode c_X_readSize 11 = .ok (.bipush 9, 2) := by decide +kernel
theorem d_X_readSize_13 : decode c_X_readSize 13 = .ok (.iconst 0, 1) := by decide +kernel
theorem d_X_readSize_14 : decode c_X_readSize 14 = .ok (.invokevirtual 71, 3) := by decide +kernel
theorem d_X_readSize_17 : decode c_X_readSize 17 = .ok (.ifCond .eq 18, 3) := by decide +kernel
theorem d_X_readSize_20 : decode c_X_readSize 20 = .ok (.aload_n 0, 1) := by decide +kernel
theorem d_X_readSize_21 : decode c_X_readSize 21 = .ok (.iconst 2, 1) := by decide +kernel
theorem d_X_readSize_22 : decode c_X_readSize 22 = .ok (.bipush 9, 2) := by decide +kernel
theorem d_X_readSize_24 : decode c_X_readSize 24 = .ok (.iconst 1, 1) := by decide +kernel
theorem d_X_readSize_25 : decode c_X_readSize 25 = .ok (.invokevirtual 71, 3) := by decide +kernel
theorem d_X_readSize_28 : decode c_X_readSize 28 = .ok (.ifCond .eq 7, 3) := by decide +kernel
theorem d_X_readSize_31 : decode c_X_readSize 31 = .ok (.iconst 1, 1) := by decide +kernel
theorem d_X_readSize_32 : decode c_X_readSize 32 = .ok (.goto 4, 3) := by decide +kernel
theorem d_X_readSize_35 : decode c_X_readSize 35 = .ok (.iconst 0, 1) := by decide +kernel
theorem d_X_readSize_36 : decode c_X_readSize 36 = .ok (.ireturn, 1) := by decide +kernel
theorem d_X_readRows_0 : decode c_X_readRows 0 = .ok (.aload_n 0, 1) := by decide +kernel
theorem d_X_readRows_1 : decode c_X_readRows 1 = .ok (.getfield 17, 3) := by decide +kernel
theorem d_X_readRows_4 : decode c_X_readRows 4 = .ok (.iconst 0, 1) := by decide +kernel
theorem d_X_readRows_5 : decode c_X_readRows 5 = .ok (.iaload, 1) := by decide +kernel
theorem d_X_readRows_6 : decode c_X_readRows 6 = .ok (.istore_n 1, 1) := by decide +kernel
theorem d_X_readRows_7 : decode c_X_readRows 7 = .ok (.iload_n 1, 1) := by decide +kernel
theorem d_X_readRows_8 : decode c_X_readRows 8 = .ok (.aload_n 0, 1) := by decide +kernel
theorem d_X_readRows_9 : decode c_X_readRows 9 = .ok (.getfield 17, 3) := by decide +kernel
theorem d_X_readRows_12 : decode c_X_readRows 12 = .ok (.iconst 1, 1) := by decide +kernel
theorem d_X_readRows_13 : decode c_X_readRows 13 = .ok (.iaload, 1) := by decide +kernel
theorem d_X_readRows_14 : decode c_X_readRows 14 = .ok (.imul, 1) := by decide +kernel
theorem d_X_readRows_15 : decode c_X_readRows 15 = .ok (.istore_n 2, 1) := by decide +kernel
theorem d_X_readRows_16 : decode c_X_readRows 16 = .ok (.iconst 0, 1) := by decide +kernel
theorem d_X_readRows_17 : decode c_X_readRows 17 = .ok (.istore_n 3, 1) := by decide +kernel
theorem d_X_readRows_18 : decode c_X_readRows 18 = .ok (.iconst 0, 1) := by decide +kernel
theorem d_X_readRows_19 : decode c_X_readRows 19 = .ok (.istore 4, 2) := by decide +kernel
theorem d_X_readRows_21 : decode c_X_readRows 21 = .ok (.iload 4, 2) := by decide +kernel
theorem d_X_readRows_23 : decode c_X_readRows 23 = .ok (.iload_n 2, 1) := by decide +kernel
theorem d_X_readRows_24 : decode c_X_readRows 24 = .ok (.if_icmp .ge 63, 3) := by decide +kernel
theorem d_X_readRows_27 : decode c_X_readRows 27 = .ok (.iload_n 3, 1) := by decide +kernel
theorem d_X_readRows_28 : decode c_X_readRows 28 = .ok (.ifCond .ne 21, 3) := by decide +kernel
theorem d_X_readRows_31 : decode c_X_readRows 31 = .ok (.aload_n 0, 1) := by decide +kernel
theorem d_X_readRows_32 : decode c_X_readRows 32 = .ok (.invokevirtual 75, 3) := by decide +kernel
theorem d_X_readRows_35 : decode c_X_readRows 35 = .ok (.ifCond .eq 12, 3) := by decide +kernel
theorem d_X_readRows_38 : decode c_X_readRows 38 = .ok (.aload_n 0, 1) := by decide +kernel
theorem d_X_readRows_39 : decode c_X_readRows 39 = .ok (.ldc 78, 2) := by decide +kernel
theorem d_X_readRows_41 : decode c_X_readRows 41 = .ok (.invokevirtual 67, 3) := by decide +kernel
theorem d_X_readRows_44 : decode c_X_readRows 44 = .ok (.ifCond .ne 5, 3) := by decide +kernel
theorem d_X_readRows_47 : decode c_X_readRows 47 = .ok (.iconst 0, 1) := by decide +kernel
theorem d_X_readRows_48 : decode c_X_readRows 48 = .ok (.ireturn, 1) := by decide +kernel
theorem d_X_readRows_49 : decode c_X_readRows 49 = .ok (.aload_n 0, 1) := by decide +kernel
theorem d_X_readRows_50 : decode c_X_readRows 50 = .ok (.iconst 0, 1) := by decide +kernel
theorem d_X_readRows_51 : decode c_X_readRows 51 = .ok (.bipush 99, 2) := by decide +kernel
theorem d_X_readRows_53 : decode c_X_readRows 53 = .ok (.bipush 13, 2) := by decide +kernel
theorem d_X_readRows_55 : decode c_X_readRows 55 = .ok (.iload 4, 2) := by decide +kernel
theorem d_X_readRows_57 : decode c_X_readRows 57 = .ok (.iadd, 1) := by decide +kernel
theorem d_X_readRows_58 : decode c_X_readRows 58 = .ok (.invokevirtual 71, 3) := by decide +kernel
theorem d_X_readRows_61 : decode c_X_readRows 61 = .ok (.ifCond .ne 5, 3) := by decide +kernel
theorem d_X_readRows_64 : decode c_X_readRows 64 = .ok (.iconst 0, 1) := by decide +kernel
theorem d_X_readRows_65 : decode c_X_readRows 65 = .ok (.ireturn, 1) := by decide +kernel
theorem d_X_readRows_66 : decode c_X_readRows 66 = .ok (.iload_n 3, 1) := by decide +kernel
theorem d_X_readRows_67 : decode c_X_readRows 67 = .ok (.iconst 1, 1) := by decide +kernel
theorem d_X_readRows_68 : decode c_X_readRows 68 = .ok (.iadd, 1) := by decide +kernel
theorem d_X_readRows_69 : decode c_X_readRows 69 = .ok (.iload_n 1, 1) := by decide +kernel
theorem d_X_readRows_70 : decode c_X_readRows 70 = .ok (.if_icmp .ne 7, 3) := by decide +kernel
theorem d_X_readRows_73 : decode c_X_readRows 73 = .ok (.iconst 0, 1) := by decide +kernel
theorem d_X_readRows_74 : decode c_X_readRows 74 = .ok (.goto 6, 3) := by decide +kernel
theorem d_X_readRows_77 : decode c_X_readRows 77 = .ok (.iload_n 3, 1) := by decide +kernel
theorem d_X_readRows_78 : decode c_X_readRows 78 = .ok (.iconst 1, 1) := by decide +kernel
theorem d_X_readRows_79 : decode c_X_readRows 79 = .ok (.iadd, 1) := by decide +kernel
theorem d_X_readRows_80 : decode c_X_readRows 80 = .ok (.istore_n 3, 1) := by decide +kernel
theorem d_X_readRows_81 : decode c_X_readRows 81 = .ok (.iinc 4 1, 3) := by decide +kernel
theorem d_X_readRows_84 : decode c_X_readRows 84 = .ok (.goto (-63), 3) := by decide +kernel
theorem d_X_readRows_87 : decode c_X_readRows 87 = .ok (.iconst 1, 1) := by decide +kernel
theorem d_X_readRows_88 : decode c_X_readRows 88 = .ok (.ireturn, 1) := by decide +kernel
theorem d_X_readClauses_0 : decode c_X_readClauses 0 = .ok (.iconst 0, 1) := by decide +kernel
theorem d_X_readClauses_1 : decode c_X_readClauses 1 = .ok (.istore_n 1, 1) := by decide +kernel
theorem d_X_readClauses_2 : decode c_X_readClauses 2 = .ok (.iload_n 1, 1) := by decide +kernel
theorem d_X_readClauses_3 : decode c_X_readClauses 3 = .ok (.bipush 14, 2) := by decide +kernel
theorem d_X_readClauses_5 : decode c_X_readClauses 5 = .ok (.if_icmp .gt 54, 3) := by decide +kernel
theorem d_X_readClauses_8 : decode c_X_readClauses 8 = .ok (.aload_n 0, 1) := by decide +kernel
theorem d_X_readClauses_9 : decode c_X_readClauses 9 = .ok (.invokevirtual 80, 3) := by decide +kernel
theorem d_X_readClauses_12 : decode c_X_readClauses 12 = .ok (.aload_n 0, 1) := by decide +kernel
theorem d_X_readClauses_13 : decode c_X_readClauses 13 = .ok (.getfield 62, 3) := by decide +kernel
theorem d_X_readClauses_16 : decode c_X_readClauses 16 = .ok (.aload_n 0, 1) := by decide +kernel
theorem d_X_readClauses_17 : decode c_X_readClauses 17 = .ok (.getfield 31, 3) := by decide +kernel
theorem d_X_readClauses_20 : decode c_X_readClauses 20 = .ok (.if_icmp .ne 5, 3) := by decide +kernel
theorem d_X_readClauses_23 : decode c_X_readClauses 23 = .ok (.iconst 1, 1) := by decide +kernel
theorem d_X_readClauses_24 : decode c_X_readClauses 24 = .ok (.ireturn, 1) := by decide +kernel
theorem d_X_readClauses_25 : decode c_X_readClauses 25 = .ok (.aload_n 0, 1) := by decide +kernel
theorem d_X_readClauses_26 : decode c_X_readClauses 26 = .ok (.invokevirtual 75, 3) := by decide +kernel
theorem d_X_readClauses_29 : decode c_X_readClauses 29 = .ok (.ifCond .ne 5, 3) := by decide +kernel
theorem d_X_readClauses_32 : decode c_X_readClauses 32 = .ok (.iconst 0, 1) := by decide +kernel
theorem d_X_readClauses_33 : decode c_X_readClauses 33 = .ok (.ireturn, 1) := by decide +kernel
theorem d_X_readClauses_34 : decode c_X_readClauses 34 = .ok (.aload_n 0, 1) := by decide +kernel
theorem d_X_readClauses_35 : decode c_X_readClauses 35 = .ok (.invokevirtual 80, 3) := by decide +kernel
theorem d_X_readClauses_38 : decode c_X_readClauses 38 = .ok (.iload_n 1, 1) := by decide +kernel
theorem d_X_readClauses_39 : decode c_X_readClauses 39 = .ok (.bipush 14, 2) := by decide +kernel
theorem d_X_readClauses_41 : decode c_X_readClauses 41 = .ok (.if_icmp .eq 10, 3) := by decide +kernel
theorem d_X_readClauses_44 : decode c_X_readClauses 44 = .ok (.aload_n 0, 1) := by decide +kernel
theorem d_X_readClauses_45 : decode c_X_readClauses 45 = .ok (.invokevirtual 83, 3) := by decide +kernel
theorem d_X_readClauses_48 : decode c_X_readClauses 48 = .ok (.ifCond .ne 5, 3) := by decide +kernel
theorem d_X_readClauses_51 : decode c_X_readClauses 51 = .ok (.iconst 0, 1) := by decide +kernel
theorem d_X_readClauses_52 : decode c_X_readClauses 52 = .ok (.ireturn, 1) := by decide +kernel
theorem d_X_readClauses_53 : decode c_X_readClauses 53 = .ok (.iinc 1 1, 3) := by decide +kernel
theorem d_X_readClauses_56 : decode c_X_readClauses 56 = .ok (.goto (-54), 3) := by decide +kernel
theorem d_X_readClauses_59 : decode c_X_readClauses 59 = .ok (.iconst 0, 1) := by decide +kernel
theorem d_X_readClauses_60 : decode c_X_readClauses 60 = .ok (.ireturn, 1) := by decide +kernel
theorem d_X_readClause_0 : decode c_X_readClause 0 = .ok (.aload_n 0, 1) := by decide +kernel
theorem d_X_readClause_1 : decode c_X_readClause 1 = .ok (.ldc 86, 2) := by decide +kernel
theorem d_X_readClause_3 : decode c_X_readClause 3 = .ok (.invokevirtual 67, 3) := by decide +kernel
theorem d_X_readClause_6 : decode c_X_readClause 6 = .ok (.ifCond .eq 8, 3) := by decide +kernel
theorem d_X_readClause_9 : decode c_X_readClause 9 = .ok (.aload_n 0, 1) := by decide +kernel
theorem d_X_readClause_10 : decode c_X_readClause 10 = .ok (.invokevirtual 88, 3) := by decide +kernel
theorem d_X_readClause_13 : decode c_X_readClause 13 = .ok (.ireturn, 1) := by decide +kernel
theorem d_X_readClause_14 : decode c_X_readClause 14 = .ok (.iconst 0, 1) := by decide +kernel
theorem d_X_readClause_15 : decode c_X_readClause 15 = .ok (.istore_n 1, 1) := by decide +kernel
theorem d_X_readClause_16 : decode c_X_readClause 16 = .ok (.iload_n 1, 1) := by decide +kernel
theorem d_X_readClause_17 : decode c_X_readClause 17 = .ok (.bipush 11, 2) := by decide +kernel
theorem d_X_readClause_19 : decode c_X_readClause 19 = .ok (.if_icmp .ge 54, 3) := by decide +kernel
theorem d_X_readClause_22 : decode c_X_readClause 22 = .ok (.aload_n 0, 1) := by decide +kernel
theorem d_X_readClause_23 : decode c_X_readClause 23 = .ok (.getfield 21, 3) := by decide +kernel
theorem d_X_readClause_26 : decode c_X_readClause 26 = .ok (.iload_n 1, 1) := by decide +kernel
theorem d_X_readClause_27 : decode c_X_readClause 27 = .ok (.baload, 1) := by decide +kernel
theorem d_X_readClause_28 : decode c_X_readClause 28 = .ok (.ifCond .ne 39, 3) := by decide +kernel
theorem d_X_readClause_31 : decode c_X_readClause 31 = .ok (.aload_n 0, 1) := by decide +kernel
theorem d_X_readClause_32 : decode c_X_readClause 32 = .ok (.iload_n 1, 1) := by decide +kernel
theorem d_X_readClause_33 : decode c_X_readClause 33 = .ok (.invokestatic 91, 3) := by decide +kernel
theorem d_X_readClause_36 : decode c_X_readClause 36 = .ok (.invokevirtual 67, 3) := by decide +kernel
theorem d_X_readClause_39 : decode c_X_readClause 39 = .ok (.ifCond .eq 28, 3) := by decide +kernel
theorem d_X_readClause_42 : decode c_X_readClause 42 = .ok (.aload_n 0, 1) := by decide +kernel
theorem d_X_readClause_43 : decode c_X_readClause 43 = .ok (.getfield 21, 3) := by decide +kernel
theorem d_X_readClause_46 : decode c_X_readClause 46 = .ok (.iload_n 1, 1) := by decide +kernel
theorem d_X_readClause_47 : decode c_X_readClause 47 = .ok (.iconst 1, 1) := by decide +kernel
theorem d_X_readClause_48 : decode c_X_readClause 48 = .ok (.bastore, 1) := by decide +kernel
theorem d_X_readClause_49 : decode c_X_readClause 49 = .ok (.aload_n 0, 1) := by decide +kernel
theorem d_X_readClause_50 : decode c_X_readClause 50 = .ok (.getstatic 95, 3) := by decide +kernel
theorem d_X_readClause_53 : decode c_X_readClause 53 = .ok (.iload_n 1, 1) := by decide +kernel
theorem d_X_readClause_54 : decode c_X_readClause 54 = .ok (.iaload, 1) := by decide +kernel
theorem d_X_readClause_55 : decode c_X_readClause 55 = .ok (.getstatic 98, 3) := by decide +kernel
theorem d_X_readClause_58 : decode c_X_readClause 58 = .ok (.iload_n 1, 1) := by decide +kernel
theorem d_X_readClause_59 : decode c_X_readClause 59 = .ok (.iaload, 1) := by decide +kernel
theorem d_X_readClause_60 : decode c_X_readClause 60 = .ok (.iconst 2, 1) := by decide +kernel
theorem d_X_readClause_61 : decode c_X_readClause 61 = .ok (.iload_n 1, 1) := by decide +kernel
theorem d_X_readClause_62 : decode c_X_readClause 62 = .ok (.iadd, 1) := by decide +kernel
theorem d_X_readClause_63 : decode c_X_readClause 63 = .ok (.invokevirtual 71, 3) := by decide +kernel
theorem d_X_readClause_66 : decode c_X_readClause 66 = .ok (.ireturn, 1) := by decide +kernel
theorem d_X_readClause_67 : decode c_X_readClause 67 = .ok (.iinc 1 1, 3) := by decide +kernel
theorem d_X_readClause_70 : decode c_X_readClause 70 = .ok (.goto (-54), 3) := by decide +kernel
theorem d_X_readClause_73 : decode c_X_readClause 73 = .ok (.iconst 0, 1) := by decide +kernel
theorem d_X_readClause_74 : decode c_X_readClause 74 = .ok (.ireturn, 1) := by decide +kernel
theorem d_X_readWet_0 : decode c_X_readWet 0 = .ok (.aload_n 0, 1) := by decide +kernel
theorem d_X_readWet_1 : decode c_X_readWet 1 = .ok (.getfield 17, 3) := by decide +kernel
theorem d_X_readWet_4 : decode c_X_readWet 4 = .ok (.iconst 0, 1) := by decide +kernel
theorem d_X_readWet_5 : decode c_X_readWet 5 = .ok (.iaload, 1) := by decide +kernel
theorem d_X_readWet_6 : decode c_X_readWet 6 = .ok (.aload_n 0, 1) := by decide +kernel
theorem d_X_readWet_7 : decode c_X_readWet 7 = .ok (.getfield 17, 3) := by decide +kernel
theorem d_X_readWet_10 : decode c_X_readWet 10 = .ok (.iconst 1, 1) := by decide +kernel
theorem d_X_readWet_11 : decode c_X_readWet 11 = .ok (.iaload, 1) := by decide +kernel
theorem d_X_readWet_12 : decode c_X_readWet 12 = .ok (.imul, 1) := by decide +kernel
theorem d_X_readWet_13 : decode c_X_readWet 13 = .ok (.istore_n 1, 1) := by decide +kernel
theorem d_X_readWet_14 : decode c_X_readWet 14 = .ok (.aload_n 0, 1) := by decide +kernel
theorem d_X_readWet_15 : decode c_X_readWet 15 = .ok (.iconst 0, 1) := by decide +kernel
theorem d_X_readWet_16 : decode c_X_readWet 16 = .ok (.iload_n 1, 1) := by decide +kernel
theorem d_X_readWet_17 : decode c_X_readWet 17 = .ok (.iconst 1, 1) := by decide +kernel
theorem d_X_readWet_18 : decode c_X_readWet 18 = .ok (.isub, 1) := by decide +kernel
theorem d_X_readWet_19 : decode c_X_readWet 19 = .ok (.invokevirtual 101, 3) := by decide +kernel
theorem d_X_readWet_22 : decode c_X_readWet 22 = .ok (.istore_n 2, 1) := by decide +kernel
theorem d_X_readWet_23 : decode c_X_readWet 23 = .ok (.iload_n 2, 1) := by decide +kernel
theorem d_X_readWet_24 : decode c_X_readWet 24 = .ok (.iconst (-1), 1) := by decide +kernel
theorem d_X_readWet_25 : decode c_X_readWet 25 = .ok (.if_icmp .eq 15, 3) := by decide +kernel
theorem d_X_readWet_28 : decode c_X_readWet 28 = .ok (.aload_n 0, 1) := by decide +kernel
theorem d_X_readWet_29 : decode c_X_readWet 29 = .ok (.getfield 17, 3) := by decide +kernel
theorem d_X_readWet_32 : decode c_X_readWet 32 = .ok (.bipush 94, 2) := by decide +kernel
theorem d_X_readWet_34 : decode c_X_readWet 34 = .ok (.iload_n 2, 1) := by decide +kernel
theorem d_X_readWet_35 : decode c_X_readWet 35 = .ok (.iadd, 1) := by decide +kernel
theorem d_X_readWet_36 : decode c_X_readWet 36 = .ok (.iaload, 1) := by decide +kernel
theorem d_X_readWet_37 : decode c_X_readWet 37 = .ok (.ifCond .eq 5, 3) := by decide +kernel
theorem d_X_readWet_40 : decode c_X_readWet 40 = .ok (.iconst 0, 1) := by decide +kernel
theorem d_X_readWet_41 : decode c_X_readWet 41 = .ok (.ireturn, 1) := by decide +kernel
theorem d_X_readWet_42 : decode c_X_readWet 42 = .ok (.aload_n 0, 1) := by decide +kernel
theorem d_X_readWet_43 : decode c_X_readWet 43 = .ok (.getfield 17, 3) := by decide +kernel
theorem d_X_readWet_46 : decode c_X_readWet 46 = .ok (.bipush 94, 2) := by decide +kernel
theorem d_X_readWet_48 : decode c_X_readWet 48 = .ok (.iload_n 2, 1) := by decide +kernel
theorem d_X_readWet_49 : decode c_X_readWet 49 = .ok (.iadd, 1) := by decide +kernel
theorem d_X_readWet_50 : decode c_X_readWet 50 = .ok (.iconst 1, 1) := by decide +kernel
theorem d_X_readWet_51 : decode c_X_readWet 51 = .ok (.iastore, 1) := by decide +kernel
theorem d_X_readWet_52 : decode c_X_readWet 52 = .ok (.iconst 1, 1) := by decide +kernel
theorem d_X_readWet_53 : decode c_X_readWet 53 = .ok (.ireturn, 1) := by decide +kernel
theorem d_X_readNumber_0 : decode c_X_readNumber 0 = .ok (.aload_n 0, 1) := by decide +kernel
theorem d_X_readNumber_1 : decode c_X_readNumber 1 = .ok (.iload_n 1, 1) := by decide +kernel
theorem d_X_readNumber_2 : decode c_X_readNumber 2 = .ok (.iload_n 2, 1) := by decide +kernel
theorem d_X_readNumber_3 : decode c_X_readNumber 3 = .ok (.invokevirtual 101, 3) := by decide +kernel
theorem d_X_readNumber_6 : decode c_X_readNumber 6 = .ok (.istore 4, 2) := by decide +kernel
theorem d_X_readNumber_8 : decode c_X_readNumber 8 = .ok (.iload 4, 2) := by decide +kernel
theorem d_X_readNumber_10 : decode c_X_readNumber 10 = .ok (.iconst (-1), 1) := by decide +kernel
theorem d_X_readNumber_11 : decode c_X_readNumber 11 = .ok (.if_icmp .ne 5, 3) := by decide +kernel
theorem d_X_readNumber_14 : decode c_X_readNumber 14 = .ok (.iconst 0, 1) := by decide +kernel
theorem d_X_readNumber_15 : decode c_X_readNumber 15 = .ok (.ireturn, 1) := by decide +kernel
theorem d_X_readNumber_16 : decode c_X_readNumber 16 = .ok (.aload_n 0, 1) := by decide +kernel
theorem d_X_readNumber_17 : decode c_X_readNumber 17 = .ok (.getfield 17, 3) := by decide +kernel
theorem d_X_readNumber_20 : decode c_X_readNumber 20 = .ok (.iload_n 3, 1) := by decide +kernel
theorem d_X_readNumber_21 : decode c_X_readNumber 21 = .ok (.iload 4, 2) := by decide +kernel
theorem d_X_readNumber_23 : decode c_X_readNumber 23 = .ok (.iastore, 1) := by decide +kernel
theorem d_X_readNumber_24 : decode c_X_readNumber 24 = .ok (.iconst 1, 1) := by decide +kernel
theorem d_X_readNumber_25 : decode c_X_readNumber 25 = .ok (.ireturn, 1) := by decide +kernel
theorem d_X_number_0 : decode c_X_number 0 = .ok (.aload_n 0, 1) := by decide +kernel
theorem d_X_number_1 : decode c_X_number 1 = .ok (.invokevirtual 80, 3) := by decide +kernel
theorem d_X_number_4 : decode c_X_number 4 = .ok (.iconst 0, 1) := by decide +kernel
theorem d_X_number_5 : decode c_X_number 5 = .ok (.istore_n 3, 1) := by decide +kernel
theorem d_X_number_6 : decode c_X_number 6 = .ok (.iconst 0, 1) := by decide +kernel
theorem d_X_number_7 : decode c_X_number 7 = .ok (.istore 4, 2) := by decide +kernel
theorem d_X_number_9 : decode c_X_number 9 = .ok (.aload_n 0, 1) := by decide +kernel
theorem d_X_number_10 : decode c_X_number 10 = .ok (.getfield 62, 3) := by decide +kernel
theorem d_X_number_13 : decode c_X_number 13 = .ok (.istore 5, 2) := by decide +kernel
theorem d_X_number_15 : decode c_X_number 15 = .ok (.iload 5, 2) := by decide +kernel
theorem d_X_number_17 : decode c_X_number 17 = .ok (.aload_n 0, 1) := by decide +kernel
theorem d_X_number_18 : decode c_X_number 18 = .ok (.getfield 31, 3) := by decide +kernel
theorem d_X_number_21 : decode c_X_number 21 = .ok (.if_icmp .ge 67, 3) := by decide +kernel
theorem d_X_number_24 : decode c_X_number 24 = .ok (.aload_n 0, 1) := by decide +kernel
theorem d_X_number_25 : decode c_X_number 25 = .ok (.getfield 9, 3) := by decide +kernel
theorem d_X_number_28 : decode c_X_number 28 = .ok (.iload 5, 2) := by decide +kernel
theorem d_X_number_30 : decode c_X_number 30 = .ok (.invokevirtual 105, 3) := by decide +kernel
theorem d_X_number_33 : decode c_X_number 33 = .ok (.bipush 48, 2) := by decide +kernel
theorem d_X_number_35 : decode c_X_number 35 = .ok (.if_icmp .lt 53, 3) := by decide +kernel
theorem d_X_number_38 : decode c_X_number 38 = .ok (.aload_n 0, 1) := by decide +kernel
theorem d_X_number_39 : decode c_X_number 39 = .ok (.getfield 9, 3) := by decide +kernel
theorem d_X_number_42 : decode c_X_number 42 = .ok (.iload 5, 2) := by decide +kernel
theorem d_X_number_44 : decode c_X_number 44 = .ok (.invokevirtual 105, 3) := by decide +kernel
theorem d_X_number_47 : decode c_X_number 47 = .ok (.bipush 57, 2) := by decide +kernel
theorem d_X_number_49 : decode c_X_number 49 = .ok (.if_icmp .gt 39, 3) := by decide +kernel
theorem d_X_number_52 : decode c_X_number 52 = .ok (.iinc 3 1, 3) := by decide +kernel
theorem d_X_number_55 : decode c_X_number 55 = .ok (.iload_n 3, 1) := by decide +kernel
theorem d_X_number_56 : decode c_X_number 56 = .ok (.iconst 2, 1) := by decide +kernel
theorem d_X_number_57 : decode c_X_number 57 = .ok (.if_icmp .le 5, 3) := by decide +kernel
theorem d_X_number_60 : decode c_X_number 60 = .ok (.iconst (-1), 1) := by decide +kernel
theorem d_X_number_61 : decode c_X_number 61 = .ok (.ireturn, 1) := by decide +kernel
theorem d_X_number_62 : decode c_X_number 62 = .ok (.iload 4, 2) := by decide +kernel
theorem d_X_number_64 : decode c_X_number 64 = .ok (.bipush 10, 2) := by decide +kernel
theorem d_X_number_66 : decode c_X_number 66 = .ok (.imul, 1) := by decide +kernel
theorem d_X_number_67 : decode c_X_number 67 = .ok (.aload_n 0, 1) := by decide +kernel
theorem d_X_number_68 : decode c_X_number 68 = .ok (.getfield 9, 3) := by decide +kernel
theorem d_X_number_71 : decode c_X_number 71 = .ok (.iload 5, 2) := by decide +kernel
theorem d_X_number_73 : decode c_X_number 73 = .ok (.invokevirtual 105, 3) := by decide +kernel
theorem d_X_number_76 : decode c_X_number 76 = .ok (.iadd, 1) := by decide +kernel
theorem d_X_number_77 : decode c_X_number 77 = .ok (.bipush 48, 2) := by decide +kernel
theorem d_X_number_79 : decode c_X_number 79 = .ok (.isub, 1) := by decide +kernel
theorem d_X_number_80 : decode c_X_number 80 = .ok (.istore 4, 2) := by decide +kernel
theorem d_X_number_82 : decode c_X_number 82 = .ok (.iinc 5 1, 3) := by decide +kernel
theorem d_X_number_85 : decode c_X_number 85 = .ok (.goto (-70), 3) := by decide +kernel
theorem d_X_number_88 : decode c_X_number 88 = .ok (.aload_n 0, 1) := by decide +kernel
theorem d_X_number_89 : decode c_X_number 89 = .ok (.aload_n 0, 1) := by decide +kernel
theorem d_X_number_90 : decode c_X_number 90 = .ok (.getfield 62, 3) := by decide +kernel
theorem d_X_number_93 : decode c_X_number 93 = .ok (.iload_n 3, 1) := by decide +kernel
theorem d_X_number_94 : decode c_X_number 94 = .ok (.iadd, 1) := by decide +kernel
theorem d_X_number_95 : decode c_X_number 95 = .ok (.putfield 34, 3) := by decide +kernel
theorem d_X_number_98 : decode c_X_number 98 = .ok (.iload_n 3, 1) := by decide +kernel
theorem d_X_number_99 : decode c_X_number 99 = .ok (.ifCond .eq 15, 3) := by decide +kernel
theorem d_X_number_102 : decode c_X_number 102 = .ok (.iload 4, 2) := by decide +kernel
theorem d_X_number_104 : decode c_X_number 104 = .ok (.iload_n 1, 1) := by decide +kernel
theorem d_X_number_105 : decode c_X_number 105 = .ok (.if_icmp .lt 9, 3) := by decide +kernel
theorem d_X_number_108 : decode c_X_number 108 = .ok (.iload 4, 2) := by decide +kernel
theorem d_X_number_110 : decode c_X_number 110 = .ok (.iload_n 2, 1) := by decide +kernel
theorem d_X_number_111 : decode c_X_number 111 = .ok (.if_icmp .le 7, 3) := by decide +kernel
theorem d_X_number_114 : decode c_X_number 114 = .ok (.iconst (-1), 1) := by decide +kernel
theorem d_X_number_115 : decode c_X_number 115 = .ok (.goto 5, 3) := by decide +kernel
theorem d_X_number_118 : decode c_X_number 118 = .ok (.iload 4, 2) := by decide +kernel
theorem d_X_number_120 : decode c_X_number 120 = .ok (.ireturn, 1) := by decide +kernel
theorem d_X_readMark_0 : decode c_X_readMark 0 = .ok (.aload_n 0, 1) := by decide +kernel
theorem d_X_readMark_1 : decode c_X_readMark 1 = .ok (.invokevirtual 80, 3) := by decide +kernel
theorem d_X_readMark_4 : decode c_X_readMark 4 = .ok (.aload_n 0, 1) := by decide +kernel
theorem d_X_readMark_5 : decode c_X_readMark 5 = .ok (.getfield 62, 3) := by decide +kernel
theorem d_X_readMark_8 : decode c_X_readMark 8 = .ok (.aload_n 0, 1) := by decide +kernel
theorem d_X_readMark_9 : decode c_X_readMark 9 = .ok (.getfield 31, 3) := by decide +kernel
theorem d_X_readMark_12 : decode c_X_readMark 12 = .ok (.if_icmp .eq 19, 3) := by decide +kernel
theorem d_X_readMark_15 : decode c_X_readMark 15 = .ok (.aload_n 0, 1) := by decide +kernel
theorem d_X_readMark_16 : decode c_X_readMark 16 = .ok (.getfield 9, 3) := by decide +kernel
theorem d_X_readMark_19 : decode c_X_readMark 19 = .ok (.aload_n 0, 1) := by decide +kernel
theorem d_X_readMark_20 : decode c_X_readMark 20 = .ok (.getfield 62, 3) := by decide +kernel
theorem d_X_readMark_23 : decode c_X_readMark 23 = .ok (.invokevirtual 105, 3) := by decide +kernel
theorem d_X_readMark_26 : decode c_X_readMark 26 = .ok (.bipush 59, 2) := by decide +kernel
theorem d_X_readMark_28 : decode c_X_readMark 28 = .ok (.if_icmp .eq 5, 3) := by decide +kernel
theorem d_X_readMark_31 : decode c_X_readMark 31 = .ok (.iconst 0, 1) := by decide +kernel
theorem d_X_readMark_32 : decode c_X_readMark 32 = .ok (.ireturn, 1) := by decide +kernel
theorem d_X_readMark_33 : decode c_X_readMark 33 = .ok (.aload_n 0, 1) := by decide +kernel
theorem d_X_readMark_34 : decode c_X_readMark 34 = .ok (.aload_n 0, 1) := by decide +kernel
theorem d_X_readMark_35 : decode c_X_readMark 35 = .ok (.getfield 62, 3) := by decide +kernel
theorem d_X_readMark_38 : decode c_X_readMark 38 = .ok (.iconst 1, 1) := by decide +kernel
theorem d_X_readMark_39 : decode c_X_readMark 39 = .ok (.iadd, 1) := by decide +kernel
theorem d_X_readMark_40 : decode c_X_readMark 40 = .ok (.putfield 34, 3) := by decide +kernel
theorem d_X_readMark_43 : decode c_X_readMark 43 = .ok (.iconst 1, 1) := by decide +kernel
theorem d_X_readMark_44 : decode c_X_readMark 44 = .ok (.ireturn, 1) := by decide +kernel
theorem d_X_readWord_0 : decode c_X_readWord 0 = .ok (.aload_n 0, 1) := by decide +kernel
theorem d_X_readWord_1 : decode c_X_readWord 1 = .ok (.invokevirtual 80, 3) := by decide +kernel
theorem d_X_readWord_4 : decode c_X_readWord 4 = .ok (.iconst 0, 1) := by decide +kernel
theorem d_X_readWord_5 : decode c_X_readWord 5 = .ok (.istore_n 2, 1) := by decide +kernel
theorem d_X_readWord_6 : decode c_X_readWord 6 = .ok (.aload_n 0, 1) := by decide +kernel
theorem d_X_readWord_7 : decode c_X_readWord 7 = .ok (.getfield 62, 3) := by decide +kernel
theorem d_X_readWord_10 : decode c_X_readWord 10 = .ok (.istore_n 3, 1) := by decide +kernel
theorem d_X_readWord_11 : decode c_X_readWord 11 = .ok (.iload_n 3, 1) := by decide +kernel
theorem d_X_readWord_12 : decode c_X_readWord 12 = .ok (.aload_n 0, 1) := by decide +kernel
theorem d_X_readWord_13 : decode c_X_readWord 13 = .ok (.getfield 31, 3) := by decide +kernel
theorem d_X_readWord_16 : decode c_X_readWord 16 = .ok (.if_icmp .ge 64, 3) := by decide +kernel
theorem d_X_readWord_19 : decode c_X_readWord 19 = .ok (.aload_n 0, 1) := by decide +kernel
theorem d_X_readWord_20 : decode c_X_readWord 20 = .ok (.getfield 9, 3) := by decide +kernel
theorem d_X_readWord_23 : decode c_X_readWord 23 = .ok (.iload_n 3, 1) := by decide +kernel
theorem d_X_readWord_24 : decode c_X_readWord 24 = .ok (.invokevirtual 105, 3) := by decide +kernel
theorem d_X_readWord_27 : decode c_X_readWord 27 = .ok (.bipush 97, 2) := by decide +kernel
theorem d_X_readWord_29 : decode c_X_readWord 29 = .ok (.if_icmp .lt 51, 3) := by decide +kernel
theorem d_X_readWord_32 : decode c_X_readWord 32 = .ok (.aload_n 0, 1) := by decide +kernel
theorem d_X_readWord_33 : decode c_X_readWord 33 = .ok (.getfield 9, 3) := by decide +kernel
theorem d_X_readWord_36 : decode c_X_readWord 36 = .ok (.iload_n 3, 1) := by decide +kernel
theorem d_X_readWord_37 : decode c_X_readWord 37 = .ok (.invokevirtual 105, 3) := by decide +kernel
theorem d_X_readWord_40 : decode c_X_readWord 40 = .ok (.bipush 122, 2) := by decide +kernel
theorem d_X_readWord_42 : decode c_X_readWord 42 = .ok (.if_icmp .gt 38, 3) := by decide +kernel
theorem d_X_readWord_45 : decode c_X_readWord 45 = .ok (.iload_n 2, 1) := by decide +kernel
theorem d_X_readWord_46 : decode c_X_readWord 46 = .ok (.aload_n 1, 1) := by decide +kernel
theorem d_X_readWord_47 : decode c_X_readWord 47 = .ok (.invokevirtual 109, 3) := by decide +kernel
theorem d_X_readWord_50 : decode c_X_readWord 50 = .ok (.if_icmp .ge 19, 3) := by decide +kernel
theorem d_X_readWord_53 : decode c_X_readWord 53 = .ok (.aload_n 0, 1) := by decide +kernel
theorem d_X_readWord_54 : decode c_X_readWord 54 = .ok (.getfield 9, 3) := by decide +kernel
theorem d_X_readWord_57 : decode c_X_readWord 57 = .ok (.iload_n 3, 1) := by decide +kernel
theorem d_X_readWord_58 : decode c_X_readWord 58 = .ok (.invokevirtual 105, 3) := by decide +kernel
theorem d_X_readWord_61 : decode c_X_readWord 61 = .ok (.aload_n 1, 1) := by decide +kernel
theorem d_X_readWord_62 : decode c_X_readWord 62 = .ok (.iload_n 2, 1) := by decide +kernel
theorem d_X_readWord_63 : decode c_X_readWord 63 = .ok (.invokevirtual 114, 3) := by decide +kernel
theorem d_X_readWord_66 : decode c_X_readWord 66 = .ok (.if_icmp .eq 5, 3) := by decide +kernel
theorem d_X_readWord_69 : decode c_X_readWord 69 = .ok (.iconst 0, 1) := by decide +kernel
theorem d_X_readWord_70 : decode c_X_readWord 70 = .ok (.ireturn, 1) := by decide +kernel
theorem d_X_readWord_71 : decode c_X_readWord 71 = .ok (.iinc 2 1, 3) := by decide +kernel
theorem d_X_readWord_74 : decode c_X_readWord 74 = .ok (.iinc 3 1, 3) := by decide +kernel
theorem d_X_readWord_77 : decode c_X_readWord 77 = .ok (.goto (-66), 3) := by decide +kernel
theorem d_X_readWord_80 : decode c_X_readWord 80 = .ok (.iload_n 2, 1) := by decide +kernel
theorem d_X_readWord_81 : decode c_X_readWord 81 = .ok (.aload_n 1, 1) := by decide +kernel
theorem d_X_readWord_82 : decode c_X_readWord 82 = .ok (.invokevirtual 109, 3) := by decide +kernel
theorem d_X_readWord_85 : decode c_X_readWord 85 = .ok (.if_icmp .eq 5, 3) := by decide +kernel
theorem d_X_readWord_88 : decode c_X_readWord 88 = .ok (.iconst 0, 1) := by decide +kernel
theorem d_X_readWord_89 : decode c_X_readWord 89 = .ok (.ireturn, 1) := by decide +kernel
theorem d_X_readWord_90 : decode c_X_readWord 90 = .ok (.aload_n 0, 1) := by decide +kernel
theorem d_X_readWord_91 : decode c_X_readWord 91 = .ok (.aload_n 0, 1) := by decide +kernel
theorem d_X_readWord_92 : decode c_X_readWord 92 = .ok (.getfield 62, 3) := by decide +kernel
theorem d_X_readWord_95 : decode c_X_readWord 95 = .ok (.iload_n 2, 1) := by decide +kernel
theorem d_X_readWord_96 : decode c_X_readWord 96 = .ok (.iadd, 1) := by decide +kernel
theorem d_X_readWord_97 : decode c_X_readWord 97 = .ok (.putfield 34, 3) := by decide +kernel
theorem d_X_readWord_100 : decode c_X_readWord 100 = .ok (.iconst 1, 1) := by decide +kernel
theorem d_X_readWord_101 : decode c_X_readWord 101 = .ok (.ireturn, 1) := by decide +kernel
theorem d_X_toNextThing_0 : decode c_X_toNextThing 0 = .ok (.aload_n 0, 1) := by decide +kernel
theorem d_X_toNextThing_1 : decode c_X_toNextThing 1 = .ok (.aload_n 0, 1) := by decide +kernel
theorem d_X_toNextThing_2 : decode c_X_toNextThing 2 = .ok (.getfield 34, 3) := by decide +kernel
theorem d_X_toNextThing_5 : decode c_X_toNextThing 5 = .ok (.putfield 62, 3) := by decide +kernel
theorem d_X_toNextThing_8 : decode c_X_toNextThing 8 = .ok (.aload_n 0, 1) := by decide +kernel
theorem d_X_toNextThing_9 : decode c_X_toNextThing 9 = .ok (.getfield 62, 3) := by decide +kernel
theorem d_X_toNextThing_12 : decode c_X_toNextThing 12 = .ok (.aload_n 0, 1) := by decide +kernel
theorem d_X_toNextThing_13 : decode c_X_toNextThing 13 = .ok (.getfield 31, 3) := by decide +kernel
theorem d_X_toNextThing_16 : decode c_X_toNextThing 16 = .ok (.if_icmp .ge 32, 3) := by decide +kernel
theorem d_X_toNextThing_19 : decode c_X_toNextThing 19 = .ok (.aload_n 0, 1) := by decide +kernel
theorem d_X_toNextThing_20 : decode c_X_toNextThing 20 = .ok (.getfield 9, 3) := by decide +kernel
theorem d_X_toNextThing_23 : decode c_X_toNextThing 23 = .ok (.aload_n 0, 1) := by decide +kernel
theorem d_X_toNextThing_24 : decode c_X_toNextThing 24 = .ok (.getfield 62, 3) := by decide +kernel
theorem d_X_toNextThing_27 : decode c_X_toNextThing 27 = .ok (.invokevirtual 105, 3) := by decide +kernel
theorem d_X_toNextThing_30 : decode c_X_toNextThing 30 = .ok (.bipush 32, 2) := by decide +kernel
theorem d_X_toNextThing_32 : decode c_X_toNextThing 32 = .ok (.if_icmp .ne 16, 3) := by decide +kernel
theorem d_X_toNextThing_35 : decode c_X_toNextThing 35 = .ok (.aload_n 0, 1) := by decide +kernel
theorem d_X_toNextThing_36 : decode c_X_toNextThing 36 = .ok (.dup, 1) := by decide +kernel
theorem d_X_toNextThing_37 : decode c_X_toNextThing 37 = .ok (.getfield 62, 3) := by decide +kernel
theorem d_X_toNextThing_40 : decode c_X_toNextThing 40 = .ok (.iconst 1, 1) := by decide +kernel
theorem d_X_toNextThing_41 : decode c_X_toNextThing 41 = .ok (.iadd, 1) := by decide +kernel
theorem d_X_toNextThing_42 : decode c_X_toNextThing 42 = .ok (.putfield 62, 3) := by decide +kernel
theorem d_X_toNextThing_45 : decode c_X_toNextThing 45 = .ok (.goto (-37), 3) := by decide +kernel
theorem d_X_toNextThing_48 : decode c_X_toNextThing 48 = .ok (.aload_n 0, 1) := by decide +kernel
theorem d_X_toNextThing_49 : decode c_X_toNextThing 49 = .ok (.aload_n 0, 1) := by decide +kernel
theorem d_X_toNextThing_50 : decode c_X_toNextThing 50 = .ok (.getfield 62, 3) := by decide +kernel
theorem d_X_toNextThing_53 : decode c_X_toNextThing 53 = .ok (.putfield 34, 3) := by decide +kernel
theorem d_X_toNextThing_56 : decode c_X_toNextThing 56 = .ok (.return_, 1) := by decide +kernel
theorem d_X_wordOf_0 : decode c_X_wordOf 0 = .ok (.iload_n 0, 1) := by decide +kernel
theorem d_X_wordOf_1 : decode c_X_wordOf 1 = .ok (.tableswitch 85 0 9 #[55, 58, 61, 64, 67, 70, 73, 76, 79, 82], 55) := by decide +kernel
theorem d_X_wordOf_56 : decode c_X_wordOf 56 = .ok (.ldc 118, 2) := by decide +kernel
theorem d_X_wordOf_58 : decode c_X_wordOf 58 = .ok (.areturn, 1) := by decide +kernel
theorem d_X_wordOf_59 : decode c_X_wordOf 59 = .ok (.ldc 120, 2) := by decide +kernel
theorem d_X_wordOf_61 : decode c_X_wordOf 61 = .ok (.areturn, 1) := by decide +kernel
theorem d_X_wordOf_62 : decode c_X_wordOf 62 = .ok (.ldc 122, 2) := by decide +kernel
theorem d_X_wordOf_64 : decode c_X_wordOf 64 = .ok (.areturn, 1) := by decide +kernel
theorem d_X_wordOf_65 : decode c_X_wordOf 65 = .ok (.ldc 124, 2) := by decide +kernel
theorem d_X_wordOf_67 : decode c_X_wordOf 67 = .ok (.areturn, 1) := by decide +kernel
theorem d_X_wordOf_68 : decode c_X_wordOf 68 = .ok (.ldc 126, 2) := by decide +kernel
theorem d_X_wordOf_70 : decode c_X_wordOf 70 = .ok (.areturn, 1) := by decide +kernel
theorem d_X_wordOf_71 : decode c_X_wordOf 71 = .ok (.ldc 128, 2) := by decide +kernel
theorem d_X_wordOf_73 : decode c_X_wordOf 73 = .ok (.areturn, 1) := by decide +kernel
theorem d_X_wordOf_74 : decode c_X_wordOf 74 = .ok (.ldc 130, 2) := by decide +kernel
theorem d_X_wordOf_76 : decode c_X_wordOf 76 = .ok (.areturn, 1) := by decide +kernel
theorem d_X_wordOf_77 : decode c_X_wordOf 77 = .ok (.ldc 132, 2) := by decide +kernel
theorem d_X_wordOf_79 : decode c_X_wordOf 79 = .ok (.areturn, 1) := by decide +kernel
theorem d_X_wordOf_80 : decode c_X_wordOf 80 = .ok (.ldc 134, 2) := by decide +kernel
theorem d_X_wordOf_82 : decode c_X_wordOf 82 = .ok (.areturn, 1) := by decide +kernel
theorem d_X_wordOf_83 : decode c_X_wordOf 83 = .ok (.ldc 136, 2) := by decide +kernel
theorem d_X_wordOf_85 : decode c_X_wordOf 85 = .ok (.areturn, 1) := by decide +kernel
theorem d_X_wordOf_86 : decode c_X_wordOf 86 = .ok (.ldc 137, 2) := by decide +kernel
theorem d_X_wordOf_88 : decode c_X_wordOf 88 = .ok (.areturn, 1) := by decide +kernel
theorem d_P_init_0 : decode c_P_init 0 = .ok (.aload_n 0, 1) := by decide +kernel
theorem d_P_init_1 : decode c_P_init 1 = .ok (.invokespecial 1, 3) := by decide +kernel
theorem d_P_init_4 : decode c_P_init 4 = .ok (.aload_n 0, 1) := by decide +kernel
theorem d_P_init_5 : decode c_P_init 5 = .ok (.sipush 3992, 3) := by decide +kernel
theorem d_P_init_8 : decode c_P_init 8 = .ok (.newarray .int, 2) := by decide +kernel
theorem d_P_init_10 : decode c_P_init 10 = .ok (.putfield 11, 3) := by decide +kernel
theorem d_P_init_13 : decode c_P_init 13 = .ok (.aload_n 0, 1) := by decide +kernel
theorem d_P_init_14 : decode c_P_init 14 = .ok (.iconst 0, 1) := by decide +kernel
theorem d_P_init_15 : decode c_P_init 15 = .ok (.putfield 15, 3) := by decide +kernel
theorem d_P_init_18 : decode c_P_init 18 = .ok (.aload_n 0, 1) := by decide +kernel
theorem d_P_init_19 : decode c_P_init 19 = .ok (.iconst 0, 1) := by decide +kernel
theorem d_P_init_20 : decode c_P_init 20 = .ok (.putfield 19, 3) := by decide +kernel
theorem d_P_init_23 : decode c_P_init 23 = .ok (.return_, 1) := by decide +kernel
theorem d_P_size_0 : decode c_P_size 0 = .ok (.aload_n 0, 1) := by decide +kernel
theorem d_P_size_1 : decode c_P_size 1 = .ok (.getfield 19, 3) := by decide +kernel
theorem d_P_size_4 : decode c_P_size 4 = .ok (.ireturn, 1) := by decide +kernel
theorem d_P_forget_0 : decode c_P_forget 0 = .ok (.aload_n 0, 1) := by decide +kernel
theorem d_P_forget_1 : decode c_P_forget 1 = .ok (.iconst 0, 1) := by decide +kernel
theorem d_P_forget_2 : decode c_P_forget 2 = .ok (.putfield 19, 3) := by decide +kernel
theorem d_P_forget_5 : decode c_P_forget 5 = .ok (.return_, 1) := by decide +kernel
theorem d_P_remember_0 : decode c_P_remember 0 = .ok (.aload_n 1, 1) := by decide +kernel
theorem d_P_remember_1 : decode c_P_remember 1 = .ok (.aload_n 0, 1) := by decide +kernel
theorem d_P_remember_2 : decode c_P_remember 2 = .ok (.getfield 11, 3) := by decide +kernel
theorem d_P_remember_5 : decode c_P_remember 5 = .ok (.aload_n 0, 1) := by decide +kernel
theorem d_P_remember_6 : decode c_P_remember 6 = .ok (.invokevirtual 22, 3) := by decide +kernel
theorem d_P_remember_9 : decode c_P_remember 9 = .ok (.invokevirtual 26, 3) := by decide +kernel
theorem d_P_remember_12 : decode c_P_remember 12 = .ok (.aload_n 0, 1) := by decide +kernel
theorem d_P_remember_13 : decode c_P_remember 13 = .ok (.getfield 19, 3) := by decide +kernel
theorem d_P_remember_16 : decode c_P_remember 16 = .ok (.bipush 8, 2) := by decide +kernel
theorem d_P_remember_18 : decode c_P_remember 18 = .ok (.if_icmp .ge 16, 3) := by decide +kernel
theorem d_P_remember_21 : decode c_P_remember 21 = .ok (.aload_n 0, 1) := by decide +kernel
theorem d_P_remember_22 : decode c_P_remember 22 = .ok (.dup, 1) := by decide +kernel
theorem d_P_remember_23 : decode c_P_remember 23 = .ok (.getfield 19, 3) := by decide +kernel
theorem d_P_remember_26 : decode c_P_remember 26 = .ok (.iconst 1, 1) := by decide +kernel
theorem d_P_remember_27 : decode c_P_remember 27 = .ok (.iadd, 1) := by decide +kernel
theorem d_P_remember_28 : decode c_P_remember 28 = .ok (.putfield 19, 3) := by decide +kernel
theorem d_P_remember_31 : decode c_P_remember 31 = .ok (.goto 16, 3) := by decide +kernel
theorem d_P_remember_34 : decode c_P_remember 34 = .ok (.aload_n 0, 1) := by decide +kernel
theorem d_P_remember_35 : decode c_P_remember 35 = .ok (.aload_n 0, 1) := by decide +kernel
theorem d_P_remember_36 : decode c_P_remember 36 = .ok (.getfield 15, 3) := by decide +kernel
theorem d_P_remember_39 : decode c_P_remember 39 = .ok (.iconst 1, 1) := by decide +kernel
theorem d_P_remember_40 : decode c_P_remember 40 = .ok (.iadd, 1) := by decide +kernel
theorem d_P_remember_41 : decode c_P_remember 41 = .ok (.bipush 7, 2) := by decide +kernel
theorem d_P_remember_43 : decode c_P_remember 43 = .ok (.iand, 1) := by decide +kernel
theorem d_P_remember_44 : decode c_P_remember 44 = .ok (.putfield 15, 3) := by decide +kernel
theorem d_P_remember_47 : decode c_P_remember 47 = .ok (.return_, 1) := by decide +kernel
theorem d_P_takeBack_0 : decode c_P_takeBack 0 = .ok (.aload_n 0, 1) := by decide +kernel
theorem d_P_takeBack_1 : decode c_P_takeBack 1 = .ok (.getfield 19, 3) := by decide +kernel
theorem d_P_takeBack_4 : decode c_P_takeBack 4 = .ok (.ifCond .le 25, 3) := by decide +kernel
theorem d_P_takeBack_7 : decode c_P_takeBack 7 = .ok (.aload_n 0, 1) := by decide +kernel
theorem d_P_takeBack_8 : decode c_P_takeBack 8 = .ok (.dup, 1) := by decide +kernel
theorem d_P_takeBack_9 : decode c_P_takeBack 9 = .ok (.getfield 19, 3) := by decide +kernel
theorem d_P_takeBack_12 : decode c_P_takeBack 12 = .ok (.iconst 1, 1) := by decide +kernel
theorem d_P_takeBack_13 : decode c_P_takeBack 13 = .ok (.isub, 1) := by decide +kernel
theorem d_P_takeBack_14 : decode c_P_takeBack 14 = .ok (.putfield 19, 3) := by decide +kernel
theorem d_P_takeBack_17 : decode c_P_takeBack 17 = .ok (.aload_n 1, 1) := by decide +kernel
theorem d_P_takeBack_18 : decode c_P_takeBack 18 = .ok (.aload_n 0, 1) := by decide +kernel
theorem d_P_takeBack_19 : decode c_P_takeBack 19 = .ok (.getfield 11, 3) := by decide +kernel
theorem d_P_takeBack_22 : decode c_P_takeBack 22 = .ok (.aload_n 0, 1) := by decide +kernel
theorem d_P_takeBack_23 : decode c_P_takeBack 23 = .ok (.invokevirtual 22, 3) := by decide +kernel
theorem d_P_takeBack_26 : decode c_P_takeBack 26 = .ok (.invokevirtual 30, 3) := by decide +kernel
theorem d_P_takeBack_29 : decode c_P_takeBack 29 = .ok (.return_, 1) := by decide +kernel
theorem d_P_room_0 : decode c_P_room 0 = .ok (.aload_n 0, 1) := by decide +kernel
theorem d_P_room_1 : decode c_P_room 1 = .ok (.getfield 15, 3) := by decide +kernel
theorem d_P_room_4 : decode c_P_room 4 = .ok (.aload_n 0, 1) := by decide +kernel
theorem d_P_room_5 : decode c_P_room 5 = .ok (.getfield 19, 3) := by decide +kernel
theorem d_P_room_8 : decode c_P_room 8 = .ok (.iadd, 1) := by decide +kernel
theorem d_P_room_9 : decode c_P_room 9 = .ok (.bipush 7, 2) := by decide +kernel
theorem d_P_room_11 : decode c_P_room 11 = .ok (.iand, 1) := by decide +kernel
theorem d_P_room_12 : decode c_P_room 12 = .ok (.sipush 499, 3) := by decide +kernel
theorem d_P_room_15 : decode c_P_room 15 = .ok (.imul, 1) := by decide +kernel
theorem d_P_room_16 : decode c_P_room 16 = .ok (.ireturn, 1) := by decide +kernel
theorem d_S_init_0 : decode c_S_init 0 = .ok (.aload_n 0, 1) := by decide +kernel
theorem d_S_init_1 : decode c_S_init 1 = .ok (.invokespecial 3, 3) := by decide +kernel
theorem d_S_init_4 : decode c_S_init 4 = .ok (.aload_n 0, 1) := by decide +kernel
theorem d_S_init_5 : decode c_S_init 5 = .ok (.aload_n 1, 1) := by decide +kernel
theorem d_S_init_6 : decode c_S_init 6 = .ok (.putfield 9, 3) := by decide +kernel
theorem d_S_init_9 : decode c_S_init 9 = .ok (.aload_n 0, 1) := by decide +kernel
theorem d_S_init_10 : decode c_S_init 10 = .ok (.bipush 81, 2) := by decide +kernel
theorem d_S_init_12 : decode c_S_init 12 = .ok (.newarray .int, 2) := by decide +kernel
theorem d_S_init_14 : decode c_S_init 14 = .ok (.putfield 15, 3) := by decide +kernel
theorem d_S_init_17 : decode c_S_init 17 = .ok (.aload_n 0, 1) := by decide +kernel
theorem d_S_init_18 : decode c_S_init 18 = .ok (.bipush 81, 2) := by decide +kernel
theorem d_S_init_20 : decode c_S_init 20 = .ok (.newarray .int, 2) := by decide +kernel
theorem d_S_init_22 : decode c_S_init 22 = .ok (.putfield 19, 3) := by decide +kernel
theorem d_S_init_25 : decode c_S_init 25 = .ok (.aload_n 0, 1) := by decide +kernel
theorem d_S_init_26 : decode c_S_init 26 = .ok (.bipush 81, 2) := by decide +kernel
theorem d_S_init_28 : decode c_S_init 28 = .ok (.newarray .int, 2) := by decide +kernel
theorem d_S_init_30 : decode c_S_init 30 = .ok (.putfield 22, 3) := by decide +kernel
theorem d_S_init_33 : decode c_S_init 33 = .ok (.return_, 1) := by decide +kernel
theorem d_S_runOf_0 : decode c_S_runOf 0 = .ok (.iconst (-1), 1) := by decide +kernel
theorem d_S_runOf_1 : decode c_S_runOf 1 = .ok (.istore_n 2, 1) := by decide +kernel
theorem d_S_runOf_2 : decode c_S_runOf 2 = .ok (.aload_n 0, 1) := by decide +kernel
theorem d_S_runOf_3 : decode c_S_runOf 3 = .ok (.getfield 9, 3) := by decide +kernel
theorem d_S_runOf_6 : decode c_S_runOf 6 = .ok (.iload_n 1, 1) := by decide +kernel
theorem d_S_runOf_7 : decode c_S_runOf 7 = .ok (.invokevirtual 25, 3) := by decide +kernel
theorem d_S_runOf_10 : decode c_S_runOf 10 = .ok (.istore_n 3, 1) := by decide +kernel
theorem d_S_runOf_11 : decode c_S_runOf 11 = .ok (.iconst 0, 1) := by decide +kernel
theorem d_S_runOf_12 : decode c_S_runOf 12 = .ok (.istore 4, 2) := by decide +kernel
theorem d_S_runOf_14 : decode c_S_runOf 14 = .ok (.iload 4, 2) := by decide +kernel
theorem d_S_runOf_16 : decode c_S_runOf 16 = .ok (.bipush 8, 2) := by decide +kernel
theorem d_S_runOf_18 : decode c_S_runOf 18 = .ok (.if_icmp .ge 53, 3) := by decide +kernel
theorem d_S_runOf_21 : decode c_S_runOf 21 = .ok (.aload_n 0, 1) := by decide +kernel
theorem d_S_runOf_22 : decode c_S_runOf 22 = .ok (.getfield 9, 3) := by decide +kernel
theorem d_S_runOf_25 : decode c_S_runOf 25 = .ok (.iload_n 1, 1) := by decide +kernel
theorem d_S_runOf_26 : decode c_S_runOf 26 = .ok (.iload 4, 2) := by decide +kernel
theorem d_S_runOf_28 : decode c_S_runOf 28 = .ok (.invokevirtual 31, 3) := by decide +kernel
theorem d_S_runOf_31 : decode c_S_runOf 31 = .ok (.istore 5, 2) := by decide +kernel
theorem d_S_runOf_33 : decode c_S_runOf 33 = .ok (.iload 5, 2) := by decide +kernel
theorem d_S_runOf_35 : decode c_S_runOf 35 = .ok (.iconst (-1), 1) := by decide +kernel
theorem d_S_runOf_36 : decode c_S_runOf 36 = .ok (.if_icmp .eq 29, 3) := by decide +kernel
theorem d_S_runOf_39 : decode c_S_runOf 39 = .ok (.aload_n 0, 1) := by decide +kernel
theorem d_S_runOf_40 : decode c_S_runOf 40 = .ok (.getfield 9, 3) := by decide +kernel
theorem d_S_runOf_43 : decode c_S_runOf 43 = .ok (.iload 5, 2) := by decide +kernel
theorem d_S_runOf_45 : decode c_S_runOf 45 = .ok (.invokevirtual 25, 3) := by decide +kernel
theorem d_S_runOf_48 : decode c_S_runOf 48 = .ok (.iload_n 3, 1) := by decide +kernel
theorem d_S_runOf_49 : decode c_S_runOf 49 = .ok (.if_icmp .ge 16, 3) := by decide +kernel
theorem d_S_runOf_52 : decode c_S_runOf 52 = .ok (.iload 5, 2) := by decide +kernel
theorem d_S_runOf_54 : decode c_S_runOf 54 = .ok (.istore_n 2, 1) := by decide +kernel
theorem d_S_runOf_55 : decode c_S_runOf 55 = .ok (.aload_n 0, 1) := by decide +kernel
theorem d_S_runOf_56 : decode c_S_runOf 56 = .ok (.getfield 9, 3) := by decide +kernel
theorem d_S_runOf_59 : decode c_S_runOf 59 = .ok (.iload 5, 2) := by decide +kernel
theorem d_S_runOf_61 : decode c_S_runOf 61 = .ok (.invokevirtual 25, 3) := by decide +kernel
theorem d_S_runOf_64 : decode c_S_runOf 64 = .ok (.istore_n 3, 1) := by decide +kernel
theorem d_S_runOf_65 : decode c_S_runOf 65 = .ok (.iinc 4 1, 3) := by decide +kernel
theorem d_S_runOf_68 : decode c_S_runOf 68 = .ok (.goto (-54), 3) := by decide +kernel
theorem d_S_runOf_71 : decode c_S_runOf 71 = .ok (.iload_n 2, 1) := by decide +kernel
theorem d_S_runOf_72 : decode c_S_runOf 72 = .ok (.ireturn, 1) := by decide +kernel
theorem d_S_sinks_0 : decode c_S_sinks 0 = .ok (.iconst 0, 1) := by decide +kernel
theorem d_S_sinks_1 : decode c_S_sinks 1 = .ok (.istore_n 1, 1) := by decide +kernel
theorem d_S_sinks_2 : decode c_S_sinks 2 = .ok (.iconst 0, 1) := by decide +kernel
theorem d_S_sinks_3 : decode c_S_sinks 3 = .ok (.istore_n 2, 1) := by decide +kernel
theorem d_S_sinks_4 : decode c_S_sinks 4 = .ok (.iload_n 2, 1) := by decide +kernel
theorem d_S_sinks_5 : decode c_S_sinks 5 = .ok (.aload_n 0, 1) := by decide +kernel
theorem d_S_sinks_6 : decode c_S_sinks 6 = .ok (.getfield 9, 3) := by decide +kernel
theorem d_S_sinks_9 : decode c_S_sinks 9 = .ok (.invokevirtual 35, 3) := by decide +kernel
theorem d_S_sinks_12 : decode c_S_sinks 12 = .ok (.if_icmp .ge 26, 3) := by decide +kernel
theorem d_S_sinks_15 : decode c_S_sinks 15 = .ok (.iload_n 1, 1) := by decide +kernel
theorem d_S_sinks_16 : decode c_S_sinks 16 = .ok (.aload_n 0, 1) := by decide +kernel
theorem d_S_sinks_17 : decode c_S_sinks 17 = .ok (.iload_n 2, 1) := by decide +kernel
theorem d_S_sinks_18 : decode c_S_sinks 18 = .ok (.invokevirtual 39, 3) := by decide +kernel
theorem d_S_sinks_21 : decode c_S_sinks 21 = .ok (.iconst (-1), 1) := by decide +kernel
theorem d_S_sinks_22 : decode c_S_sinks 22 = .ok (.if_icmp .ne 7, 3) := by decide +kernel
theorem d_S_sinks_25 : decode c_S_sinks 25 = .ok (.iconst 1, 1) := by decide +kernel
theorem d_S_sinks_26 : decode c_S_sinks 26 = .ok (.goto 4, 3) := by decide +kernel
theorem d_S_sinks_29 : decode c_S_sinks 29 = .ok (.iconst 0, 1) := by decide +kernel
theorem d_S_sinks_30 : decode c_S_sinks 30 = .ok (.iadd, 1) := by decide +kernel
theorem d_S_sinks_31 : decode c_S_sinks 31 = .ok (.istore_n 1, 1) := by decide +kernel
theorem d_S_sinks_32 : decode c_S_sinks 32 = .ok (.iinc 2 1, 3) := by decide +kernel
theorem d_S_sinks_35 : decode c_S_sinks 35 = .ok (.goto (-31), 3) := by decide +kernel
theorem d_S_sinks_38 : decode c_S_sinks 38 = .ok (.iload_n 1, 1) := by decide +kernel
theorem d_S_sinks_39 : decode c_S_sinks 39 = .ok (.ireturn, 1) := by decide +kernel
theorem d_S_gather_0 : decode c_S_gather 0 = .ok (.aload_n 0, 1) := by decide +kernel
theorem d_S_gather_1 : decode c_S_gather 1 = .ok (.getfield 9, 3) := by decide +kernel
theorem d_S_gather_4 : decode c_S_gather 4 = .ok (.invokevirtual 35, 3) := by decide +kernel
theorem d_S_gather_7 : decode c_S_gather 7 = .ok (.istore_n 1, 1) := by decide +kernel
theorem d_S_gather_8 : decode c_S_gather 8 = .ok (.iconst 0, 1) := by decide +kernel
theorem d_S_gather_9 : decode c_S_gather 9 = .ok (.istore_n 2, 1) := by decide +kernel
theorem d_S_gather_10 : decode c_S_gather 10 = .ok (.iload_n 2, 1) := by decide +kernel
theorem d_S_gather_11 : decode c_S_gather 11 = .ok (.iload_n 1, 1) := by decide +kernel
theorem d_S_gather_12 : decode c_S_gather 12 = .ok (.if_icmp .ge 27, 3) := by decide +kernel
theorem d_S_gather_15 : decode c_S_gather 15 = .ok (.aload_n 0, 1) := by decide +kernel
theorem d_S_gather_16 : decode c_S_gather 16 = .ok (.getfield 15, 3) := by decide +kernel
theorem d_S_gather_19 : decode c_S_gather 19 = .ok (.iload_n 2, 1) := by decide +kernel
theorem d_S_gather_20 : decode c_S_gather 20 = .ok (.aload_n 0, 1) := by decide +kernel
theorem d_S_gather_21 : decode c_S_gather 21 = .ok (.iload_n 2, 1) := by decide +kernel
theorem d_S_gather_22 : decode c_S_gather 22 = .ok (.invokevirtual 39, 3) := by decide +kernel
theorem d_S_gather_25 : decode c_S_gather 25 = .ok (.iastore, 1) := by decide +kernel
theorem d_S_gather_26 : decode c_S_gather 26 = .ok (.aload_n 0, 1) := by decide +kernel
theorem d_S_gather_27 : decode c_S_gather 27 = .ok (.getfield 19, 3) := by decide +kernel
theorem d_S_gather_30 : decode c_S_gather 30 = .ok (.iload_n 2, 1) := by decide +kernel
theorem d_S_gather_31 : decode c_S_gather 31 = .ok (.iconst 0, 1) := by decide +kernel
theorem d_S_gather_32 : decode c_S_gather 32 = .ok (.iastore, 1) := by decide +kernel
theorem d_S_gather_33 : decode c_S_gather 33 = .ok (.iinc 2 1, 3) := by decide +kernel
theorem d_S_gather_36 : decode c_S_gather 36 = .ok (.goto (-26), 3) := by decide +kernel
theorem d_S_gather_39 : decode c_S_gather 39 = .ok (.iconst 0, 1) := by decide +kernel
theorem d_S_gather_40 : decode c_S_gather 40 = .ok (.istore_n 2, 1) := by decide +kernel
theorem d_S_gather_41 : decode c_S_gather 41 = .ok (.iload_n 2, 1) := by decide +kernel
theorem d_S_gather_42 : decode c_S_gather 42 = .ok (.iload_n 1, 1) := by decide +kernel
theorem d_S_gather_43 : decode c_S_gather 43 = .ok (.if_icmp .ge 48, 3) := by decide +kernel
theorem d_S_gather_46 : decode c_S_gather 46 = .ok (.iload_n 2, 1) := by decide +kernel
theorem d_S_gather_47 : decode c_S_gather 47 = .ok (.istore_n 3, 1) := by decide +kernel
theorem d_S_gather_48 : decode c_S_gather 48 = .ok (.iconst 0, 1) := by decide +kernel
theorem d_S_gather_49 : decode c_S_gather 49 = .ok (.istore 4, 2) := by decide +kernel
theorem d_S_gather_51 : decode c_S_gather 51 = .ok (.iload 4, 2) := by decide +kernel
theorem d_S_gather_53 : decode c_S_gather 53 = .ok (.iload_n 1, 1) := by decide +kernel
theorem d_S_gather_54 : decode c_S_gather 54 = .ok (.if_icmp .ge 31, 3) := by decide +kernel
theorem d_S_gather_57 : decode c_S_gather 57 = .ok (.iload_n 3, 1) := by decide +kernel
theorem d_S_gather_58 : decode c_S_gather 58 = .ok (.iconst (-1), 1) := by decide +kernel
theorem d_S_gather_59 : decode c_S_gather 59 = .ok (.if_icmp .eq 26, 3) := by decide +kernel
theorem d_S_gather_62 : decode c_S_gather 62 = .ok (.aload_n 0, 1) := by decide +kernel
theorem d_S_gather_63 : decode c_S_gather 63 = .ok (.getfield 19, 3) := by decide +kernel
theorem d_S_gather_66 : decode c_S_gather 66 = .ok (.iload_n 3, 1) := by decide +kernel
theorem d_S_gather_67 : decode c_S_gather 67 = .ok (.dup2, 1) := by decide +kernel
theorem d_S_gather_68 : decode c_S_gather 68 = .ok (.iaload, 1) := by decide +kernel
theorem d_S_gather_69 : decode c_S_gather 69 = .ok (.iconst 1, 1) := by decide +kernel
theorem d_S_gather_70 : decode c_S_gather 70 = .ok (.iadd, 1) := by decide +kernel
theorem d_S_gather_71 : decode c_S_gather 71 = .ok (.iastore, 1) := by decide +kernel
theorem d_S_gather_72 : decode c_S_gather 72 = .ok (.aload_n 0, 1) := by decide +kernel
theorem d_S_gather_73 : decode c_S_gather 73 = .ok (.getfield 15, 3) := by decide +kernel
theorem d_S_gather_76 : decode c_S_gather 76 = .ok (.iload_n 3, 1) := by decide +kernel
theorem d_S_gather_77 : decode c_S_gather 77 = .ok (.iaload, 1) := by decide +kernel
theorem d_S_gather_78 : decode c_S_gather 78 = .ok (.istore_n 3, 1) := by decide +kernel
theorem d_S_gather_79 : decode c_S_gather 79 = .ok (.iinc 4 1, 3) := by decide +kernel
theorem d_S_gather_82 : decode c_S_gather 82 = .ok (.goto (-31), 3) := by decide +kernel
theorem d_S_gather_85 : decode c_S_gather 85 = .ok (.iinc 2 1, 3) := by decide +kernel
theorem d_S_gather_88 : decode c_S_gather 88 = .ok (.goto (-47), 3) := by decide +kernel
theorem d_S_gather_91 : decode c_S_gather 91 = .ok (.return_, 1) := by decide +kernel
theorem d_S_catchOf_0 : decode c_S_catchOf 0 = .ok (.aload_n 0, 1) := by decide +kernel
theorem d_S_catchOf_1 : decode c_S_catchOf 1 = .ok (.getfield 19, 3) := by decide +kernel
theorem d_S_catchOf_4 : decode c_S_catchOf 4 = .ok (.iload_n 1, 1) := by decide +kernel
theorem d_S_catchOf_5 : decode c_S_catchOf 5 = .ok (.iaload, 1) := by decide +kernel
theorem d_S_catchOf_6 : decode c_S_catchOf 6 = .ok (.ireturn, 1) := by decide +kernel
theorem d_S_spillOf_0 : decode c_S_spillOf 0 = .ok (.aload_n 0, 1) := by decide +kernel
theorem d_S_spillOf_1 : decode c_S_spillOf 1 = .ok (.getfield 22, 3) := by decide +kernel
theorem d_S_spillOf_4 : decode c_S_spillOf 4 = .ok (.iconst 0, 1) := by decide +kernel
theorem d_S_spillOf_5 : decode c_S_spillOf 5 = .ok (.invokestatic 42, 3) := by decide +kernel
theorem d_S_spillOf_8 : decode c_S_spillOf 8 = .ok (.aload_n 0, 1) := by decide +kernel
theorem d_S_spillOf_9 : decode c_S_spillOf 9 = .ok (.getfield 22, 3) := by decide +kernel
theorem d_S_spillOf_12 : decode c_S_spillOf 12 = .ok (.iload_n 1, 1) := by decide +kernel
theorem d_S_spillOf_13 : decode c_S_spillOf 13 = .ok (.iconst 1, 1) := by decide +kernel
theorem d_S_spillOf_14 : decode c_S_spillOf 14 = .ok (.iastore, 1) := by decide +kernel
theorem d_S_spillOf_15 : decode c_S_spillOf 15 = .ok (.iconst 0, 1) := by decide +kernel
theorem d_S_spillOf_16 : decode c_S_spillOf 16 = .ok (.istore_n 2, 1) := by decide +kernel
theorem d_S_spillOf_17 : decode c_S_spillOf 17 = .ok (.iconst 0, 1) := by decide +kernel
theorem d_S_spillOf_18 : decode c_S_spillOf 18 = .ok (.istore_n 3, 1) := by decide +kernel
theorem d_S_spillOf_19 : decode c_S_spillOf 19 = .ok (.iload_n 3, 1) := by decide +kernel
theorem d_S_spillOf_20 : decode c_S_spillOf 20 = .ok (.aload_n 0, 1) := by decide +kernel
theorem d_S_spillOf_21 : decode c_S_spillOf 21 = .ok (.getfield 9, 3) := by decide +kernel
theorem d_S_spillOf_24 : decode c_S_spillOf 24 = .ok (.invokevirtual 35, 3) := by decide +kernel
theorem d_S_spillOf_27 : decode c_S_spillOf 27 = .ok (.if_icmp .ge 57, 3) := by decide +kernel
theorem d_S_spillOf_30 : decode c_S_spillOf 30 = .ok (.aload_n 0, 1) := by decide +kernel
theorem d_S_spillOf_31 : decode c_S_spillOf 31 = .ok (.invokevirtual 48, 3) := by decide +kernel
theorem d_S_spillOf_34 : decode c_S_spillOf 34 = .ok (.istore 4, 2) := by decide +kernel
theorem d_S_spillOf_36 : decode c_S_spillOf 36 = .ok (.iload 4, 2) := by decide +kernel
theorem d_S_spillOf_38 : decode c_S_spillOf 38 = .ok (.iconst (-1), 1) := by decide +kernel
theorem d_S_spillOf_39 : decode c_S_spillOf 39 = .ok (.if_icmp .ne 5, 3) := by decide +kernel
theorem d_S_spillOf_42 : decode c_S_spillOf 42 = .ok (.iload_n 2, 1) := by decide +kernel
theorem d_S_spillOf_43 : decode c_S_spillOf 43 = .ok (.ireturn, 1) := by decide +kernel
theorem d_S_spillOf_44 : decode c_S_spillOf 44 = .ok (.iload_n 2, 1) := by decide +kernel
theorem d_S_spillOf_45 : decode c_S_spillOf 45 = .ok (.aload_n 0, 1) := by decide +kernel
theorem d_S_spillOf_46 : decode c_S_spillOf 46 = .ok (.getfield 9, 3) := by decide +kernel
theorem d_S_spillOf_49 : decode c_S_spillOf 49 = .ok (.iload 4, 2) := by decide +kernel
theorem d_S_spillOf_51 : decode c_S_spillOf 51 = .ok (.invokevirtual 25, 3) := by decide +kernel
theorem d_S_spillOf_54 : decode c_S_spillOf 54 = .ok (.invokestatic 51, 3) := by decide +kernel
theorem d_S_spillOf_57 : decode c_S_spillOf 57 = .ok (.istore_n 2, 1) := by decide +kernel
theorem d_S_spillOf_58 : decode c_S_spillOf 58 = .ok (.aload_n 0, 1) := by decide +kernel
theorem d_S_spillOf_59 : decode c_S_spillOf 59 = .ok (.getfield 9, 3) := by decide +kernel
theorem d_S_spillOf_62 : decode c_S_spillOf 62 = .ok (.iload 4, 2) := by decide +kernel
theorem d_S_spillOf_64 : decode c_S_spillOf 64 = .ok (.invokevirtual 56, 3) := by decide +kernel
theorem d_S_spillOf_67 : decode c_S_spillOf 67 = .ok (.ifCond .eq 5, 3) := by decide +kernel
theorem d_S_spillOf_70 : decode c_S_spillOf 70 = .ok (.iload_n 2, 1) := by decide +kernel
theorem d_S_spillOf_71 : decode c_S_spillOf 71 = .ok (.ireturn, 1) := by decide +kernel
theorem d_S_spillOf_72 : decode c_S_spillOf 72 = .ok (.aload_n 0, 1) := by decide +kernel
theorem d_S_spillOf_73 : decode c_S_spillOf 73 = .ok (.iload 4, 2) := by decide +kernel
theorem d_S_spillOf_75 : decode c_S_spillOf 75 = .ok (.invokevirtual 60, 3) := by decide +kernel
theorem d_S_spillOf_78 : decode c_S_spillOf 78 = .ok (.iinc 3 1, 3) := by decide +kernel
theorem d_S_spillOf_81 : decode c_S_spillOf 81 = .ok (.goto (-62), 3) := by decide +kernel
theorem d_S_spillOf_84 : decode c_S_spillOf 84 = .ok (.iload_n 2, 1) := by decide +kernel
theorem d_S_spillOf_85 : decode c_S_spillOf 85 = .ok (.ireturn, 1) := by decide +kernel
theorem d_S_lowestMet_0 : decode c_S_lowestMet 0 = .ok (.iconst (-1), 1) := by decide +kernel
theorem d_S_lowestMet_1 : decode c_S_lowestMet 1 = .ok (.istore_n 1, 1) := by decide +kernel
theorem d_S_lowestMet_2 : decode c_S_lowestMet 2 = .ok (.iconst 0, 1) := by decide +kernel
theorem d_S_lowestMet_3 : decode c_S_lowestMet 3 = .ok (.istore_n 2, 1) := by decide +kernel
theorem d_S_lowestMet_4 : decode c_S_lowestMet 4 = .ok (.iload_n 2, 1) := by decide +kernel
theorem d_S_lowestMet_5 : decode c_S_lowestMet 5 = .ok (.aload_n 0, 1) := by decide +kernel
theorem d_S_lowestMet_6 : decode c_S_lowestMet 6 = .ok (.getfield 9, 3) := by decide +kernel
theorem d_S_lowestMet_9 : decode c_S_lowestMet 9 = .ok (.invokevirtual 35, 3) := by decide +kernel
theorem d_S_lowestMet_12 : decode c_S_lowestMet 12 = .ok (.if_icmp .ge 45, 3) := by decide +kernel
theorem d_S_lowestMet_15 : decode c_S_lowestMet 15 = .ok (.aload_n 0, 1) := by decide +kernel
theorem d_S_lowestMet_16 : decode c_S_lowestMet 16 = .ok (.getfield 22, 3) := by decide +kernel
theorem d_S_lowestMet_19 : decode c_S_lowestMet 19 = .ok (.iload_n 2, 1) := by decide +kernel
theorem d_S_lowestMet_20 : decode c_S_lowestMet 20 = .ok (.iaload, 1) := by decide +kernel
theorem d_S_lowestMet_21 : decode c_S_lowestMet 21 = .ok (.iconst 1, 1) := by decide +kernel
theorem d_S_lowestMet_22 : decode c_S_lowestMet 22 = .ok (.if_icmp .ne 29, 3) := by decide +kernel
theorem d_S_lowestMet_25 : decode c_S_lowestMet 25 = .ok (.iload_n 1, 1) := by decide +kernel
theorem d_S_lowestMet_26 : decode c_S_lowestMet 26 = .ok (.iconst (-1), 1) := by decide +kernel
theorem d_S_lowestMet_27 : decode c_S_lowestMet 27 = .ok (.if_icmp .eq 22, 3) := by decide +kernel
theorem d_S_lowestMet_30 : decode c_S_lowestMet 30 = .ok (.aload_n 0, 1) := by decide +kernel
theorem d_S_lowestMet_31 : decode c_S_lowestMet 31 = .ok (.getfield 9, 3) := by decide +kernel
theorem d_S_lowestMet_34 : decode c_S_lowestMet 34 = .ok (.iload_n 2, 1) := by decide +kernel
theorem d_S_lowestMet_35 : decode c_S_lowestMet 35 = .ok (.invokevirtual 25, 3) := by decide +kernel
theorem d_S_lowestMet_38 : decode c_S_lowestMet 38 = .ok (.aload_n 0, 1) := by decide +kernel
theorem d_S_lowestMet_39 : decode c_S_lowestMet 39 = .ok (.getfield 9, 3) := by decide +kernel
theorem d_S_lowestMet_42 : decode c_S_lowestMet 42 = .ok (.iload_n 1, 1) := by decide +kernel
theorem d_S_lowestMet_43 : decode c_S_lowestMet 43 = .ok (.invokevirtual 25, 3) := by decide +kernel
theorem d_S_lowestMet_46 : decode c_S_lowestMet 46 = .ok (.if_icmp .ge 5, 3) := by decide +kernel
theorem d_S_lowestMet_49 : decode c_S_lowestMet 49 = .ok (.iload_n 2, 1) := by decide +kernel
theorem d_S_lowestMet_50 : decode c_S_lowestMet 50 = .ok (.istore_n 1, 1) := by decide +kernel
theorem d_S_lowestMet_51 : decode c_S_lowestMet 51 = .ok (.iinc 2 1, 3) := by decide +kernel
theorem d_S_lowestMet_54 : decode c_S_lowestMet 54 = .ok (.goto (-50), 3) := by decide +kernel
theorem d_S_lowestMet_57 : decode c_S_lowestMet 57 = .ok (.iload_n 1, 1) := by decide +kernel
theorem d_S_lowestMet_58 : decode c_S_lowestMet 58 = .ok (.ireturn, 1) := by decide +kernel
theorem d_S_pass_0 : decode c_S_pass 0 = .ok (.aload_n 0, 1) := by decide +kernel
theorem d_S_pass_1 : decode c_S_pass 1 = .ok (.getfield 22, 3) := by decide +kernel
theorem d_S_pass_4 : decode c_S_pass 4 = .ok (.iload_n 1, 1) := by decide +kernel
theorem d_S_pass_5 : decode c_S_pass 5 = .ok (.iconst 2, 1) := by decide +kernel
theorem d_S_pass_6 : decode c_S_pass 6 = .ok (.iastore, 1) := by decide +kernel
theorem d_S_pass_7 : decode c_S_pass 7 = .ok (.iconst 0, 1) := by decide +kernel
theorem d_S_pass_8 : decode c_S_pass 8 = .ok (.istore_n 2, 1) := by decide +kernel
theorem d_S_pass_9 : decode c_S_pass 9 = .ok (.iload_n 2, 1) := by decide +kernel
theorem d_S_pass_10 : decode c_S_pass 10 = .ok (.bipush 8, 2) := by decide +kernel
theorem d_S_pass_12 : decode c_S_pass 12 = .ok (.if_icmp .ge 40, 3) := by decide +kernel
theorem d_S_pass_15 : decode c_S_pass 15 = .ok (.aload_n 0, 1) := by decide +kernel
theorem d_S_pass_16 : decode c_S_pass 16 = .ok (.getfield 9, 3) := by decide +kernel
theorem d_S_pass_19 : decode c_S_pass 19 = .ok (.iload_n 1, 1) := by decide +kernel
theorem d_S_pass_20 : decode c_S_pass 20 = .ok (.iload_n 2, 1) := by decide +kernel
theorem d_S_pass_21 : decode c_S_pass 21 = .ok (.invokevirtual 31, 3) := by decide +kernel
theorem d_S_pass_24 : decode c_S_pass 24 = .ok (.istore_n 3, 1) := by decide +kernel
theorem d_S_pass_25 : decode c_S_pass 25 = .ok (.iload_n 3, 1) := by decide +kernel
theorem d_S_pass_26 : decode c_S_pass 26 = .ok (.iconst (-1), 1) := by decide +kernel
theorem d_S_pass_27 : decode c_S_pass 27 = .ok (.if_icmp .eq 19, 3) := by decide +kernel
theorem d_S_pass_30 : decode c_S_pass 30 = .ok (.aload_n 0, 1) := by decide +kernel
theorem d_S_pass_31 : decode c_S_pass 31 = .ok (.getfield 22, 3) := by decide +kernel
theorem d_S_pass_34 : decode c_S_pass 34 = .ok (.iload_n 3, 1) := by decide +kernel
theorem d_S_pass_35 : decode c_S_pass 35 = .ok (.iaload, 1) := by decide +kernel
theorem d_S_pass_36 : decode c_S_pass 36 = .ok (.ifCond .ne 10, 3) := by decide +kernel
theorem d_S_pass_39 : decode c_S_pass 39 = .ok (.aload_n 0, 1) := by decide +kernel
theorem d_S_pass_40 : decode c_S_pass 40 = .ok (.getfield 22, 3) := by decide +kernel
theorem d_S_pass_43 : decode c_S_pass 43 = .ok (.iload_n 3, 1) := by decide +kernel
theorem d_S_pass_44 : decode c_S_pass 44 = .ok (.iconst 1, 1) := by decide +kernel
theorem d_S_pass_45 : decode c_S_pass 45 = .ok (.iastore, 1) := by decide +kernel
theorem d_S_pass_46 : decode c_S_pass 46 = .ok (.iinc 2 1, 3) := by decide +kernel
theorem d_S_pass_49 : decode c_S_pass 49 = .ok (.goto (-40), 3) := by decide +kernel
theorem d_S_pass_52 : decode c_S_pass 52 = .ok (.return_, 1) := by decide +kernel
theorem d_H_init_0 : decode c_H_init 0 = .ok (.aload_n 0, 1) := by decide +kernel
theorem d_H_init_1 : decode c_H_init 1 = .ok (.invokespecial 3, 3) := by decide +kernel
theorem d_H_init_4 : decode c_H_init 4 = .ok (.aload_n 0, 1) := by decide +kernel
theorem d_H_init_5 : decode c_H_init 5 = .ok (.iload_n 1, 1) := by decide +kernel
theorem d_H_init_6 : decode c_H_init 6 = .ok (.newarray .int, 2) := by decide +kernel
theorem d_H_init_8 : decode c_H_init 8 = .ok (.putfield 9, 3) := by decide +kernel
theorem d_H_init_11 : decode c_H_init 11 = .ok (.aload_n 0, 1) := by decide +kernel
theorem d_H_init_12 : decode c_H_init 12 = .ok (.iload_n 1, 1) := by decide +kernel
theorem d_H_init_13 : decode c_H_init 13 = .ok (.newarray .int, 2) := by decide +kernel
theorem d_H_init_15 : decode c_H_init 15 = .ok (.putfield 15, 3) := by decide +kernel
theorem d_H_init_18 : decode c_H_init 18 = .ok (.aload_n 0, 1) := by decide +kernel
theorem d_H_init_19 : decode c_H_init 19 = .ok (.iload_n 1, 1) := by decide +kernel
theorem d_H_init_20 : decode c_H_init 20 = .ok (.newarray .int, 2) := by decide +kernel
theorem d_H_init_22 : decode c_H_init 22 = .ok (.putfield 18, 3) := by decide +kernel
theorem d_H_init_25 : decode c_H_init 25 = .ok (.aload_n 0, 1) := by decide +kernel
theorem d_H_init_26 : decode c_H_init 26 = .ok (.iconst 0, 1) := by decide +kernel
theorem d_H_init_27 : decode c_H_init 27 = .ok (.putfield 21, 3) := by decide +kernel
theorem d_H_init_30 : decode c_H_init 30 = .ok (.return_, 1) := by decide +kernel
theorem d_H_clear_0 : decode c_H_clear 0 = .ok (.aload_n 0, 1) := by decide +kernel
theorem d_H_clear_1 : decode c_H_clear 1 = .ok (.getfield 9, 3) := by decide +kernel
theorem d_H_clear_4 : decode c_H_clear 4 = .ok (.iconst 0, 1) := by decide +kernel
theorem d_H_clear_5 : decode c_H_clear 5 = .ok (.iload_n 1, 1) := by decide +kernel
theorem d_H_clear_6 : decode c_H_clear 6 = .ok (.ldc 25, 2) := by decide +kernel
theorem d_H_clear_8 : decode c_H_clear 8 = .ok (.invokestatic 26, 3) := by decide +kernel
theorem d_H_clear_11 : decode c_H_clear 11 = .ok (.aload_n 0, 1) := by decide +kernel
theorem d_H_clear_12 : decode c_H_clear 12 = .ok (.iconst 0, 1) := by decide +kernel
theorem d_H_clear_13 : decode c_H_clear 13 = .ok (.putfield 21, 3) := by decide +kernel
theorem d_H_clear_16 : decode c_H_clear 16 = .ok (.return_, 1) := by decide +kernel
theorem d_H_isEmpty_0 : decode c_H_isEmpty 0 = .ok (.aload_n 0, 1) := by decide +kernel
theorem d_H_isEmpty_1 : decode c_H_isEmpty 1 = .ok (.getfield 21, 3) := by decide +kernel
theorem d_H_isEmpty_4 : decode c_H_isEmpty 4 = .ok (.ifCond .ne 7, 3) := by decide +kernel
theorem d_H_isEmpty_7 : decode c_H_isEmpty 7 = .ok (.iconst 1, 1) := by decide +kernel
theorem d_H_isEmpty_8 : decode c_H_isEmpty 8 = .ok (.goto 4, 3) := by decide +kernel
theorem d_H_isEmpty_11 : decode c_H_isEmpty 11 = .ok (.iconst 0, 1) := by decide +kernel
theorem d_H_isEmpty_12 : decode c_H_isEmpty 12 = .ok (.ireturn, 1) := by decide +kernel
theorem d_H_key_0 : decode c_H_key 0 = .ok (.aload_n 0, 1) := by decide +kernel
theorem d_H_key_1 : decode c_H_key 1 = .ok (.getfield 9, 3) := by decide +kernel
theorem d_H_key_4 : decode c_H_key 4 = .ok (.iload_n 1, 1) := by decide +kernel
theorem d_H_key_5 : decode c_H_key 5 = .ok (.iaload, 1) := by decide +kernel
theorem d_H_key_6 : decode c_H_key 6 = .ok (.ireturn, 1) := by decide +kernel
theorem d_H_offer_0 : decode c_H_offer 0 = .ok (.iload_n 2, 1) := by decide +kernel
theorem d_H_offer_1 : decode c_H_offer 1 = .ok (.aload_n 0, 1) := by decide +kernel
theorem d_H_offer_2 : decode c_H_offer 2 = .ok (.getfield 9, 3) := by decide +kernel
theorem d_H_offer_5 : decode c_H_offer 5 = .ok (.iload_n 1, 1) := by decide +kernel
theorem d_H_offer_6 : decode c_H_offer 6 = .ok (.iaload, 1) := by decide +kernel
theorem d_H_offer_7 : decode c_H_offer 7 = .ok (.if_icmp .lt 4, 3) := by decide +kernel
theorem d_H_offer_10 : decode c_H_offer 10 = .ok (.return_, 1) := by decide +kernel
theorem d_H_offer_11 : decode c_H_offer 11 = .ok (.aload_n 0, 1) := by decide +kernel
theorem d_H_offer_12 : decode c_H_offer 12 = .ok (.getfield 9, 3) := by decide +kernel
theorem d_H_offer_15 : decode c_H_offer 15 = .ok (.iload_n 1, 1) := by decide +kernel
theorem d_H_offer_16 : decode c_H_offer 16 = .ok (.iaload, 1) := by decide +kernel
theorem d_H_offer_17 : decode c_H_offer 17 = .ok (.ldc 25, 2) := by decide +kernel
theorem d_H_offer_19 : decode c_H_offer 19 = .ok (.if_icmp .ne 23, 3) := by decide +kernel
theorem d_H_offer_22 : decode c_H_offer 22 = .ok (.aload_n 0, 1) := by decide +kernel
theorem d_H_offer_23 : decode c_H_offer 23 = .ok (.getfield 15, 3) := by decide +kernel
theorem d_H_offer_26 : decode c_H_offer 26 = .ok (.iload_n 1, 1) := by decide +kernel
theorem d_H_offer_27 : decode c_H_offer 27 = .ok (.aload_n 0, 1) := by decide +kernel
theorem d_H_offer_28 : decode c_H_offer 28 = .ok (.getfield 21, 3) := by decide +kernel
theorem d_H_offer_31 : decode c_H_offer 31 = .ok (.iastore, 1) := by decide +kernel
theorem d_H_offer_32 : decode c_H_offer 32 = .ok (.aload_n 0, 1) := by decide +kernel
theorem d_H_offer_33 : decode c_H_offer 33 = .ok (.dup, 1) := by decide +kernel
theorem d_H_offer_34 : decode c_H_offer 34 = .ok (.getfield 21, 3) := by decide +kernel
theorem d_H_offer_37 : decode c_H_offer 37 = .ok (.iconst 1, 1) := by decide +kernel
theorem d_H_offer_38 : decode c_H_offer 38 = .ok (.iadd, 1) := by decide +kernel
theorem d_H_offer_39 : decode c_H_offer 39 = .ok (.putfield 21, 3) := by decide +kernel
theorem d_H_offer_42 : decode c_H_offer 42 = .ok (.aload_n 0, 1) := by decide +kernel
theorem d_H_offer_43 : decode c_H_offer 43 = .ok (.getfield 9, 3) := by decide +kernel
theorem d_H_offer_46 : decode c_H_offer 46 = .ok (.iload_n 1, 1) := by decide +kernel
theorem d_H_offer_47 : decode c_H_offer 47 = .ok (.iload_n 2, 1) := by decide +kernel
theorem d_H_offer_48 : decode c_H_offer 48 = .ok (.iastore, 1) := by decide +kernel
theorem d_H_offer_49 : decode c_H_offer 49 = .ok (.aload_n 0, 1) := by decide +kernel
theorem d_H_offer_50 : decode c_H_offer 50 = .ok (.iload_n 1, 1) := by decide +kernel
theorem d_H_offer_51 : decode c_H_offer 51 = .ok (.aload_n 0, 1) := by decide +kernel
theorem d_H_offer_52 : decode c_H_offer 52 = .ok (.getfield 15, 3) := by decide +kernel
theorem d_H_offer_55 : decode c_H_offer 55 = .ok (.iload_n 1, 1) := by decide +kernel
theorem d_H_offer_56 : decode c_H_offer 56 = .ok (.iaload, 1) := by decide +kernel
theorem d_H_offer_57 : decode c_H_offer 57 = .ok (.invokevirtual 32, 3) := by decide +kernel
theorem d_H_offer_60 : decode c_H_offer 60 = .ok (.return_, 1) := by decide +kernel
theorem d_H_poll_0 : decode c_H_poll 0 = .ok (.aload_n 0, 1) := by decide +kernel
theorem d_H_poll_1 : decode c_H_poll 1 = .ok (.getfield 21, 3) := by decide +kernel
theorem d_H_poll_4 : decode c_H_poll 4 = .ok (.ifCond .ne 5, 3) := by decide +kernel
theorem d_H_poll_7 : decode c_H_poll 7 = .ok (.iconst (-1), 1) := by decide +kernel
theorem d_H_poll_8 : decode c_H_poll 8 = .ok (.ireturn, 1) := by decide +kernel
theorem d_H_poll_9 : decode c_H_poll 9 = .ok (.aload_n 0, 1) := by decide +kernel
theorem d_H_poll_10 : decode c_H_poll 10 = .ok (.getfield 18, 3) := by decide +kernel
theorem d_H_poll_13 : decode c_H_poll 13 = .ok (.iconst 0, 1) := by decide +kernel
theorem d_H_poll_14 : decode c_H_poll 14 = .ok (.iaload, 1) := by decide +kernel
theorem d_H_poll_15 : decode c_H_poll 15 = .ok (.istore_n 1, 1) := by decide +kernel
theorem d_H_poll_16 : decode c_H_poll 16 = .ok (.aload_n 0, 1) := by decide +kernel
theorem d_H_poll_17 : decode c_H_poll 17 = .ok (.dup, 1) := by decide +kernel
theorem d_H_poll_18 : decode c_H_poll 18 = .ok (.getfield 21, 3) := by decide +kernel
theorem d_H_poll_21 : decode c_H_poll 21 = .ok (.iconst 1, 1) := by decide +kernel
theorem d_H_poll_22 : decode c_H_poll 22 = .ok (.isub, 1) := by decide +kernel
theorem d_H_poll_23 : decode c_H_poll 23 = .ok (.putfield 21, 3) := by decide +kernel
theorem d_H_poll_26 : decode c_H_poll 26 = .ok (.aload_n 0, 1) := by decide +kernel
theorem d_H_poll_27 : decode c_H_poll 27 = .ok (.getfield 21, 3) := by decide +kernel
theorem d_H_poll_30 : decode c_H_poll 30 = .ok (.ifCond .le 16, 3) := by decide +kernel
theorem d_H_poll_33 : decode c_H_poll 33 = .ok (.aload_n 0, 1) := by decide +kernel
theorem d_H_poll_34 : decode c_H_poll 34 = .ok (.aload_n 0, 1) := by decide +kernel
theorem d_H_poll_35 : decode c_H_poll 35 = .ok (.getfield 18, 3) := by decide +kernel
theorem d_H_poll_38 : decode c_H_poll 38 = .ok (.aload_n 0, 1) := by decide +kernel
theorem d_H_poll_39 : decode c_H_poll 39 = .ok (.getfield 21, 3) := by decide +kernel
theorem d_H_poll_42 : decode c_H_poll 42 = .ok (.iaload, 1) := by decide +kernel
theorem d_H_poll_43 : decode c_H_poll 43 = .ok (.invokevirtual 36, 3) := by decide +kernel
theorem d_H_poll_46 : decode c_H_poll 46 = .ok (.iload_n 1, 1) := by decide +kernel
theorem d_H_poll_47 : decode c_H_poll 47 = .ok (.ireturn, 1) := by decide +kernel
theorem d_H_rise_0 : decode c_H_rise 0 = .ok (.iload_n 2, 1) := by decide +kernel
theorem d_H_rise_1 : decode c_H_rise 1 = .ok (.istore_n 3, 1) := by decide +kernel
theorem d_H_rise_2 : decode c_H_rise 2 = .ok (.iload_n 3, 1) := by decide +kernel
theorem d_H_rise_3 : decode c_H_rise 3 = .ok (.ifCond .le 65, 3) := by decide +kernel
theorem d_H_rise_6 : decode c_H_rise 6 = .ok (.iload_n 3, 1) := by decide +kernel
theorem d_H_rise_7 : decode c_H_rise 7 = .ok (.iconst 1, 1) := by decide +kernel
theorem d_H_rise_8 : decode c_H_rise 8 = .ok (.isub, 1) := by decide +kernel
theorem d_H_rise_9 : decode c_H_rise 9 = .ok (.iconst 1, 1) := by decide +kernel
theorem d_H_rise_10 : decode c_H_rise 10 = .ok (.ishr, 1) := by decide +kernel
theorem d_H_rise_11 : decode c_H_rise 11 = .ok (.istore 4, 2) := by decide +kernel
theorem d_H_rise_13 : decode c_H_rise 13 = .ok (.aload_n 0, 1) := by decide +kernel
theorem d_H_rise_14 : decode c_H_rise 14 = .ok (.getfield 9, 3) := by decide +kernel
theorem d_H_rise_17 : decode c_H_rise 17 = .ok (.aload_n 0, 1) := by decide +kernel
theorem d_H_rise_18 : decode c_H_rise 18 = .ok (.getfield 18, 3) := by decide +kernel
theorem d_H_rise_21 : decode c_H_rise 21 = .ok (.iload 4, 2) := by decide +kernel
theorem d_H_rise_23 : decode c_H_rise 23 = .ok (.iaload, 1) := by decide +kernel
theorem d_H_rise_24 : decode c_H_rise 24 = .ok (.iaload, 1) := by decide +kernel
theorem d_H_rise_25 : decode c_H_rise 25 = .ok (.aload_n 0, 1) := by decide +kernel
theorem d_H_rise_26 : decode c_H_rise 26 = .ok (.getfield 9, 3) := by decide +kernel
theorem d_H_rise_29 : decode c_H_rise 29 = .ok (.iload_n 1, 1) := by decide +kernel
theorem d_H_rise_30 : decode c_H_rise 30 = .ok (.iaload, 1) := by decide +kernel
theorem d_H_rise_31 : decode c_H_rise 31 = .ok (.if_icmp .gt 6, 3) := by decide +kernel
theorem d_H_rise_34 : decode c_H_rise 34 = .ok (.goto 34, 3) := by decide +kernel
theorem d_H_rise_37 : decode c_H_rise 37 = .ok (.aload_n 0, 1) := by decide +kernel
theorem d_H_rise_38 : decode c_H_rise 38 = .ok (.getfield 18, 3) := by decide +kernel
theorem d_H_rise_41 : decode c_H_rise 41 = .ok (.iload_n 3, 1) := by decide +kernel
theorem d_H_rise_42 : decode c_H_rise 42 = .ok (.aload_n 0, 1) := by decide +kernel
theorem d_H_rise_43 : decode c_H_rise 43 = .ok (.getfield 18, 3) := by decide +kernel
theorem d_H_rise_46 : decode c_H_rise 46 = .ok (.iload 4, 2) := by decide +kernel
theorem d_H_rise_48 : decode c_H_rise 48 = .ok (.iaload, 1) := by decide +kernel
theorem d_H_rise_49 : decode c_H_rise 49 = .ok (.iastore, 1) := by decide +kernel
theorem d_H_rise_50 : decode c_H_rise 50 = .ok (.aload_n 0, 1) := by decide +kernel
theorem d_H_rise_51 : decode c_H_rise 51 = .ok (.getfield 15, 3) := by decide +kernel
theorem d_H_rise_54 : decode c_H_rise 54 = .ok (.aload_n 0, 1) := by decide +kernel
theorem d_H_rise_55 : decode c_H_rise 55 = .ok (.getfield 18, 3) := by decide +kernel
theorem d_H_rise_58 : decode c_H_rise 58 = .ok (.iload_n 3, 1) := by decide +kernel
theorem d_H_rise_59 : decode c_H_rise 59 = .ok (.iaload, 1) := by decide +kernel
theorem d_H_rise_60 : decode c_H_rise 60 = .ok (.iload_n 3, 1) := by decide +kernel
theorem d_H_rise_61 : decode c_H_rise 61 = .ok (.iastore, 1) := by decide +kernel
theorem d_H_rise_62 : decode c_H_rise 62 = .ok (.iload 4, 2) := by decide +kernel
theorem d_H_rise_64 : decode c_H_rise 64 = .ok (.istore_n 3, 1) := by decide +kernel
theorem d_H_rise_65 : decode c_H_rise 65 = .ok (.goto (-63), 3) := by decide +kernel
theorem d_H_rise_68 : decode c_H_rise 68 = .ok (.aload_n 0, 1) := by decide +kernel
theorem d_H_rise_69 : decode c_H_rise 69 = .ok (.getfield 18, 3) := by decide +kernel
theorem d_H_rise_72 : decode c_H_rise 72 = .ok (.iload_n 3, 1) := by decide +kernel
theorem d_H_rise_73 : decode c_H_rise 73 = .ok (.iload_n 1, 1) := by decide +kernel
theorem d_H_rise_74 : decode c_H_rise 74 = .ok (.iastore, 1) := by decide +kernel
theorem d_H_rise_75 : decode c_H_rise 75 = .ok (.aload_n 0, 1) := by decide +kernel
theorem d_H_rise_76 : decode c_H_rise 76 = .ok (.getfield 15, 3) := by decide +kernel
theorem d_H_rise_79 : decode c_H_rise 79 = .ok (.iload_n 1, 1) := by decide +kernel
theorem d_H_rise_80 : decode c_H_rise 80 = .ok (.iload_n 3, 1) := by decide +kernel
theorem d_H_rise_81 : decode c_H_rise 81 = .ok (.iastore, 1) := by decide +kernel
theorem d_H_rise_82 : decode c_H_rise 82 = .ok (.return_, 1) := by decide +kernel
theorem d_H_sink_0 : decode c_H_sink 0 = .ok (.iconst 0, 1) := by decide +kernel
theorem d_H_sink_1 : decode c_H_sink 1 = .ok (.istore_n 2, 1) := by decide +kernel
theorem d_H_sink_2 : decode c_H_sink 2 = .ok (.iconst 1, 1) := by decide +kernel
theorem d_H_sink_3 : decode c_H_sink 3 = .ok (.istore_n 3, 1) := by decide +kernel
theorem d_H_sink_4 : decode c_H_sink 4 = .ok (.iload_n 3, 1) := by decide +kernel
theorem d_H_sink_5 : decode c_H_sink 5 = .ok (.aload_n 0, 1) := by decide +kernel
theorem d_H_sink_6 : decode c_H_sink 6 = .ok (.getfield 21, 3) := by decide +kernel
theorem d_H_sink_9 : decode c_H_sink 9 = .ok (.if_icmp .ge 101, 3) := by decide +kernel
theorem d_H_sink_12 : decode c_H_sink 12 = .ok (.iload_n 3, 1) := by decide +kernel
theorem d_H_sink_13 : decode c_H_sink 13 = .ok (.iconst 1, 1) := by decide +kernel
theorem d_H_sink_14 : decode c_H_sink 14 = .ok (.iadd, 1) := by decide +kernel
theorem d_H_sink_15 : decode c_H_sink 15 = .ok (.aload_n 0, 1) := by decide +kernel
theorem d_H_sink_16 : decode c_H_sink 16 = .ok (.getfield 21, 3) := by decide +kernel
theorem d_H_sink_19 : decode c_H_sink 19 = .ok (.if_icmp .ge 33, 3) := by decide +kernel
theorem d_H_sink_22 : decode c_H_sink 22 = .ok (.aload_n 0, 1) := by decide +kernel
theorem d_H_sink_23 : decode c_H_sink 23 = .ok (.getfield 9, 3) := by decide +kernel
theorem d_H_sink_26 : decode c_H_sink 26 = .ok (.aload_n 0, 1) := by decide +kernel
theorem d_H_sink_27 : decode c_H_sink 27 = .ok (.getfield 18, 3) := by decide +kernel
theorem d_H_sink_30 : decode c_H_sink 30 = .ok (.iload_n 3, 1) := by decide +kernel
theorem d_H_sink_31 : decode c_H_sink 31 = .ok (.iconst 1, 1) := by decide +kernel
theorem d_H_sink_32 : decode c_H_sink 32 = .ok (.iadd, 1) := by decide +kernel
theorem d_H_sink_33 : decode c_H_sink 33 = .ok (.iaload, 1) := by decide +kernel
theorem d_H_sink_34 : decode c_H_sink 34 = .ok (.iaload, 1) := by decide +kernel
theorem d_H_sink_35 : decode c_H_sink 35 = .ok (.aload_n 0, 1) := by decide +kernel
theorem d_H_sink_36 : decode c_H_sink 36 = .ok (.getfield 9, 3) := by decide +kernel
theorem d_H_sink_39 : decode c_H_sink 39 = .ok (.aload_n 0, 1) := by decide +kernel
theorem d_H_sink_40 : decode c_H_sink 40 = .ok (.getfield 18, 3) := by decide +kernel
theorem d_H_sink_43 : decode c_H_sink 43 = .ok (.iload_n 3, 1) := by decide +kernel
theorem d_H_sink_44 : decode c_H_sink 44 = .ok (.iaload, 1) := by decide +kernel
theorem d_H_sink_45 : decode c_H_sink 45 = .ok (.iaload, 1) := by decide +kernel
theorem d_H_sink_46 : decode c_H_sink 46 = .ok (.if_icmp .ge 6, 3) := by decide +kernel
theorem d_H_sink_49 : decode c_H_sink 49 = .ok (.iinc 3 1, 3) := by decide +kernel
theorem d_H_sink_52 : decode c_H_sink 52 = .ok (.aload_n 0, 1) := by decide +kernel
theorem d_H_sink_53 : decode c_H_sink 53 = .ok (.getfield 9, 3) := by decide +kernel
theorem d_H_sink_56 : decode c_H_sink 56 = .ok (.iload_n 1, 1) := by decide +kernel
theorem d_H_sink_57 : decode c_H_sink 57 = .ok (.iaload, 1) := by decide +kernel
theorem d_H_sink_58 : decode c_H_sink 58 = .ok (.aload_n 0, 1) := by decide +kernel
theorem d_H_sink_59 : decode c_H_sink 59 = .ok (.getfield 9, 3) := by decide +kernel
theorem d_H_sink_62 : decode c_H_sink 62 = .ok (.aload_n 0, 1) := by decide +kernel
theorem d_H_sink_63 : decode c_H_sink 63 = .ok (.getfield 18, 3) := by decide +kernel
theorem d_H_sink_66 : decode c_H_sink 66 = .ok (.iload_n 3, 1) := by decide +kernel
theorem d_H_sink_67 : decode c_H_sink 67 = .ok (.iaload, 1) := by decide +kernel
theorem d_H_sink_68 : decode c_H_sink 68 = .ok (.iaload, 1) := by decide +kernel
theorem d_H_sink_69 : decode c_H_sink 69 = .ok (.if_icmp .gt 6, 3) := by decide +kernel
theorem d_H_sink_72 : decode c_H_sink 72 = .ok (.goto 38, 3) := by decide +kernel
theorem d_H_sink_75 : decode c_H_sink 75 = .ok (.aload_n 0, 1) := by decide +kernel
theorem d_H_sink_76 : decode c_H_sink 76 = .ok (.getfield 18, 3) := by decide +kernel
theorem d_H_sink_79 : decode c_H_sink 79 = .ok (.iload_n 2, 1) := by decide +kernel
theorem d_H_sink_80 : decode c_H_sink 80 = .ok (.aload_n 0, 1) := by decide +kernel
theorem d_H_sink_81 : decode c_H_sink 81 = .ok (.getfield 18, 3) := by decide +kernel
theorem d_H_sink_84 : decode c_H_sink 84 = .ok (.iload_n 3, 1) := by decide +kernel
theorem d_H_sink_85 : decode c_H_sink 85 = .ok (.iaload, 1) := by decide +kernel
theorem d_H_sink_86 : decode c_H_sink 86 = .ok (.iastore, 1) := by decide +kernel
theorem d_H_sink_87 : decode c_H_sink 87 = .ok (.aload_n 0, 1) := by decide +kernel
theorem d_H_sink_88 : decode c_H_sink 88 = .ok (.getfield 15, 3) := by decide +kernel
theorem d_H_sink_91 : decode c_H_sink 91 = .ok (.aload_n 0, 1) := by decide +kernel
theorem d_H_sink_92 : decode c_H_sink 92 = .ok (.getfield 18, 3) := by decide +kernel
theorem d_H_sink_95 : decode c_H_sink 95 = .ok (.iload_n 2, 1) := by decide +kernel
theorem d_H_sink_96 : decode c_H_sink 96 = .ok (.iaload, 1) := by decide +kernel
theorem d_H_sink_97 : decode c_H_sink 97 = .ok (.iload_n 2, 1) := by decide +kernel
theorem d_H_sink_98 : decode c_H_sink 98 = .ok (.iastore, 1) := by decide +kernel
theorem d_H_sink_99 : decode c_H_sink 99 = .ok (.iload_n 3, 1) := by decide +kernel
theorem d_H_sink_100 : decode c_H_sink 100 = .ok (.istore_n 2, 1) := by decide +kernel
theorem d_H_sink_101 : decode c_H_sink 101 = .ok (.iconst 2, 1) := by decide +kernel
theorem d_H_sink_102 : decode c_H_sink 102 = .ok (.iload_n 2, 1) := by decide +kernel
theorem d_H_sink_103 : decode c_H_sink 103 = .ok (.imul, 1) := by decide +kernel
theorem d_H_sink_104 : decode c_H_sink 104 = .ok (.iconst 1, 1) := by decide +kernel
theorem d_H_sink_105 : decode c_H_sink 105 = .ok (.iadd, 1) := by decide +kernel
theorem d_H_sink_106 : decode c_H_sink 106 = .ok (.istore_n 3, 1) := by decide +kernel
theorem d_H_sink_107 : decode c_H_sink 107 = .ok (.goto (-103), 3) := by decide +kernel
theorem d_H_sink_110 : decode c_H_sink 110 = .ok (.aload_n 0, 1) := by decide +kernel
theorem d_H_sink_111 : decode c_H_sink 111 = .ok (.getfield 18, 3) := by decide +kernel
theorem d_H_sink_114 : decode c_H_sink 114 = .ok (.iload_n 2, 1) := by decide +kernel
theorem d_H_sink_115 : decode c_H_sink 115 = .ok (.iload_n 1, 1) := by decide +kernel
theorem d_H_sink_116 : decode c_H_sink 116 = .ok (.iastore, 1) := by decide +kernel
theorem d_H_sink_117 : decode c_H_sink 117 = .ok (.aload_n 0, 1) := by decide +kernel
theorem d_H_sink_118 : decode c_H_sink 118 = .ok (.getfield 15, 3) := by decide +kernel
theorem d_H_sink_121 : decode c_H_sink 121 = .ok (.iload_n 1, 1) := by decide +kernel
theorem d_H_sink_122 : decode c_H_sink 122 = .ok (.iload_n 2, 1) := by decide +kernel
theorem d_H_sink_123 : decode c_H_sink 123 = .ok (.iastore, 1) := by decide +kernel
theorem d_H_sink_124 : decode c_H_sink 124 = .ok (.return_, 1) := by decide +kernel
theorem d_W_init_0 : decode c_W_init 0 = .ok (.aload_n 0, 1) := by decide +kernel
theorem d_W_init_1 : decode c_W_init 1 = .ok (.invokespecial 3, 3) := by decide +kernel
theorem d_W_init_4 : decode c_W_init 4 = .ok (.aload_n 0, 1) := by decide +kernel
theorem d_W_init_5 : decode c_W_init 5 = .ok (.aload_n 1, 1) := by decide +kernel
theorem d_W_init_6 : decode c_W_init 6 = .ok (.putfield 9, 3) := by decide +kernel
theorem d_W_init_9 : decode c_W_init 9 = .ok (.aload_n 0, 1) := by decide +kernel
theorem d_W_init_10 : decode c_W_init 10 = .ok (.aload_n 2, 1) := by decide +kernel
theorem d_W_init_11 : decode c_W_init 11 = .ok (.putfield 15, 3) := by decide +kernel
theorem d_W_init_14 : decode c_W_init 14 = .ok (.aload_n 0, 1) := by decide +kernel
theorem d_W_init_15 : decode c_W_init 15 = .ok (.sipush 648, 3) := by decide +kernel
theorem d_W_init_18 : decode c_W_init 18 = .ok (.newarray .int, 2) := by decide +kernel
theorem d_W_init_20 : decode c_W_init 20 = .ok (.putfield 19, 3) := by decide +kernel
theorem d_W_init_23 : decode c_W_init 23 = .ok (.aload_n 0, 1) := by decide +kernel
theorem d_W_init_24 : decode c_W_init 24 = .ok (.sipush 648, 3) := by decide +kernel
theorem d_W_init_27 : decode c_W_init 27 = .ok (.newarray .int, 2) := by decide +kernel
theorem d_W_init_29 : decode c_W_init 29 = .ok (.putfield 23, 3) := by decide +kernel
theorem d_W_init_32 : decode c_W_init 32 = .ok (.aload_n 0, 1) := by decide +kernel
theorem d_W_init_33 : decode c_W_init 33 = .ok (.bipush 81, 2) := by decide +kernel
theorem d_W_init_35 : decode c_W_init 35 = .ok (.newarray .boolean, 2) := by decide +kernel
theorem d_W_init_37 : decode c_W_init 37 = .ok (.putfield 26, 3) := by decide +kernel
theorem d_W_init_40 : decode c_W_init 40 = .ok (.aload_n 0, 1) := by decide +kernel
theorem d_W_init_41 : decode c_W_init 41 = .ok (.iconst 5, 1) := by decide +kernel
theorem d_W_init_42 : decode c_W_init 42 = .ok (.newarray .int, 2) := by decide +kernel
theorem d_W_init_44 : decode c_W_init 44 = .ok (.putfield 30, 3) := by decide +kernel
theorem d_W_init_47 : decode c_W_init 47 = .ok (.aload_n 0, 1) := by decide +kernel
theorem d_W_init_48 : decode c_W_init 48 = .ok (.bipush 81, 2) := by decide +kernel
theorem d_W_init_50 : decode c_W_init 50 = .ok (.newarray .int, 2) := by decide +kernel
theorem d_W_init_52 : decode c_W_init 52 = .ok (.putfield 33, 3) := by decide +kernel
theorem d_W_init_55 : decode c_W_init 55 = .ok (.aload_n 0, 1) := by decide +kernel
theorem d_W_init_56 : decode c_W_init 56 = .ok (.new 36, 3) := by decide +kernel
theorem d_W_init_59 : decode c_W_init 59 = .ok (.dup, 1) := by decide +kernel
theorem d_W_init_60 : decode c_W_init 60 = .ok (.sipush 2592, 3) := by decide +kernel
theorem d_W_init_63 : decode c_W_init 63 = .ok (.invokespecial 38, 3) := by decide +kernel
theorem d_W_init_66 : decode c_W_init 66 = .ok (.putfield 41, 3) := by decide +kernel
theorem d_W_init_69 : decode c_W_init 69 = .ok (.aload_n 0, 1) := by decide +kernel
theorem d_W_init_70 : decode c_W_init 70 = .ok (.sipush 649, 3) := by decide +kernel
theorem d_W_init_73 : decode c_W_init 73 = .ok (.newarray .int, 2) := by decide +kernel
theorem d_W_init_75 : decode c_W_init 75 = .ok (.putfield 45, 3) := by decide +kernel
theorem d_W_init_78 : decode c_W_init 78 = .ok (.aload_n 0, 1) := by decide +kernel
theorem d_W_init_79 : decode c_W_init 79 = .ok (.sipush 648, 3) := by decide +kernel
theorem d_W_init_82 : decode c_W_init 82 = .ok (.newarray .int, 2) := by decide +kernel
theorem d_W_init_84 : decode c_W_init 84 = .ok (.putfield 48, 3) := by decide +kernel
theorem d_W_init_87 : decode c_W_init 87 = .ok (.aload_n 0, 1) := by decide +kernel
theorem d_W_init_88 : decode c_W_init 88 = .ok (.sipush 648, 3) := by decide +kernel
theorem d_W_init_91 : decode c_W_init 91 = .ok (.newarray .int, 2) := by decide +kernel
theorem d_W_init_93 : decode c_W_init 93 = .ok (.putfield 51, 3) := by decide +kernel
theorem d_W_init_96 : decode c_W_init 96 = .ok (.aload_n 0, 1) := by decide +kernel
theorem d_W_init_97 : decode c_W_init 97 = .ok (.iconst 1, 1) := by decide +kernel
theorem d_W_init_98 : decode c_W_init 98 = .ok (.putfield 54, 3) := by decide +kernel
theorem d_W_init_101 : decode c_W_init 101 = .ok (.aload_n 0, 1) := by decide +kernel
theorem d_W_init_102 : decode c_W_init 102 = .ok (.iconst 0, 1) := by decide +kernel
theorem d_W_init_103 : decode c_W_init 103 = .ok (.putfield 58, 3) := by decide +kernel
theorem d_W_init_106 : decode c_W_init 106 = .ok (.return_, 1) := by decide +kernel
theorem d_W_path_0 : decode c_W_path 0 = .ok (.aload_n 0, 1) := by decide +kernel
theorem d_W_path_1 : decode c_W_path 1 = .ok (.getfield 45, 3) := by decide +kernel
theorem d_W_path_4 : decode c_W_path 4 = .ok (.areturn, 1) := by decide +kernel
theorem d_W_pathSize_0 : decode c_W_pathSize 0 = .ok (.aload_n 0, 1) := by decide +kernel
theorem d_W_pathSize_1 : decode c_W_pathSize 1 = .ok (.getfield 58, 3) := by decide +kernel
theorem d_W_pathSize_4 : decode c_W_pathSize 4 = .ok (.ireturn, 1) := by decide +kernel
theorem d_W_measure_0 : decode c_W_measure 0 = .ok (.aload_n 0, 1) := by decide +kernel
theorem d_W_measure_1 : decode c_W_measure 1 = .ok (.iload_n 3, 1) := by decide +kernel
theorem d_W_measure_2 : decode c_W_measure 2 = .ok (.aload_n 0, 1) := by decide +kernel
theorem d_W_measure_3 : decode c_W_measure 3 = .ok (.getfield 9, 3) := by decide +kernel
theorem d_W_measure_6 : decode c_W_measure 6 = .ok (.iconst 0, 1) := by decide +kernel
theorem d_W_measure_7 : decode c_W_measure 7 = .ok (.invokevirtual 61, 3) := by decide +kernel
theorem d_W_measure_10 : decode c_W_measure 10 = .ok (.iconst 0, 1) := by decide +kernel
theorem d_W_measure_11 : decode c_W_measure 11 = .ok (.invokevirtual 67, 3) := by decide +kernel
theorem d_W_measure_14 : decode c_W_measure 14 = .ok (.aload_n 0, 1) := by decide +kernel
theorem d_W_measure_15 : decode c_W_measure 15 = .ok (.iload_n 2, 1) := by decide +kernel
theorem d_W_measure_16 : decode c_W_measure 16 = .ok (.iload_n 1, 1) := by decide +kernel
theorem d_W_measure_17 : decode c_W_measure 17 = .ok (.invokevirtual 71, 3) := by decide +kernel
theorem d_W_measure_20 : decode c_W_measure 20 = .ok (.aload_n 0, 1) := by decide +kernel
theorem d_W_measure_21 : decode c_W_measure 21 = .ok (.iload_n 1, 1) := by decide +kernel
theorem d_W_measure_22 : decode c_W_measure 22 = .ok (.invokevirtual 75, 3) := by decide +kernel
theorem d_W_measure_25 : decode c_W_measure 25 = .ok (.ireturn, 1) := by decide +kernel
theorem d_W_find_0 : decode c_W_find 0 = .ok (.aload_n 0, 1) := by decide +kernel
theorem d_W_find_1 : decode c_W_find 1 = .ok (.iload_n 3, 1) := by decide +kernel
theorem d_W_find_2 : decode c_W_find 2 = .ok (.aload_n 0, 1) := by decide +kernel
theorem d_W_find_3 : decode c_W_find 3 = .ok (.getfield 9, 3) := by decide +kernel
theorem d_W_find_6 : decode c_W_find 6 = .ok (.iconst 0, 1) := by decide +kernel
theorem d_W_find_7 : decode c_W_find 7 = .ok (.invokevirtual 61, 3) := by decide +kernel
theorem d_W_find_10 : decode c_W_find 10 = .ok (.iconst 0, 1) := by decide +kernel
theorem d_W_find_11 : decode c_W_find 11 = .ok (.invokevirtual 67, 3) := by decide +kernel
theorem d_W_find_14 : decode c_W_find 14 = .ok (.aload_n 0, 1) := by decide +kernel
theorem d_W_find_15 : decode c_W_find 15 = .ok (.iload_n 2, 1) := by decide +kernel
theorem d_W_find_16 : decode c_W_find 16 = .ok (.iload_n 1, 1) := by decide +kernel
theorem d_W_find_17 : decode c_W_find 17 = .ok (.invokevirtual 71, 3) := by decide +kernel
theorem d_W_find_20 : decode c_W_find 20 = .ok (.aload_n 0, 1) := by decide +kernel
theorem d_W_find_21 : decode c_W_find 21 = .ok (.iload_n 1, 1) := by decide +kernel
theorem d_W_find_22 : decode c_W_find 22 = .ok (.iload_n 2, 1) := by decide +kernel
theorem d_W_find_23 : decode c_W_find 23 = .ok (.invokevirtual 78, 3) := by decide +kernel
theorem d_W_find_26 : decode c_W_find 26 = .ok (.aload_n 0, 1) := by decide +kernel
theorem d_W_find_27 : decode c_W_find 27 = .ok (.iload_n 1, 1) := by decide +kernel
theorem d_W_find_28 : decode c_W_find 28 = .ok (.invokevirtual 75, 3) := by decide +kernel
theorem d_W_find_31 : decode c_W_find 31 = .ok (.ireturn, 1) := by decide +kernel
theorem d_W_measureBored_0 : decode c_W_measureBored 0 = .ok (.aload_n 0, 1) := by decide +kernel
theorem d_W_measureBored_1 : decode c_W_measureBored 1 = .ok (.iconst 0, 1) := by decide +kernel
theorem d_W_measureBored_2 : decode c_W_measureBored 2 = .ok (.aload_n 0, 1) := by decide +kernel
theorem d_W_measureBored_3 : decode c_W_measureBored 3 = .ok (.getfield 9, 3) := by decide +kernel
theorem d_W_measureBored_6 : decode c_W_measureBored 6 = .ok (.iconst 0, 1) := by decide +kernel
theorem d_W_measureBored_7 : decode c_W_measureBored 7 = .ok (.invokevirtual 61, 3) := by decide +kernel
theorem d_W_measureBored_10 : decode c_W_measureBored 10 = .ok (.iconst 1, 1) := by decide +kernel
theorem d_W_measureBored_11 : decode c_W_measureBored 11 = .ok (.invokevirtual 67, 3) := by decide +kernel
theorem d_W_measureBored_14 : decode c_W_measureBored 14 = .ok (.aload_n 0, 1) := by decide +kernel
theorem d_W_measureBored_15 : decode c_W_measureBored 15 = .ok (.iload_n 3, 1) := by decide +kernel
theorem d_W_measureBored_16 : decode c_W_measureBored 16 = .ok (.iconst 1, 1) := by decide +kernel
theorem d_W_measureBored_17 : decode c_W_measureBored 17 = .ok (.iadd, 1) := by decide +kernel
theorem d_W_measureBored_18 : decode c_W_measureBored 18 = .ok (.putfield 54, 3) := by decide +kernel
theorem d_W_measureBored_21 : decode c_W_measureBored 21 = .ok (.aload_n 0, 1) := by decide +kernel
theorem d_W_measureBored_22 : decode c_W_measureBored 22 = .ok (.iload_n 2, 1) := by decide +kernel
theorem d_W_measureBored_23 : decode c_W_measureBored 23 = .ok (.iload_n 1, 1) := by decide +kernel
theorem d_W_measureBored_24 : decode c_W_measureBored 24 = .ok (.invokevirtual 71, 3) := by decide +kernel
theorem d_W_measureBored_27 : decode c_W_measureBored 27 = .ok (.aload_n 0, 1) := by decide +kernel
theorem d_W_measureBored_28 : decode c_W_measureBored 28 = .ok (.iload_n 1, 1) := by decide +kernel
theorem d_W_measureBored_29 : decode c_W_measureBored 29 = .ok (.invokevirtual 75, 3) := by decide +kernel
theorem d_W_measureBored_32 : decode c_W_measureBored 32 = .ok (.ireturn, 1) := by decide +kernel
theorem d_W_searchAll_0 : decode c_W_searchAll 0 = .ok (.aload_n 0, 1) := by decide +kernel
theorem d_W_searchAll_1 : decode c_W_searchAll 1 = .ok (.iconst 0, 1) := by decide +kernel
theorem d_W_searchAll_2 : decode c_W_searchAll 2 = .ok (.aload_n 0, 1) := by decide +kernel
theorem d_W_searchAll_3 : decode c_W_searchAll 3 = .ok (.getfield 9, 3) := by decide +kernel
theorem d_W_searchAll_6 : decode c_W_searchAll 6 = .ok (.iconst 0, 1) := by decide +kernel
theorem d_W_searchAll_7 : decode c_W_searchAll 7 = .ok (.invokevirtual 61, 3) := by decide +kernel
theorem d_W_searchAll_10 : decode c_W_searchAll 10 = .ok (.iconst 0, 1) := by decide +kernel
theorem d_W_searchAll_11 : decode c_W_searchAll 11 = .ok (.invokevirtual 67, 3) := by decide +kernel
theorem d_W_searchAll_14 : decode c_W_searchAll 14 = .ok (.aload_n 0, 1) := by decide +kernel
theorem d_W_searchAll_15 : decode c_W_searchAll 15 = .ok (.iload_n 1, 1) := by decide +kernel
theorem d_W_searchAll_16 : decode c_W_searchAll 16 = .ok (.iconst (-1), 1) := by decide +kernel
theorem d_W_searchAll_17 : decode c_W_searchAll 17 = .ok (.invokevirtual 71, 3) := by decide +kernel
theorem d_W_searchAll_20 : decode c_W_searchAll 20 = .ok (.return_, 1) := by decide +kernel
theorem d_W_costBetween_0 : decode c_W_costBetween 0 = .ok (.iload_n 1, 1) := by decide +kernel
theorem d_W_costBetween_1 : decode c_W_costBetween 1 = .ok (.iload_n 2, 1) := by decide +kernel
theorem d_W_costBetween_2 : decode c_W_costBetween 2 = .ok (.if_icmp .ne 7, 3) := by decide +kernel
theorem d_W_costBetween_5 : decode c_W_costBetween 5 = .ok (.iconst 0, 1) := by decide +kernel
theorem d_W_costBetween_6 : decode c_W_costBetween 6 = .ok (.goto 8, 3) := by decide +kernel
theorem d_W_costBetween_9 : decode c_W_costBetween 9 = .ok (.aload_n 0, 1) := by decide +kernel
theorem d_W_costBetween_10 : decode c_W_costBetween 10 = .ok (.iload_n 1, 1) := by decide +kernel
theorem d_W_costBetween_11 : decode c_W_costBetween 11 = .ok (.invokevirtual 75, 3) := by decide +kernel
theorem d_W_costBetween_14 : decode c_W_costBetween 14 = .ok (.ireturn, 1) := by decide +kernel
theorem d_W_prepare_0 : decode c_W_prepare 0 = .ok (.iload_n 1, 1) := by decide +kernel
theorem d_W_prepare_1 : decode c_W_prepare 1 = .ok (.ifCond .eq 13, 3) := by decide +kernel
theorem d_W_prepare_4 : decode c_W_prepare 4 = .ok (.iload_n 1, 1) := by decide +kernel
theorem d_W_prepare_5 : decode c_W_prepare 5 = .ok (.iconst 4, 1) := by decide +kernel
theorem d_W_prepare_6 : decode c_W_prepare 6 = .ok (.if_icmp .eq 8, 3) := by decide +kernel
theorem d_W_prepare_9 : decode c_W_prepare 9 = .ok (.iload_n 1, 1) := by decide +kernel
theorem d_W_prepare_10 : decode c_W_prepare 10 = .ok (.iconst 5, 1) := by decide +kernel
theorem d_W_prepare_11 : decode c_W_prepare 11 = .ok (.if_icmp .ne 7, 3) := by decide +kernel
theorem d_W_prepare_14 : decode c_W_prepare 14 = .ok (.iconst 1, 1) := by decide +kernel
theorem d_W_prepare_15 : decode c_W_prepare 15 = .ok (.goto 4, 3) := by decide +kernel
theorem d_W_prepare_18 : decode c_W_prepare 18 = .ok (.iconst 0, 1) := by decide +kernel
theorem d_W_prepare_19 : decode c_W_prepare 19 = .ok (.istore 4, 2) := by decide +kernel
theorem d_W_prepare_21 : decode c_W_prepare 21 = .ok (.aload_n 0, 1) := by decide +kernel
theorem d_W_prepare_22 : decode c_W_prepare 22 = .ok (.iconst 1, 1) := by decide +kernel
theorem d_W_prepare_23 : decode c_W_prepare 23 = .ok (.putfield 54, 3) := by decide +kernel
theorem d_W_prepare_26 : decode c_W_prepare 26 = .ok (.aload_n 0, 1) := by decide +kernel
theorem d_W_prepare_27 : decode c_W_prepare 27 = .ok (.aload_n 0, 1) := by decide +kernel
theorem d_W_prepare_28 : decode c_W_prepare 28 = .ok (.getfield 9, 3) := by decide +kernel
theorem d_W_prepare_31 : decode c_W_prepare 31 = .ok (.iconst 1, 1) := by decide +kernel
theorem d_W_prepare_32 : decode c_W_prepare 32 = .ok (.invokevirtual 61, 3) := by decide +kernel
theorem d_W_prepare_35 : decode c_W_prepare 35 = .ok (.putfield 81, 3) := by decide +kernel
theorem d_W_prepare_38 : decode c_W_prepare 38 = .ok (.iconst 0, 1) := by decide +kernel
theorem d_W_prepare_39 : decode c_W_prepare 39 = .ok (.istore 5, 2) := by decide +kernel
theorem d_W_prepare_41 : decode c_W_prepare 41 = .ok (.iload 5, 2) := by decide +kernel
theorem d_W_prepare_43 : decode c_W_prepare 43 = .ok (.iconst 4, 1) := by decide +kernel
theorem d_W_prepare_44 : decode c_W_prepare 44 = .ok (.if_icmp .gt 37, 3) := by decide +kernel
theorem d_W_prepare_47 : decode c_W_prepare 47 = .ok (.aload_n 0, 1) := by decide +kernel
theorem d_W_prepare_48 : decode c_W_prepare 48 = .ok (.getfield 30, 3) := by decide +kernel
theorem d_W_prepare_51 : decode c_W_prepare 51 = .ok (.iload 5, 2) := by decide +kernel
theorem d_W_prepare_53 : decode c_W_prepare 53 = .ok (.iload 4, 2) := by decide +kernel
theorem d_W_prepare_55 : decode c_W_prepare 55 = .ok (.ifCond .eq 18, 3) := by decide +kernel
theorem d_W_prepare_58 : decode c_W_prepare 58 = .ok (.aload_n 0, 1) := by decide +kernel
theorem d_W_prepare_59 : decode c_W_prepare 59 = .ok (.getfield 9, 3) := by decide +kernel
theorem d_W_prepare_62 : decode c_W_prepare 62 = .ok (.iload 5, 2) := by decide +kernel
theorem d_W_prepare_64 : decode c_W_prepare 64 = .ok (.invokevirtual 84, 3) := by decide +kernel
theorem d_W_prepare_67 : decode c_W_prepare 67 = .ok (.bipush 10, 2) := by decide +kernel
theorem d_W_prepare_69 : decode c_W_prepare 69 = .ok (.ishl, 1) := by decide +kernel
theorem d_W_prepare_70 : decode c_W_prepare 70 = .ok (.goto 4, 3) := by decide +kernel
theorem d_W_prepare_73 : decode c_W_prepare 73 = .ok (.iconst 0, 1) := by decide +kernel
theorem d_W_prepare_74 : decode c_W_prepare 74 = .ok (.iastore, 1) := by decide +kernel
theorem d_W_prepare_75 : decode c_W_prepare 75 = .ok (.iinc 5 1, 3) := by decide +kernel
theorem d_W_prepare_78 : decode c_W_prepare 78 = .ok (.goto (-37), 3) := by decide +kernel
theorem d_W_prepare_81 : decode c_W_prepare 81 = .ok (.iload_n 1, 1) := by decide +kernel
theorem d_W_prepare_82 : decode c_W_prepare 82 = .ok (.iconst 4, 1) := by decide +kernel
theorem d_W_prepare_83 : decode c_W_prepare 83 = .ok (.if_icmp .ne 7, 3) := by decide +kernel
theorem d_W_prepare_86 : decode c_W_prepare 86 = .ok (.aload_n 0, 1) := by decide +kernel
theorem d_W_prepare_87 : decode c_W_prepare 87 = .ok (.invokevirtual 87, 3) := by decide +kernel
theorem d_W_prepare_90 : decode c_W_prepare 90 = .ok (.iload_n 1, 1) := by decide +kernel
theorem d_W_prepare_91 : decode c_W_prepare 91 = .ok (.iconst 5, 1) := by decide +kernel
theorem d_W_prepare_92 : decode c_W_prepare 92 = .ok (.if_icmp .ne 10, 3) := by decide +kernel
theorem d_W_prepare_95 : decode c_W_prepare 95 = .ok (.aload_n 0, 1) := by decide +kernel
theorem d_W_prepare_96 : decode c_W_prepare 96 = .ok (.getfield 15, 3) := by decide +kernel
theorem d_W_prepare_99 : decode c_W_prepare 99 = .ok (.invokevirtual 90, 3) := by decide +kernel
theorem d_W_prepare_102 : decode c_W_prepare 102 = .ok (.iconst 0, 1) := by decide +kernel
theorem d_W_prepare_103 : decode c_W_prepare 103 = .ok (.istore 5, 2) := by decide +kernel
theorem d_W_prepare_105 : decode c_W_prepare 105 = .ok (.iload 5, 2) := by decide +kernel
theorem d_W_prepare_107 : decode c_W_prepare 107 = .ok (.aload_n 0, 1) := by decide +kernel
theorem d_W_prepare_108 : decode c_W_prepare 108 = .ok (.getfield 9, 3) := by decide +kernel
theorem d_W_prepare_111 : decode c_W_prepare 111 = .ok (.invokevirtual 95, 3) := by decide +kernel
theorem d_W_prepare_114 : decode c_W_prepare 114 = .ok (.if_icmp .ge 52, 3) := by decide +kernel
theorem d_W_prepare_117 : decode c_W_prepare 117 = .ok (.aload_n 0, 1) := by decide +kernel
theorem d_W_prepare_118 : decode c_W_prepare 118 = .ok (.getfield 26, 3) := by decide +kernel
theorem d_W_prepare_121 : decode c_W_prepare 121 = .ok (.iload 5, 2) := by decide +kernel
theorem d_W_prepare_123 : decode c_W_prepare 123 = .ok (.aload_n 0, 1) := by decide +kernel
theorem d_W_prepare_124 : decode c_W_prepare 124 = .ok (.getfield 9, 3) := by decide +kernel
theorem d_W_prepare_127 : decode c_W_prepare 127 = .ok (.iload 5, 2) := by decide +kernel
theorem d_W_prepare_129 : decode c_W_prepare 129 = .ok (.invokevirtual 99, 3) := by decide +kernel
theorem d_W_prepare_132 : decode c_W_prepare 132 = .ok (.bastore, 1) := by decide +kernel
theorem d_W_prepare_133 : decode c_W_prepare 133 = .ok (.iconst 0, 1) := by decide +kernel
theorem d_W_prepare_134 : decode c_W_prepare 134 = .ok (.istore 6, 2) := by decide +kernel
theorem d_W_prepare_136 : decode c_W_prepare 136 = .ok (.iload 6, 2) := by decide +kernel
theorem d_W_prepare_138 : decode c_W_prepare 138 = .ok (.bipush 8, 2) := by decide +kernel
theorem d_W_prepare_140 : decode c_W_prepare 140 = .ok (.if_icmp .ge 20, 3) := by decide +kernel
theorem d_W_prepare_143 : decode c_W_prepare 143 = .ok (.aload_n 0, 1) := by decide +kernel
theorem d_W_prepare_144 : decode c_W_prepare 144 = .ok (.iload 5, 2) := by decide +kernel
theorem d_W_prepare_146 : decode c_W_prepare 146 = .ok (.iload 6, 2) := by decide +kernel
theorem d_W_prepare_148 : decode c_W_prepare 148 = .ok (.iload_n 1, 1) := by decide +kernel
theorem d_W_prepare_149 : decode c_W_prepare 149 = .ok (.iload_n 2, 1) := by decide +kernel
theorem d_W_prepare_150 : decode c_W_prepare 150 = .ok (.iload_n 3, 1) := by decide +kernel
theorem d_W_prepare_151 : decode c_W_prepare 151 = .ok (.invokevirtual 103, 3) := by decide +kernel
theorem d_W_prepare_154 : decode c_W_prepare 154 = .ok (.iinc 6 1, 3) := by decide +kernel
theorem d_W_prepare_157 : decode c_W_prepare 157 = .ok (.goto (-21), 3) := by decide +kernel
theorem d_W_prepare_160 : decode c_W_prepare 160 = .ok (.iinc 5 1, 3) := by decide +kernel
theorem d_W_prepare_163 : decode c_W_prepare 163 = .ok (.goto (-58), 3) := by decide +kernel
theorem d_W_prepare_166 : decode c_W_prepare 166 = .ok (.return_, 1) := by decide +kernel
theorem d_W_weigh_0 : decode c_W_weigh 0 = .ok (.iload_n 1, 1) := by decide +kernel
theorem d_W_weigh_1 : decode c_W_weigh 1 = .ok (.bipush 8, 2) := by decide +kernel
theorem d_W_weigh_3 : decode c_W_weigh 3 = .ok (.imul, 1) := by decide +kernel
theorem d_W_weigh_4 : decode c_W_weigh 4 = .ok (.iload_n 2, 1) := by decide +kernel
theorem d_W_weigh_5 : decode c_W_weigh 5 = .ok (.iadd, 1) := by decide +kernel
theorem d_W_weigh_6 : decode c_W_weigh 6 = .ok (.istore 6, 2) := by decide +kernel
theorem d_W_weigh_8 : decode c_W_weigh 8 = .ok (.aload_n 0, 1) := by decide +kernel
theorem d_W_weigh_9 : decode c_W_weigh 9 = .ok (.getfield 19, 3) := by decide +kernel
theorem d_W_weigh_12 : decode c_W_weigh 12 = .ok (.iload 6, 2) := by decide +kernel
theorem d_W_weigh_14 : decode c_W_weigh 14 = .ok (.iconst (-1), 1) := by decide +kernel
theorem d_W_weigh_15 : decode c_W_weigh 15 = .ok (.iastore, 1) := by decide +kernel
theorem d_W_weigh_16 : decode c_W_weigh 16 = .ok (.aload_n 0, 1) := by decide +kernel
theorem d_W_weigh_17 : decode c_W_weigh 17 = .ok (.getfield 23, 3) := by decide +kernel
theorem d_W_weigh_20 : decode c_W_weigh 20 = .ok (.iload 6, 2) := by decide +kernel
theorem d_W_weigh_22 : decode c_W_weigh 22 = .ok (.iconst 0, 1) := by decide +kernel
theorem d_W_weigh_23 : decode c_W_weigh 23 = .ok (.iastore, 1) := by decide +kernel
theorem d_W_weigh_24 : decode c_W_weigh 24 = .ok (.aload_n 0, 1) := by decide +kernel
theorem d_W_weigh_25 : decode c_W_weigh 25 = .ok (.getfield 9, 3) := by decide +kernel
theorem d_W_weigh_28 : decode c_W_weigh 28 = .ok (.iload_n 1, 1) := by decide +kernel
theorem d_W_weigh_29 : decode c_W_weigh 29 = .ok (.iload_n 2, 1) := by decide +kernel
theorem d_W_weigh_30 : decode c_W_weigh 30 = .ok (.invokevirtual 107, 3) := by decide +kernel
theorem d_W_weigh_33 : decode c_W_weigh 33 = .ok (.ifCond .ne 4, 3) := by decide +kernel
theorem d_W_weigh_36 : decode c_W_weigh 36 = .ok (.return_, 1) := by decide +kernel
theorem d_W_weigh_37 : decode c_W_weigh 37 = .ok (.aload_n 0, 1) := by decide +kernel
theorem d_W_weigh_38 : decode c_W_weigh 38 = .ok (.getfield 9, 3) := by decide +kernel
theorem d_W_weigh_41 : decode c_W_weigh 41 = .ok (.iload_n 1, 1) := by decide +kernel
theorem d_W_weigh_42 : decode c_W_weigh 42 = .ok (.iload_n 2, 1) := by decide +kernel
theorem d_W_weigh_43 : decode c_W_weigh 43 = .ok (.iload 4, 2) := by decide +kernel
theorem d_W_weigh_45 : decode c_W_weigh 45 = .ok (.invokevirtual 111, 3) := by decide +kernel
theorem d_W_weigh_48 : decode c_W_weigh 48 = .ok (.ifCond .eq 17, 3) := by decide +kernel
theorem d_W_weigh_51 : decode c_W_weigh 51 = .ok (.aload_n 0, 1) := by decide +kernel
theorem d_W_weigh_52 : decode c_W_weigh 52 = .ok (.getfield 23, 3) := by decide +kernel
theorem d_W_weigh_55 : decode c_W_weigh 55 = .ok (.iload 6, 2) := by decide +kernel
theorem d_W_weigh_57 : decode c_W_weigh 57 = .ok (.iconst 1, 1) := by decide +kernel
theorem d_W_weigh_58 : decode c_W_weigh 58 = .ok (.iastore, 1) := by decide +kernel
theorem d_W_weigh_59 : decode c_W_weigh 59 = .ok (.iload 5, 2) := by decide +kernel
theorem d_W_weigh_61 : decode c_W_weigh 61 = .ok (.ifCond .ne 4, 3) := by decide +kernel
theorem d_W_weigh_64 : decode c_W_weigh 64 = .ok (.return_, 1) := by decide +kernel
theorem d_W_weigh_65 : decode c_W_weigh 65 = .ok (.aload_n 0, 1) := by decide +kernel
theorem d_W_weigh_66 : decode c_W_weigh 66 = .ok (.iload_n 1, 1) := by decide +kernel
theorem d_W_weigh_67 : decode c_W_weigh 67 = .ok (.iload_n 2, 1) := by decide +kernel
theorem d_W_weigh_68 : decode c_W_weigh 68 = .ok (.iload_n 3, 1) := by decide +kernel
theorem d_W_weigh_69 : decode c_W_weigh 69 = .ok (.invokevirtual 115, 3) := by decide +kernel
theorem d_W_weigh_72 : decode c_W_weigh 72 = .ok (.aload_n 0, 1) := by decide +kernel
theorem d_W_weigh_73 : decode c_W_weigh 73 = .ok (.getfield 23, 3) := by decide +kernel
theorem d_W_weigh_76 : decode c_W_weigh 76 = .ok (.iload 6, 2) := by decide +kernel
theorem d_W_weigh_78 : decode c_W_weigh 78 = .ok (.iaload, 1) := by decide +kernel
theorem d_W_weigh_79 : decode c_W_weigh 79 = .ok (.aload_n 0, 1) := by decide +kernel
theorem d_W_weigh_80 : decode c_W_weigh 80 = .ok (.getfield 9, 3) := by decide +kernel
theorem d_W_weigh_83 : decode c_W_weigh 83 = .ok (.bipush 6, 2) := by decide +kernel
theorem d_W_weigh_85 : decode c_W_weigh 85 = .ok (.invokevirtual 61, 3) := by decide +kernel
theorem d_W_weigh_88 : decode c_W_weigh 88 = .ok (.imul, 1) := by decide +kernel
theorem d_W_weigh_89 : decode c_W_weigh 89 = .ok (.iadd, 1) := by decide +kernel
theorem d_W_weigh_90 : decode c_W_weigh 90 = .ok (.istore 7, 2) := by decide +kernel
theorem d_W_weigh_92 : decode c_W_weigh 92 = .ok (.aload_n 0, 1) := by decide +kernel
theorem d_W_weigh_93 : decode c_W_weigh 93 = .ok (.getfield 19, 3) := by decide +kernel
theorem d_W_weigh_96 : decode c_W_weigh 96 = .ok (.iload 6, 2) := by decide +kernel
theorem d_W_weigh_98 : decode c_W_weigh 98 = .ok (.iload 7, 2) := by decide +kernel
theorem d_W_weigh_100 : decode c_W_weigh 100 = .ok (.bipush 10, 2) := by decide +kernel
theorem d_W_weigh_102 : decode c_W_weigh 102 = .ok (.ishl, 1) := by decide +kernel
theorem d_W_weigh_103 : decode c_W_weigh 103 = .ok (.iload 5, 2) := by decide +kernel
theorem d_W_weigh_105 : decode c_W_weigh 105 = .ok (.ifCond .eq 7, 3) := by decide +kernel
theorem d_W_weigh_108 : decode c_W_weigh 108 = .ok (.iconst 0, 1) := by decide +kernel
theorem d_W_weigh_109 : decode c_W_weigh 109 = .ok (.goto 4, 3) := by decide +kernel
theorem d_W_weigh_112 : decode c_W_weigh 112 = .ok (.iconst 1, 1) := by decide +kernel
theorem d_W_weigh_113 : decode c_W_weigh 113 = .ok (.iadd, 1) := by decide +kernel
theorem d_W_weigh_114 : decode c_W_weigh 114 = .ok (.iastore, 1) := by decide +kernel
theorem d_W_weigh_115 : decode c_W_weigh 115 = .ok (.return_, 1) := by decide +kernel
theorem d_W_amount_0 : decode c_W_amount 0 = .ok (.aload_n 0, 1) := by decide +kernel
theorem d_W_amount_1 : decode c_W_amount 1 = .ok (.getfield 9, 3) := by decide +kernel
theorem d_W_amount_4 : decode c_W_amount 4 = .ok (.iload_n 1, 1) := by decide +kernel
theorem d_W_amount_5 : decode c_W_amount 5 = .ok (.iload_n 2, 1) := by decide +kernel
theorem d_W_amount_6 : decode c_W_amount 6 = .ok (.invokevirtual 119, 3) := by decide +kernel
theorem d_W_amount_9 : decode c_W_amount 9 = .ok (.istore 4, 2) := by decide +kernel
theorem d_W_amount_11 : decode c_W_amount 11 = .ok (.aload_n 0, 1) := by decide +kernel
theorem d_W_amount_12 : decode c_W_amount 12 = .ok (.getfield 9, 3) := by decide +kernel
theorem d_W_amount_15 : decode c_W_amount 15 = .ok (.iload 4, 2) := by decide +kernel
theorem d_W_amount_17 : decode c_W_amount 17 = .ok (.invokevirtual 123, 3) := by decide +kernel
theorem d_W_amount_20 : decode c_W_amount 20 = .ok (.aload_n 0, 1) := by decide +kernel
theorem d_W_amount_21 : decode c_W_amount 21 = .ok (.getfield 9, 3) := by decide +kernel
theorem d_W_amount_24 : decode c_W_amount 24 = .ok (.iload_n 1, 1) := by decide +kernel
theorem d_W_amount_25 : decode c_W_amount 25 = .ok (.invokevirtual 123, 3) := by decide +kernel
theorem d_W_amount_28 : decode c_W_amount 28 = .ok (.isub, 1) := by decide +kernel
theorem d_W_amount_29 : decode c_W_amount 29 = .ok (.istore 5, 2) := by decide +kernel
theorem d_W_amount_31 : decode c_W_amount 31 = .ok (.iload_n 2, 1) := by decide +kernel
theorem d_W_amount_32 : decode c_W_amount 32 = .ok (.invokestatic 126, 3) := by decide +kernel
theorem d_W_amount_35 : decode c_W_amount 35 = .ok (.aload_n 0, 1) := by decide +kernel
theorem d_W_amount_36 : decode c_W_amount 36 = .ok (.getfield 9, 3) := by decide +kernel
theorem d_W_amount_39 : decode c_W_amount 39 = .ok (.iconst 3, 1) := by decide +kernel
theorem d_W_amount_40 : decode c_W_amount 40 = .ok (.invokevirtual 61, 3) := by decide +kernel
theorem d_W_amount_43 : decode c_W_amount 43 = .ok (.iload 5, 2) := by decide +kernel
theorem d_W_amount_45 : decode c_W_amount 45 = .ok (.ifCond .ge 9, 3) := by decide +kernel
theorem d_W_amount_48 : decode c_W_amount 48 = .ok (.iload 5, 2) := by decide +kernel
theorem d_W_amount_50 : decode c_W_amount 50 = .ok (.ineg, 1) := by decide +kernel
theorem d_W_amount_51 : decode c_W_amount 51 = .ok (.goto 5, 3) := by decide +kernel
theorem d_W_amount_54 : decode c_W_amount 54 = .ok (.iload 5, 2) := by decide +kernel
theorem d_W_amount_56 : decode c_W_amount 56 = .ok (.imul, 1) := by decide +kernel
theorem d_W_amount_57 : decode c_W_amount 57 = .ok (.iadd, 1) := by decide +kernel
theorem d_W_amount_58 : decode c_W_amount 58 = .ok (.istore 6, 2) := by decide +kernel
theorem d_W_amount_60 : decode c_W_amount 60 = .ok (.iload_n 3, 1) := by decide +kernel
theorem d_W_amount_61 : decode c_W_amount 61 = .ok (.tableswitch 81 1 5 #[35, 40, 52, 54, 68], 35) := by decide +kernel
theorem d_W_amount_96 : decode c_W_amount 96 = .ok (.iload_n 2, 1) := by decide +kernel
theorem d_W_amount_97 : decode c_W_amount 97 = .ok (.invokestatic 126, 3) := by decide +kernel
theorem d_W_amount_100 : decode c_W_amount 100 = .ok (.ireturn, 1) := by decide +kernel
theorem d_W_amount_101 : decode c_W_amount 101 = .ok (.iload 5, 2) := by decide +kernel
theorem d_W_amount_103 : decode c_W_amount 103 = .ok (.ifCond .ge 7, 3) := by decide +kernel
theorem d_W_amount_106 : decode c_W_amount 106 = .ok (.iconst 0, 1) := by decide +kernel
theorem d_W_amount_107 : decode c_W_amount 107 = .ok (.goto 5, 3) := by decide +kernel
theorem d_W_amount_110 : decode c_W_amount 110 = .ok (.iload 5, 2) := by decide +kernel
theorem d_W_amount_112 : decode c_W_amount 112 = .ok (.ireturn, 1) := by decide +kernel
theorem d_W_amount_113 : decode c_W_amount 113 = .ok (.iconst 1, 1) := by decide +kernel
theorem d_W_amount_114 : decode c_W_amount 114 = .ok (.ireturn, 1) := by decide +kernel
theorem d_W_amount_115 : decode c_W_amount 115 = .ok (.iload 6, 2) := by decide +kernel
theorem d_W_amount_117 : decode c_W_amount 117 = .ok (.aload_n 0, 1) := by decide +kernel
theorem d_W_amount_118 : decode c_W_amount 118 = .ok (.getfield 33, 3) := by decide +kernel
theorem d_W_amount_121 : decode c_W_amount 121 = .ok (.iload_n 1, 1) := by decide +kernel
theorem d_W_amount_122 : decode c_W_amount 122 = .ok (.iaload, 1) := by decide +kernel
theorem d_W_amount_123 : decode c_W_amount 123 = .ok (.iload_n 2, 1) := by decide +kernel
theorem d_W_amount_124 : decode c_W_amount 124 = .ok (.ishr, 1) := by decide +kernel
theorem d_W_amount_125 : decode c_W_amount 125 = .ok (.iconst 1, 1) := by decide +kernel
theorem d_W_amount_126 : decode c_W_amount 126 = .ok (.iand, 1) := by decide +kernel
theorem d_W_amount_127 : decode c_W_amount 127 = .ok (.ishr, 1) := by decide +kernel
theorem d_W_amount_128 : decode c_W_amount 128 = .ok (.ireturn, 1) := by decide +kernel
theorem d_W_amount_129 : decode c_W_amount 129 = .ok (.iload 6, 2) := by decide +kernel
theorem d_W_amount_131 : decode c_W_amount 131 = .ok (.aload_n 0, 1) := by decide +kernel
theorem d_W_amount_132 : decode c_W_amount 132 = .ok (.getfield 15, 3) := by decide +kernel
theorem d_W_amount_135 : decode c_W_amount 135 = .ok (.iload 4, 2) := by decide +kernel
theorem d_W_amount_137 : decode c_W_amount 137 = .ok (.invokevirtual 129, 3) := by decide +kernel
theorem d_W_amount_140 : decode c_W_amount 140 = .ok (.iadd, 1) := by decide +kernel
theorem d_W_amount_141 : decode c_W_amount 141 = .ok (.ireturn, 1) := by decide +kernel
theorem d_W_amount_142 : decode c_W_amount 142 = .ok (.iload 6, 2) := by decide +kernel
theorem d_W_amount_144 : decode c_W_amount 144 = .ok (.ireturn, 1) := by decide +kernel
theorem d_W_markUsed_0 : decode c_W_markUsed 0 = .ok (.aload_n 0, 1) := by decide +kernel
theorem d_W_markUsed_1 : decode c_W_markUsed 1 = .ok (.getfield 33, 3) := by decide +kernel
theorem d_W_markUsed_4 : decode c_W_markUsed 4 = .ok (.iconst 0, 1) := by decide +kernel
theorem d_W_markUsed_5 : decode c_W_markUsed 5 = .ok (.invokestatic 132, 3) := by decide +kernel
theorem d_W_markUsed_8 : decode c_W_markUsed 8 = .ok (.iconst 0, 1) := by decide +kernel
theorem d_W_markUsed_9 : decode c_W_markUsed 9 = .ok (.istore_n 1, 1) := by decide +kernel
theorem d_W_markUsed_10 : decode c_W_markUsed 10 = .ok (.iload_n 1, 1) := by decide +kernel
theorem d_W_markUsed_11 : decode c_W_markUsed 11 = .ok (.iconst 4, 1) := by decide +kernel
theorem d_W_markUsed_12 : decode c_W_markUsed 12 = .ok (.if_icmp .ge 86, 3) := by decide +kernel
theorem d_W_markUsed_15 : decode c_W_markUsed 15 = .ok (.iconst 0, 1) := by decide +kernel
theorem d_W_markUsed_16 : decode c_W_markUsed 16 = .ok (.istore_n 2, 1) := by decide +kernel
theorem d_W_markUsed_17 : decode c_W_markUsed 17 = .ok (.iload_n 2, 1) := by decide +kernel
theorem d_W_markUsed_18 : decode c_W_markUsed 18 = .ok (.iconst 1, 1) := by decide +kernel
theorem d_W_markUsed_19 : decode c_W_markUsed 19 = .ok (.iadd, 1) := by decide +kernel
theorem d_W_markUsed_20 : decode c_W_markUsed 20 = .ok (.aload_n 0, 1) := by decide +kernel
theorem d_W_markUsed_21 : decode c_W_markUsed 21 = .ok (.getfield 9, 3) := by decide +kernel
theorem d_W_markUsed_24 : decode c_W_markUsed 24 = .ok (.iload_n 1, 1) := by decide +kernel
theorem d_W_markUsed_25 : decode c_W_markUsed 25 = .ok (.invokevirtual 138, 3) := by decide +kernel
theorem d_W_markUsed_28 : decode c_W_markUsed 28 = .ok (.if_icmp .ge 64, 3) := by decide +kernel
theorem d_W_markUsed_31 : decode c_W_markUsed 31 = .ok (.aload_n 0, 1) := by decide +kernel
theorem d_W_markUsed_32 : decode c_W_markUsed 32 = .ok (.getfield 9, 3) := by decide +kernel
theorem d_W_markUsed_35 : decode c_W_markUsed 35 = .ok (.iload_n 1, 1) := by decide +kernel
theorem d_W_markUsed_36 : decode c_W_markUsed 36 = .ok (.iload_n 2, 1) := by decide +kernel
theorem d_W_markUsed_37 : decode c_W_markUsed 37 = .ok (.invokevirtual 141, 3) := by decide +kernel
theorem d_W_markUsed_40 : decode c_W_markUsed 40 = .ok (.istore_n 3, 1) := by decide +kernel
theorem d_W_markUsed_41 : decode c_W_markUsed 41 = .ok (.aload_n 0, 1) := by decide +kernel
theorem d_W_markUsed_42 : decode c_W_markUsed 42 = .ok (.getfield 33, 3) := by decide +kernel
theorem d_W_markUsed_45 : decode c_W_markUsed 45 = .ok (.aload_n 0, 1) := by decide +kernel
theorem d_W_markUsed_46 : decode c_W_markUsed 46 = .ok (.getfield 9, 3) := by decide +kernel
theorem d_W_markUsed_49 : decode c_W_markUsed 49 = .ok (.iload_n 1, 1) := by decide +kernel
theorem d_W_markUsed_50 : decode c_W_markUsed 50 = .ok (.iload_n 2, 1) := by decide +kernel
theorem d_W_markUsed_51 : decode c_W_markUsed 51 = .ok (.invokevirtual 144, 3) := by decide +kernel
theorem d_W_markUsed_54 : decode c_W_markUsed 54 = .ok (.dup2, 1) := by decide +kernel
theorem d_W_markUsed_55 : decode c_W_markUsed 55 = .ok (.iaload, 1) := by decide +kernel
theorem d_W_markUsed_56 : decode c_W_markUsed 56 = .ok (.iconst 1, 1) := by decide +kernel
theorem d_W_markUsed_57 : decode c_W_markUsed 57 = .ok (.iload_n 3, 1) := by decide +kernel
theorem d_W_markUsed_58 : decode c_W_markUsed 58 = .ok (.ishl, 1) := by decide +kernel
theorem d_W_markUsed_59 : decode c_W_markUsed 59 = .ok (.ior, 1) := by decide +kernel
theorem d_W_markUsed_60 : decode c_W_markUsed 60 = .ok (.iastore, 1) := by decide +kernel
theorem d_W_markUsed_61 : decode c_W_markUsed 61 = .ok (.aload_n 0, 1) := by decide +kernel
theorem d_W_markUsed_62 : decode c_W_markUsed 62 = .ok (.getfield 33, 3) := by decide +kernel
theorem d_W_markUsed_65 : decode c_W_markUsed 65 = .ok (.aload_n 0, 1) := by decide +kernel
theorem d_W_markUsed_66 : decode c_W_markUsed 66 = .ok (.getfield 9, 3) := by decide +kernel
theorem d_W_markUsed_69 : decode c_W_markUsed 69 = .ok (.iload_n 1, 1) := by decide +kernel
theorem d_W_markUsed_70 : decode c_W_markUsed 70 = .ok (.iload_n 2, 1) := by decide +kernel
theorem d_W_markUsed_71 : decode c_W_markUsed 71 = .ok (.iconst 1, 1) := by decide +kernel
theorem d_W_markUsed_72 : decode c_W_markUsed 72 = .ok (.iadd, 1) := by decide +kernel
theorem d_W_markUsed_73 : decode c_W_markUsed 73 = .ok (.invokevirtual 144, 3) := by decide +kernel
theorem d_W_markUsed_76 : decode c_W_markUsed 76 = .ok (.dup2, 1) := by decide +kernel
theorem d_W_markUsed_77 : decode c_W_markUsed 77 = .ok (.iaload, 1) := by decide +kernel
theorem d_W_markUsed_78 : decode c_W_markUsed 78 = .ok (.iconst 1, 1) := by decide +kernel
theorem d_W_markUsed_79 : decode c_W_markUsed 79 = .ok (.iload_n 3, 1) := by decide +kernel
theorem d_W_markUsed_80 : decode c_W_markUsed 80 = .ok (.invokestatic 147, 3) := by decide +kernel
theorem d_W_markUsed_83 : decode c_W_markUsed 83 = .ok (.ishl, 1) := by decide +kernel
theorem d_W_markUsed_84 : decode c_W_markUsed 84 = .ok (.ior, 1) := by decide +kernel
theorem d_W_markUsed_85 : decode c_W_markUsed 85 = .ok (.iastore, 1) := by decide +kernel
theorem d_W_markUsed_86 : decode c_W_markUsed 86 = .ok (.iinc 2 1, 3) := by decide +kernel
theorem d_W_markUsed_89 : decode c_W_markUsed 89 = .ok (.goto (-72), 3) := by decide +kernel
theorem d_W_markUsed_92 : decode c_W_markUsed 92 = .ok (.iinc 1 1, 3) := by decide +kernel
theorem d_W_markUsed_95 : decode c_W_markUsed 95 = .ok (.goto (-85), 3) := by decide +kernel
theorem d_W_markUsed_98 : decode c_W_markUsed 98 = .ok (.return_, 1) := by decide +kernel
theorem d_W_takeWeight_0 : decode c_W_takeWeight 0 = .ok (.iload_n 1, 1) := by decide +kernel
theorem d_W_takeWeight_1 : decode c_W_takeWeight 1 = .ok (.bipush 8, 2) := by decide +kernel
theorem d_W_takeWeight_3 : decode c_W_takeWeight 3 = .ok (.imul, 1) := by decide +kernel
theorem d_W_takeWeight_4 : decode c_W_takeWeight 4 = .ok (.iload_n 2, 1) := by decide +kernel
theorem d_W_takeWeight_5 : decode c_W_takeWeight 5 = .ok (.iadd, 1) := by decide +kernel
theorem d_W_takeWeight_6 : decode c_W_takeWeight 6 = .ok (.istore_n 3, 1) := by decide +kernel
theorem d_W_takeWeight_7 : decode c_W_takeWeight 7 = .ok (.aload_n 0, 1) := by decide +kernel
theorem d_W_takeWeight_8 : decode c_W_takeWeight 8 = .ok (.getfield 19, 3) := by decide +kernel
theorem d_W_takeWeight_11 : decode c_W_takeWeight 11 = .ok (.iload_n 3, 1) := by decide +kernel
theorem d_W_takeWeight_12 : decode c_W_takeWeight 12 = .ok (.iaload, 1) := by decide +kernel
theorem d_W_takeWeight_13 : decode c_W_takeWeight 13 = .ok (.istore 4, 2) := by decide +kernel
theorem d_W_takeWeight_15 : decode c_W_takeWeight 15 = .ok (.aload_n 0, 1) := by decide +kernel
theorem d_W_takeWeight_16 : decode c_W_takeWeight 16 = .ok (.getfield 19, 3) := by decide +kernel
theorem d_W_takeWeight_19 : decode c_W_takeWeight 19 = .ok (.iload_n 3, 1) := by decide +kernel
theorem d_W_takeWeight_20 : decode c_W_takeWeight 20 = .ok (.iconst (-1), 1) := by decide +kernel
theorem d_W_takeWeight_21 : decode c_W_takeWeight 21 = .ok (.iastore, 1) := by decide +kernel
theorem d_W_takeWeight_22 : decode c_W_takeWeight 22 = .ok (.iload 4, 2) := by decide +kernel
theorem d_W_takeWeight_24 : decode c_W_takeWeight 24 = .ok (.ireturn, 1) := by decide +kernel
theorem d_W_giveWeight_0 : decode c_W_giveWeight 0 = .ok (.aload_n 0, 1) := by decide +kernel
theorem d_W_giveWeight_1 : decode c_W_giveWeight 1 = .ok (.getfield 19, 3) := by decide +kernel
theorem d_W_giveWeight_4 : decode c_W_giveWeight 4 = .ok (.iload_n 1, 1) := by decide +kernel
theorem d_W_giveWeight_5 : decode c_W_giveWeight 5 = .ok (.bipush 8, 2) := by decide +kernel
theorem d_W_giveWeight_7 : decode c_W_giveWeight 7 = .ok (.imul, 1) := by decide +kernel
theorem d_W_giveWeight_8 : decode c_W_giveWeight 8 = .ok (.iload_n 2, 1) := by decide +kernel
theorem d_W_giveWeight_9 : decode c_W_giveWeight 9 = .ok (.iadd, 1) := by decide +kernel
theorem d_W_giveWeight_10 : decode c_W_giveWeight 10 = .ok (.iload_n 3, 1) := by decide +kernel
theorem d_W_giveWeight_11 : decode c_W_giveWeight 11 = .ok (.iastore, 1) := by decide +kernel
theorem d_W_giveWeight_12 : decode c_W_giveWeight 12 = .ok (.return_, 1) := by decide +kernel
theorem d_W_canBend_0 : decode c_W_canBend 0 = .ok (.aload_n 0, 1) := by decide +kernel
theorem d_W_canBend_1 : decode c_W_canBend 1 = .ok (.getfield 26, 3) := by decide +kernel
theorem d_W_canBend_4 : decode c_W_canBend 4 = .ok (.iload_n 1, 1) := by decide +kernel
theorem d_W_canBend_5 : decode c_W_canBend 5 = .ok (.baload, 1) := by decide +kernel
theorem d_W_canBend_6 : decode c_W_canBend 6 = .ok (.ifCond .ne 15, 3) := by decide +kernel
theorem d_W_canBend_9 : decode c_W_canBend 9 = .ok (.iload_n 2, 1) := by decide +kernel
theorem d_W_canBend_10 : decode c_W_canBend 10 = .ok (.iload_n 3, 1) := by decide +kernel
theorem d_W_canBend_11 : decode c_W_canBend 11 = .ok (.invokestatic 150, 3) := by decide +kernel
theorem d_W_canBend_14 : decode c_W_canBend 14 = .ok (.aload_n 0, 1) := by decide +kernel
theorem d_W_canBend_15 : decode c_W_canBend 15 = .ok (.getfield 81, 3) := by decide +kernel
theorem d_W_canBend_18 : decode c_W_canBend 18 = .ok (.if_icmp .gt 7, 3) := by decide +kernel
theorem d_W_canBend_21 : decode c_W_canBend 21 = .ok (.iconst 1, 1) := by decide +kernel
theorem d_W_canBend_22 : decode c_W_canBend 22 = .ok (.goto 4, 3) := by decide +kernel
theorem d_W_canBend_25 : decode c_W_canBend 25 = .ok (.iconst 0, 1) := by decide +kernel
theorem d_W_canBend_26 : decode c_W_canBend 26 = .ok (.ireturn, 1) := by decide +kernel
theorem d_W_search_0 : decode c_W_search 0 = .ok (.aload_n 0, 1) := by decide +kernel
theorem d_W_search_1 : decode c_W_search 1 = .ok (.getfield 41, 3) := by decide +kernel
theorem d_W_search_4 : decode c_W_search 4 = .ok (.aload_n 0, 1) := by decide +kernel
theorem d_W_search_5 : decode c_W_search 5 = .ok (.getfield 54, 3) := by decide +kernel
theorem d_W_search_8 : decode c_W_search 8 = .ok (.sipush 648, 3) := by decide +kernel
theorem d_W_search_11 : decode c_W_search 11 = .ok (.imul, 1) := by decide +kernel
theorem d_W_search_12 : decode c_W_search 12 = .ok (.invokevirtual 153, 3) := by decide +kernel
theorem d_W_search_15 : decode c_W_search 15 = .ok (.aload_n 0, 1) := by decide +kernel
theorem d_W_search_16 : decode c_W_search 16 = .ok (.iload_n 1, 1) := by decide +kernel
theorem d_W_search_17 : decode c_W_search 17 = .ok (.iconst (-1), 1) := by decide +kernel
theorem d_W_search_18 : decode c_W_search 18 = .ok (.iconst 0, 1) := by decide +kernel
theorem d_W_search_19 : decode c_W_search 19 = .ok (.iconst 0, 1) := by decide +kernel
theorem d_W_search_20 : decode c_W_search 20 = .ok (.invokevirtual 156, 3) := by decide +kernel
theorem d_W_search_23 : decode c_W_search 23 = .ok (.iconst 0, 1) := by decide +kernel
theorem d_W_search_24 : decode c_W_search 24 = .ok (.istore_n 3, 1) := by decide +kernel
theorem d_W_search_25 : decode c_W_search 25 = .ok (.iload_n 3, 1) := by decide +kernel
theorem d_W_search_26 : decode c_W_search 26 = .ok (.sipush 2592, 3) := by decide +kernel
theorem d_W_search_29 : decode c_W_search 29 = .ok (.if_icmp .ge 72, 3) := by decide +kernel
theorem d_W_search_32 : decode c_W_search 32 = .ok (.aload_n 0, 1) := by decide +kernel
theorem d_W_search_33 : decode c_W_search 33 = .ok (.getfield 41, 3) := by decide +kernel
theorem d_W_search_36 : decode c_W_search 36 = .ok (.invokevirtual 160, 3) := by decide +kernel
theorem d_W_search_39 : decode c_W_search 39 = .ok (.ifCond .ne 62, 3) := by decide +kernel
theorem d_W_search_42 : decode c_W_search 42 = .ok (.aload_n 0, 1) := by decide +kernel
theorem d_W_search_43 : decode c_W_search 43 = .ok (.getfield 41, 3) := by decide +kernel
theorem d_W_search_46 : decode c_W_search 46 = .ok (.invokevirtual 164, 3) := by decide +kernel
theorem d_W_search_49 : decode c_W_search 49 = .ok (.istore 4, 2) := by decide +kernel
theorem d_W_search_51 : decode c_W_search 51 = .ok (.iload 4, 2) := by decide +kernel
theorem d_W_search_53 : decode c_W_search 53 = .ok (.sipush 648, 3) := by decide +kernel
theorem d_W_search_56 : decode c_W_search 56 = .ok (.irem, 1) := by decide +kernel
theorem d_W_search_57 : decode c_W_search 57 = .ok (.bipush 8, 2) := by decide +kernel
theorem d_W_search_59 : decode c_W_search 59 = .ok (.idiv, 1) := by decide +kernel
theorem d_W_search_60 : decode c_W_search 60 = .ok (.istore 5, 2) := by decide +kernel
theorem d_W_search_62 : decode c_W_search 62 = .ok (.iload 5, 2) := by decide +kernel
theorem d_W_search_64 : decode c_W_search 64 = .ok (.iload_n 2, 1) := by decide +kernel
theorem d_W_search_65 : decode c_W_search 65 = .ok (.if_icmp .ne 4, 3) := by decide +kernel
theorem d_W_search_68 : decode c_W_search 68 = .ok (.return_, 1) := by decide +kernel
theorem d_W_search_69 : decode c_W_search 69 = .ok (.aload_n 0, 1) := by decide +kernel
theorem d_W_search_70 : decode c_W_search 70 = .ok (.iload 5, 2) := by decide +kernel
theorem d_W_search_72 : decode c_W_search 72 = .ok (.iload 4, 2) := by decide +kernel
theorem d_W_search_74 : decode c_W_search 74 = .ok (.bipush 7, 2) := by decide +kernel
theorem d_W_search_76 : decode c_W_search 76 = .ok (.iand, 1) := by decide +kernel
theorem d_W_search_77 : decode c_W_search 77 = .ok (.iload 4, 2) := by decide +kernel
theorem d_W_search_79 : decode c_W_search 79 = .ok (.sipush 648, 3) := by decide +kernel
theorem d_W_search_82 : decode c_W_search 82 = .ok (.idiv, 1) := by decide +kernel
theorem d_W_search_83 : decode c_W_search 83 = .ok (.aload_n 0, 1) := by decide +kernel
theorem d_W_search_84 : decode c_W_search 84 = .ok (.getfield 41, 3) := by decide +kernel
theorem d_W_search_87 : decode c_W_search 87 = .ok (.iload 4, 2) := by decide +kernel
theorem d_W_search_89 : decode c_W_search 89 = .ok (.invokevirtual 167, 3) := by decide +kernel
theorem d_W_search_92 : decode c_W_search 92 = .ok (.invokevirtual 156, 3) := by decide +kernel
theorem d_W_search_95 : decode c_W_search 95 = .ok (.iinc 3 1, 3) := by decide +kernel
theorem d_W_search_98 : decode c_W_search 98 = .ok (.goto (-73), 3) := by decide +kernel
theorem d_W_search_101 : decode c_W_search 101 = .ok (.return_, 1) := by decide +kernel
theorem d_W_offerStepsTo_0 : decode c_W_offerStepsTo 0 = .ok (.iconst 0, 1) := by decide +kernel
theorem d_W_offerStepsTo_1 : decode c_W_offerStepsTo 1 = .ok (.istore 5, 2) := by decide +kernel
theorem d_W_offerStepsTo_3 : decode c_W_offerStepsTo 3 = .ok (.iload 5, 2) := by decide +kernel
theorem d_W_offerStepsTo_5 : decode c_W_offerStepsTo 5 = .ok (.bipush 8, 2) := by decide +kernel
theorem d_W_offerStepsTo_7 : decode c_W_offerStepsTo 7 = .ok (.if_icmp .ge 141, 3) := by decide +kernel
theorem d_W_offerStepsTo_10 : decode c_W_offerStepsTo 10 = .ok (.aload_n 0, 1) := by decide +kernel
theorem d_W_offerStepsTo_11 : decode c_W_offerStepsTo 11 = .ok (.getfield 9, 3) := by decide +kernel
theorem d_W_offerStepsTo_14 : decode c_W_offerStepsTo 14 = .ok (.iload_n 1, 1) := by decide +kernel
theorem d_W_offerStepsTo_15 : decode c_W_offerStepsTo 15 = .ok (.iload 5, 2) := by decide +kernel
theorem d_W_offerStepsTo_17 : decode c_W_offerStepsTo 17 = .ok (.invokestatic 147, 3) := by decide +kernel
theorem d_W_offerStepsTo_20 : decode c_W_offerStepsTo 20 = .ok (.invokevirtual 119, 3) := by decide +kernel
theorem d_W_offerStepsTo_23 : decode c_W_offerStepsTo 23 = .ok (.istore 6, 2) := by decide +kernel
theorem d_W_offerStepsTo_25 : decode c_W_offerStepsTo 25 = .ok (.iload 6, 2) := by decide +kernel
theorem d_W_offerStepsTo_27 : decode c_W_offerStepsTo 27 = .ok (.bipush 8, 2) := by decide +kernel
theorem d_W_offerStepsTo_29 : decode c_W_offerStepsTo 29 = .ok (.imul, 1) := by decide +kernel
theorem d_W_offerStepsTo_30 : decode c_W_offerStepsTo 30 = .ok (.iload 5, 2) := by decide +kernel
theorem d_W_offerStepsTo_32 : decode c_W_offerStepsTo 32 = .ok (.iadd, 1) := by decide +kernel
theorem d_W_offerStepsTo_33 : decode c_W_offerStepsTo 33 = .ok (.istore 7, 2) := by decide +kernel
theorem d_W_offerStepsTo_35 : decode c_W_offerStepsTo 35 = .ok (.iload 6, 2) := by decide +kernel
theorem d_W_offerStepsTo_37 : decode c_W_offerStepsTo 37 = .ok (.iconst (-1), 1) := by decide +kernel
theorem d_W_offerStepsTo_38 : decode c_W_offerStepsTo 38 = .ok (.if_icmp .eq 104, 3) := by decide +kernel
theorem d_W_offerStepsTo_41 : decode c_W_offerStepsTo 41 = .ok (.aload_n 0, 1) := by decide +kernel
theorem d_W_offerStepsTo_42 : decode c_W_offerStepsTo 42 = .ok (.getfield 19, 3) := by decide +kernel
theorem d_W_offerStepsTo_45 : decode c_W_offerStepsTo 45 = .ok (.iload 7, 2) := by decide +kernel
theorem d_W_offerStepsTo_47 : decode c_W_offerStepsTo 47 = .ok (.iaload, 1) := by decide +kernel
theorem d_W_offerStepsTo_48 : decode c_W_offerStepsTo 48 = .ok (.iconst (-1), 1) := by decide +kernel
theorem d_W_offerStepsTo_49 : decode c_W_offerStepsTo 49 = .ok (.if_icmp .eq 93, 3) := by decide +kernel
theorem d_W_offerStepsTo_52 : decode c_W_offerStepsTo 52 = .ok (.iload_n 3, 1) := by decide +kernel
theorem d_W_offerStepsTo_53 : decode c_W_offerStepsTo 53 = .ok (.aload_n 0, 1) := by decide +kernel
theorem d_W_offerStepsTo_54 : decode c_W_offerStepsTo 54 = .ok (.getfield 23, 3) := by decide +kernel
theorem d_W_offerStepsTo_57 : decode c_W_offerStepsTo 57 = .ok (.iload 7, 2) := by decide +kernel
theorem d_W_offerStepsTo_59 : decode c_W_offerStepsTo 59 = .ok (.iaload, 1) := by decide +kernel
theorem d_W_offerStepsTo_60 : decode c_W_offerStepsTo 60 = .ok (.iadd, 1) := by decide +kernel
theorem d_W_offerStepsTo_61 : decode c_W_offerStepsTo 61 = .ok (.aload_n 0, 1) := by decide +kernel
theorem d_W_offerStepsTo_62 : decode c_W_offerStepsTo 62 = .ok (.getfield 54, 3) := by decide +kernel
theorem d_W_offerStepsTo_65 : decode c_W_offerStepsTo 65 = .ok (.if_icmp .lt 6, 3) := by decide +kernel
theorem d_W_offerStepsTo_68 : decode c_W_offerStepsTo 68 = .ok (.goto 74, 3) := by decide +kernel
theorem d_W_offerStepsTo_71 : decode c_W_offerStepsTo 71 = .ok (.iconst 0, 1) := by decide +kernel
theorem d_W_offerStepsTo_72 : decode c_W_offerStepsTo 72 = .ok (.istore 8, 2) := by decide +kernel
theorem d_W_offerStepsTo_74 : decode c_W_offerStepsTo 74 = .ok (.iload_n 2, 1) := by decide +kernel
theorem d_W_offerStepsTo_75 : decode c_W_offerStepsTo 75 = .ok (.iconst (-1), 1) := by decide +kernel
theorem d_W_offerStepsTo_76 : decode c_W_offerStepsTo 76 = .ok (.if_icmp .eq 30, 3) := by decide +kernel
theorem d_W_offerStepsTo_79 : decode c_W_offerStepsTo 79 = .ok (.aload_n 0, 1) := by decide +kernel
theorem d_W_offerStepsTo_80 : decode c_W_offerStepsTo 80 = .ok (.iload_n 1, 1) := by decide +kernel
theorem d_W_offerStepsTo_81 : decode c_W_offerStepsTo 81 = .ok (.iload 5, 2) := by decide +kernel
theorem d_W_offerStepsTo_83 : decode c_W_offerStepsTo 83 = .ok (.iload_n 2, 1) := by decide +kernel
theorem d_W_offerStepsTo_84 : decode c_W_offerStepsTo 84 = .ok (.invokevirtual 170, 3) := by decide +kernel
theorem d_W_offerStepsTo_87 : decode c_W_offerStepsTo 87 = .ok (.ifCond .ne 6, 3) := by decide +kernel
theorem d_W_offerStepsTo_90 : decode c_W_offerStepsTo 90 = .ok (.goto 52, 3) := by decide +kernel
theorem d_W_offerStepsTo_93 : decode c_W_offerStepsTo 93 = .ok (.aload_n 0, 1) := by decide +kernel
theorem d_W_offerStepsTo_94 : decode c_W_offerStepsTo 94 = .ok (.getfield 30, 3) := by decide +kernel
theorem d_W_offerStepsTo_97 : decode c_W_offerStepsTo 97 = .ok (.iload 5, 2) := by decide +kernel
theorem d_W_offerStepsTo_99 : decode c_W_offerStepsTo 99 = .ok (.iload_n 2, 1) := by decide +kernel
theorem d_W_offerStepsTo_100 : decode c_W_offerStepsTo 100 = .ok (.invokestatic 150, 3) := by decide +kernel
theorem d_W_offerStepsTo_103 : decode c_W_offerStepsTo 103 = .ok (.iaload, 1) := by decide +kernel
theorem d_W_offerStepsTo_104 : decode c_W_offerStepsTo 104 = .ok (.istore 8, 2) := by decide +kernel
theorem d_W_offerStepsTo_106 : decode c_W_offerStepsTo 106 = .ok (.aload_n 0, 1) := by decide +kernel
theorem d_W_offerStepsTo_107 : decode c_W_offerStepsTo 107 = .ok (.getfield 41, 3) := by decide +kernel
theorem d_W_offerStepsTo_110 : decode c_W_offerStepsTo 110 = .ok (.iload_n 3, 1) := by decide +kernel
theorem d_W_offerStepsTo_111 : decode c_W_offerStepsTo 111 = .ok (.aload_n 0, 1) := by decide +kernel
theorem d_W_offerStepsTo_112 : decode c_W_offerStepsTo 112 = .ok (.getfield 23, 3) := by decide +kernel
theorem d_W_offerStepsTo_115 : decode c_W_offerStepsTo 115 = .ok (.iload 7, 2) := by decide +kernel
theorem d_W_offerStepsTo_117 : decode c_W_offerStepsTo 117 = .ok (.iaload, 1) := by decide +kernel
theorem d_W_offerStepsTo_118 : decode c_W_offerStepsTo 118 = .ok (.iadd, 1) := by decide +kernel
theorem d_W_offerStepsTo_119 : decode c_W_offerStepsTo 119 = .ok (.sipush 648, 3) := by decide +kernel
theorem d_W_offerStepsTo_122 : decode c_W_offerStepsTo 122 = .ok (.imul, 1) := by decide +kernel
theorem d_W_offerStepsTo_123 : decode c_W_offerStepsTo 123 = .ok (.iload 7, 2) := by decide +kernel
theorem d_W_offerStepsTo_125 : decode c_W_offerStepsTo 125 = .ok (.iadd, 1) := by decide +kernel
theorem d_W_offerStepsTo_126 : decode c_W_offerStepsTo 126 = .ok (.iload 4, 2) := by decide +kernel
theorem d_W_offerStepsTo_128 : decode c_W_offerStepsTo 128 = .ok (.iload 8, 2) := by decide +kernel
theorem d_W_offerStepsTo_130 : decode c_W_offerStepsTo 130 = .ok (.iadd, 1) := by decide +kernel
theorem d_W_offerStepsTo_131 : decode c_W_offerStepsTo 131 = .ok (.aload_n 0, 1) := by decide +kernel
theorem d_W_offerStepsTo_132 : decode c_W_offerStepsTo 132 = .ok (.getfield 19, 3) := by decide +kernel
theorem d_W_offerStepsTo_135 : decode c_W_offerStepsTo 135 = .ok (.iload 7, 2) := by decide +kernel
theorem d_W_offerStepsTo_137 : decode c_W_offerStepsTo 137 = .ok (.iaload, 1) := by decide +kernel
theorem d_W_offerStepsTo_138 : decode c_W_offerStepsTo 138 = .ok (.iadd, 1) := by decide +kernel
theorem d_W_offerStepsTo_139 : decode c_W_offerStepsTo 139 = .ok (.invokevirtual 173, 3) := by decide +kernel
theorem d_W_offerStepsTo_142 : decode c_W_offerStepsTo 142 = .ok (.iinc 5 1, 3) := by decide +kernel
theorem d_W_offerStepsTo_145 : decode c_W_offerStepsTo 145 = .ok (.goto (-142), 3) := by decide +kernel
theorem d_W_offerStepsTo_148 : decode c_W_offerStepsTo 148 = .ok (.return_, 1) := by decide +kernel
theorem d_W_leastKey_0 : decode c_W_leastKey 0 = .ok (.ldc 176, 2) := by decide +kernel
theorem d_W_leastKey_2 : decode c_W_leastKey 2 = .ok (.istore_n 2, 1) := by decide +kernel
theorem d_W_leastKey_3 : decode c_W_leastKey 3 = .ok (.iconst 0, 1) := by decide +kernel
theorem d_W_leastKey_4 : decode c_W_leastKey 4 = .ok (.istore_n 3, 1) := by decide +kernel
theorem d_W_leastKey_5 : decode c_W_leastKey 5 = .ok (.iload_n 3, 1) := by decide +kernel
theorem d_W_leastKey_6 : decode c_W_leastKey 6 = .ok (.aload_n 0, 1) := by decide +kernel
theorem d_W_leastKey_7 : decode c_W_leastKey 7 = .ok (.getfield 54, 3) := by decide +kernel
theorem d_W_leastKey_10 : decode c_W_leastKey 10 = .ok (.if_icmp .ge 54, 3) := by decide +kernel
theorem d_W_leastKey_13 : decode c_W_leastKey 13 = .ok (.iload_n 3, 1) := by decide +kernel
theorem d_W_leastKey_14 : decode c_W_leastKey 14 = .ok (.sipush 648, 3) := by decide +kernel
theorem d_W_leastKey_17 : decode c_W_leastKey 17 = .ok (.imul, 1) := by decide +kernel
theorem d_W_leastKey_18 : decode c_W_leastKey 18 = .ok (.iload_n 1, 1) := by decide +kernel
theorem d_W_leastKey_19 : decode c_W_leastKey 19 = .ok (.bipush 8, 2) := by decide +kernel
theorem d_W_leastKey_21 : decode c_W_leastKey 21 = .ok (.imul, 1) := by decide +kernel
theorem d_W_leastKey_22 : decode c_W_leastKey 22 = .ok (.iadd, 1) := by decide +kernel
theorem d_W_leastKey_23 : decode c_W_leastKey 23 = .ok (.istore 4, 2) := by decide +kernel
theorem d_W_leastKey_25 : decode c_W_leastKey 25 = .ok (.iconst 0, 1) := by decide +kernel
theorem d_W_leastKey_26 : decode c_W_leastKey 26 = .ok (.istore 5, 2) := by decide +kernel
theorem d_W_leastKey_28 : decode c_W_leastKey 28 = .ok (.iload 5, 2) := by decide +kernel
theorem d_W_leastKey_30 : decode c_W_leastKey 30 = .ok (.bipush 8, 2) := by decide +kernel
theorem d_W_leastKey_32 : decode c_W_leastKey 32 = .ok (.if_icmp .ge 26, 3) := by decide +kernel
theorem d_W_leastKey_35 : decode c_W_leastKey 35 = .ok (.iload_n 2, 1) := by decide +kernel
theorem d_W_leastKey_36 : decode c_W_leastKey 36 = .ok (.aload_n 0, 1) := by decide +kernel
theorem d_W_leastKey_37 : decode c_W_leastKey 37 = .ok (.getfield 41, 3) := by decide +kernel
theorem d_W_leastKey_40 : decode c_W_leastKey 40 = .ok (.iload 4, 2) := by decide +kernel
theorem d_W_leastKey_42 : decode c_W_leastKey 42 = .ok (.iload 5, 2) := by decide +kernel
theorem d_W_leastKey_44 : decode c_W_leastKey 44 = .ok (.iadd, 1) := by decide +kernel
theorem d_W_leastKey_45 : decode c_W_leastKey 45 = .ok (.invokevirtual 167, 3) := by decide +kernel
theorem d_W_leastKey_48 : decode c_W_leastKey 48 = .ok (.invokestatic 177, 3) := by decide +kernel
theorem d_W_leastKey_51 : decode c_W_leastKey 51 = .ok (.istore_n 2, 1) := by decide +kernel
theorem d_W_leastKey_52 : decode c_W_leastKey 52 = .ok (.iinc 5 1, 3) := by decide +kernel
theorem d_W_leastKey_55 : decode c_W_leastKey 55 = .ok (.goto (-27), 3) := by decide +kernel
theorem d_W_leastKey_58 : decode c_W_leastKey 58 = .ok (.iinc 3 1, 3) := by decide +kernel
theorem d_W_leastKey_61 : decode c_W_leastKey 61 = .ok (.goto (-56), 3) := by decide +kernel
theorem d_W_leastKey_64 : decode c_W_leastKey 64 = .ok (.iload_n 2, 1) := by decide +kernel
theorem d_W_leastKey_65 : decode c_W_leastKey 65 = .ok (.ireturn, 1) := by decide +kernel
theorem d_W_left_0 : decode c_W_left 0 = .ok (.aload_n 0, 1) := by decide +kernel
theorem d_W_left_1 : decode c_W_left 1 = .ok (.iload_n 1, 1) := by decide +kernel
theorem d_W_left_2 : decode c_W_left 2 = .ok (.invokevirtual 182, 3) := by decide +kernel
theorem d_W_left_5 : decode c_W_left 5 = .ok (.istore_n 2, 1) := by decide +kernel
theorem d_W_left_6 : decode c_W_left 6 = .ok (.iload_n 2, 1) := by decide +kernel
theorem d_W_left_7 : decode c_W_left 7 = .ok (.ldc 176, 2) := by decide +kernel
theorem d_W_left_9 : decode c_W_left 9 = .ok (.if_icmp .ne 7, 3) := by decide +kernel
theorem d_W_left_12 : decode c_W_left 12 = .ok (.iconst (-1), 1) := by decide +kernel
theorem d_W_left_13 : decode c_W_left 13 = .ok (.goto 7, 3) := by decide +kernel
theorem d_W_left_16 : decode c_W_left 16 = .ok (.iload_n 2, 1) := by decide +kernel
theorem d_W_left_17 : decode c_W_left 17 = .ok (.bipush 10, 2) := by decide +kernel
theorem d_W_left_19 : decode c_W_left 19 = .ok (.ishr, 1) := by decide +kernel
theorem d_W_left_20 : decode c_W_left 20 = .ok (.ireturn, 1) := by decide +kernel
theorem d_W_walk_0 : decode c_W_walk 0 = .ok (.aload_n 0, 1) := by decide +kernel
theorem d_W_walk_1 : decode c_W_walk 1 = .ok (.iconst 0, 1) := by decide +kernel
theorem d_W_walk_2 : decode c_W_walk 2 = .ok (.putfield 58, 3) := by decide +kernel
theorem d_W_walk_5 : decode c_W_walk 5 = .ok (.aload_n 0, 1) := by decide +kernel
theorem d_W_walk_6 : decode c_W_walk 6 = .ok (.iload_n 1, 1) := by decide +kernel
theorem d_W_walk_7 : decode c_W_walk 7 = .ok (.invokevirtual 182, 3) := by decide +kernel
theorem d_W_walk_10 : decode c_W_walk 10 = .ok (.istore_n 3, 1) := by decide +kernel
theorem d_W_walk_11 : decode c_W_walk 11 = .ok (.iload_n 3, 1) := by decide +kernel
theorem d_W_walk_12 : decode c_W_walk 12 = .ok (.ldc 176, 2) := by decide +kernel
theorem d_W_walk_14 : decode c_W_walk 14 = .ok (.if_icmp .ne 4, 3) := by decide +kernel
theorem d_W_walk_17 : decode c_W_walk 17 = .ok (.return_, 1) := by decide +kernel
theorem d_W_walk_18 : decode c_W_walk 18 = .ok (.aload_n 0, 1) := by decide +kernel
theorem d_W_walk_19 : decode c_W_walk 19 = .ok (.getfield 45, 3) := by decide +kernel
theorem d_W_walk_22 : decode c_W_walk 22 = .ok (.iconst 0, 1) := by decide +kernel
theorem d_W_walk_23 : decode c_W_walk 23 = .ok (.iload_n 1, 1) := by decide +kernel
theorem d_W_walk_24 : decode c_W_walk 24 = .ok (.iastore, 1) := by decide +kernel
theorem d_W_walk_25 : decode c_W_walk 25 = .ok (.aload_n 0, 1) := by decide +kernel
theorem d_W_walk_26 : decode c_W_walk 26 = .ok (.iconst 1, 1) := by decide +kernel
theorem d_W_walk_27 : decode c_W_walk 27 = .ok (.putfield 58, 3) := by decide +kernel
theorem d_W_walk_30 : decode c_W_walk 30 = .ok (.iload_n 1, 1) := by decide +kernel
theorem d_W_walk_31 : decode c_W_walk 31 = .ok (.istore 4, 2) := by decide +kernel
theorem d_W_walk_33 : decode c_W_walk 33 = .ok (.iconst (-1), 1) := by decide +kernel
theorem d_W_walk_34 : decode c_W_walk 34 = .ok (.istore 5, 2) := by decide +kernel
theorem d_W_walk_36 : decode c_W_walk 36 = .ok (.iconst 1, 1) := by decide +kernel
theorem d_W_walk_37 : decode c_W_walk 37 = .ok (.istore 6, 2) := by decide +kernel
theorem d_W_walk_39 : decode c_W_walk 39 = .ok (.iload 6, 2) := by decide +kernel
theorem d_W_walk_41 : decode c_W_walk 41 = .ok (.aload_n 0, 1) := by decide +kernel
theorem d_W_walk_42 : decode c_W_walk 42 = .ok (.getfield 45, 3) := by decide +kernel
theorem d_W_walk_45 : decode c_W_walk 45 = .ok (.arraylength, 1) := by decide +kernel
theorem d_W_walk_46 : decode c_W_walk 46 = .ok (.if_icmp .ge 91, 3) := by decide +kernel
theorem d_W_walk_49 : decode c_W_walk 49 = .ok (.iload 4, 2) := by decide +kernel
theorem d_W_walk_51 : decode c_W_walk 51 = .ok (.iload_n 2, 1) := by decide +kernel
theorem d_W_walk_52 : decode c_W_walk 52 = .ok (.if_icmp .eq 85, 3) := by decide +kernel
theorem d_W_walk_55 : decode c_W_walk 55 = .ok (.aload_n 0, 1) := by decide +kernel
theorem d_W_walk_56 : decode c_W_walk 56 = .ok (.iload 4, 2) := by decide +kernel
theorem d_W_walk_58 : decode c_W_walk 58 = .ok (.iload 5, 2) := by decide +kernel
theorem d_W_walk_60 : decode c_W_walk 60 = .ok (.iload_n 3, 1) := by decide +kernel
theorem d_W_walk_61 : decode c_W_walk 61 = .ok (.invokevirtual 185, 3) := by decide +kernel
theorem d_W_walk_64 : decode c_W_walk 64 = .ok (.istore 5, 2) := by decide +kernel
theorem d_W_walk_66 : decode c_W_walk 66 = .ok (.iload 5, 2) := by decide +kernel
theorem d_W_walk_68 : decode c_W_walk 68 = .ok (.iconst (-1), 1) := by decide +kernel
theorem d_W_walk_69 : decode c_W_walk 69 = .ok (.if_icmp .ne 4, 3) := by decide +kernel
theorem d_W_walk_72 : decode c_W_walk 72 = .ok (.return_, 1) := by decide +kernel
theorem d_W_walk_73 : decode c_W_walk 73 = .ok (.iload 4, 2) := by decide +kernel
theorem d_W_walk_75 : decode c_W_walk 75 = .ok (.bipush 8, 2) := by decide +kernel
theorem d_W_walk_77 : decode c_W_walk 77 = .ok (.imul, 1) := by decide +kernel
theorem d_W_walk_78 : decode c_W_walk 78 = .ok (.iload 5, 2) := by decide +kernel
theorem d_W_walk_80 : decode c_W_walk 80 = .ok (.iadd, 1) := by decide +kernel
theorem d_W_walk_81 : decode c_W_walk 81 = .ok (.istore 7, 2) := by decide +kernel
theorem d_W_walk_83 : decode c_W_walk 83 = .ok (.aload_n 0, 1) := by decide +kernel
theorem d_W_walk_84 : decode c_W_walk 84 = .ok (.getfield 41, 3) := by decide +kernel
theorem d_W_walk_87 : decode c_W_walk 87 = .ok (.iload 7, 2) := by decide +kernel
theorem d_W_walk_89 : decode c_W_walk 89 = .ok (.invokevirtual 167, 3) := by decide +kernel
theorem d_W_walk_92 : decode c_W_walk 92 = .ok (.aload_n 0, 1) := by decide +kernel
theorem d_W_walk_93 : decode c_W_walk 93 = .ok (.getfield 19, 3) := by decide +kernel
theorem d_W_walk_96 : decode c_W_walk 96 = .ok (.iload 7, 2) := by decide +kernel
theorem d_W_walk_98 : decode c_W_walk 98 = .ok (.iaload, 1) := by decide +kernel
theorem d_W_walk_99 : decode c_W_walk 99 = .ok (.isub, 1) := by decide +kernel
theorem d_W_walk_100 : decode c_W_walk 100 = .ok (.istore_n 3, 1) := by decide +kernel
theorem d_W_walk_101 : decode c_W_walk 101 = .ok (.aload_n 0, 1) := by decide +kernel
theorem d_W_walk_102 : decode c_W_walk 102 = .ok (.getfield 9, 3) := by decide +kernel
theorem d_W_walk_105 : decode c_W_walk 105 = .ok (.iload 4, 2) := by decide +kernel
theorem d_W_walk_107 : decode c_W_walk 107 = .ok (.iload 5, 2) := by decide +kernel
theorem d_W_walk_109 : decode c_W_walk 109 = .ok (.invokevirtual 119, 3) := by decide +kernel
theorem d_W_walk_112 : decode c_W_walk 112 = .ok (.istore 4, 2) := by decide +kernel
theorem d_W_walk_114 : decode c_W_walk 114 = .ok (.aload_n 0, 1) := by decide +kernel
theorem d_W_walk_115 : decode c_W_walk 115 = .ok (.getfield 45, 3) := by decide +kernel
theorem d_W_walk_118 : decode c_W_walk 118 = .ok (.iload 6, 2) := by decide +kernel
theorem d_W_walk_120 : decode c_W_walk 120 = .ok (.iload 4, 2) := by decide +kernel
theorem d_W_walk_122 : decode c_W_walk 122 = .ok (.iastore, 1) := by decide +kernel
theorem d_W_walk_123 : decode c_W_walk 123 = .ok (.aload_n 0, 1) := by decide +kernel
theorem d_W_walk_124 : decode c_W_walk 124 = .ok (.iload 6, 2) := by decide +kernel
theorem d_W_walk_126 : decode c_W_walk 126 = .ok (.iconst 1, 1) := by decide +kernel
theorem d_W_walk_127 : decode c_W_walk 127 = .ok (.iadd, 1) := by decide +kernel
theorem d_W_walk_128 : decode c_W_walk 128 = .ok (.putfield 58, 3) := by decide +kernel
theorem d_W_walk_131 : decode c_W_walk 131 = .ok (.iinc 6 1, 3) := by decide +kernel
theorem d_W_walk_134 : decode c_W_walk 134 = .ok (.goto (-95), 3) := by decide +kernel
theorem d_W_walk_137 : decode c_W_walk 137 = .ok (.return_, 1) := by decide +kernel
theorem d_W_firstHeading_0 : decode c_W_firstHeading 0 = .ok (.iconst (-1), 1) := by decide +kernel
theorem d_W_firstHeading_1 : decode c_W_firstHeading 1 = .ok (.istore 4, 2) := by decide +kernel
theorem d_W_firstHeading_3 : decode c_W_firstHeading 3 = .ok (.bipush 81, 2) := by decide +kernel
theorem d_W_firstHeading_5 : decode c_W_firstHeading 5 = .ok (.istore 5, 2) := by decide +kernel
theorem d_W_firstHeading_7 : decode c_W_firstHeading 7 = .ok (.iconst 0, 1) := by decide +kernel
theorem d_W_firstHeading_8 : decode c_W_firstHeading 8 = .ok (.istore 6, 2) := by decide +kernel
theorem d_W_firstHeading_10 : decode c_W_firstHeading 10 = .ok (.iload 6, 2) := by decide +kernel
theorem d_W_firstHeading_12 : decode c_W_firstHeading 12 = .ok (.bipush 8, 2) := by decide +kernel
theorem d_W_firstHeading_14 : decode c_W_firstHeading 14 = .ok (.if_icmp .ge 113, 3) := by decide +kernel
theorem d_W_firstHeading_17 : decode c_W_firstHeading 17 = .ok (.iload_n 1, 1) := by decide +kernel
theorem d_W_firstHeading_18 : decode c_W_firstHeading 18 = .ok (.bipush 8, 2) := by decide +kernel
theorem d_W_firstHeading_20 : decode c_W_firstHeading 20 = .ok (.imul, 1) := by decide +kernel
theorem d_W_firstHeading_21 : decode c_W_firstHeading 21 = .ok (.iload 6, 2) := by decide +kernel
theorem d_W_firstHeading_23 : decode c_W_firstHeading 23 = .ok (.iadd, 1) := by decide +kernel
theorem d_W_firstHeading_24 : decode c_W_firstHeading 24 = .ok (.istore 7, 2) := by decide +kernel
theorem d_W_firstHeading_26 : decode c_W_firstHeading 26 = .ok (.aload_n 0, 1) := by decide +kernel
theorem d_W_firstHeading_27 : decode c_W_firstHeading 27 = .ok (.getfield 19, 3) := by decide +kernel
theorem d_W_firstHeading_30 : decode c_W_firstHeading 30 = .ok (.iload 7, 2) := by decide +kernel
theorem d_W_firstHeading_32 : decode c_W_firstHeading 32 = .ok (.iaload, 1) := by decide +kernel
theorem d_W_firstHeading_33 : decode c_W_firstHeading 33 = .ok (.iconst (-1), 1) := by decide +kernel
theorem d_W_firstHeading_34 : decode c_W_firstHeading 34 = .ok (.if_icmp .eq 87, 3) := by decide +kernel
theorem d_W_firstHeading_37 : decode c_W_firstHeading 37 = .ok (.iload_n 2, 1) := by decide +kernel
theorem d_W_firstHeading_38 : decode c_W_firstHeading 38 = .ok (.iconst (-1), 1) := by decide +kernel
theorem d_W_firstHeading_39 : decode c_W_firstHeading 39 = .ok (.if_icmp .eq 17, 3) := by decide +kernel
theorem d_W_firstHeading_42 : decode c_W_firstHeading 42 = .ok (.aload_n 0, 1) := by decide +kernel
theorem d_W_firstHeading_43 : decode c_W_firstHeading 43 = .ok (.iload_n 1, 1) := by decide +kernel
theorem d_W_firstHeading_44 : decode c_W_firstHeading 44 = .ok (.iload_n 2, 1) := by decide +kernel
theorem d_W_firstHeading_45 : decode c_W_firstHeading 45 = .ok (.iload 6, 2) := by decide +kernel
theorem d_W_firstHeading_47 : decode c_W_firstHeading 47 = .ok (.invokevirtual 170, 3) := by decide +kernel
theorem d_W_firstHeading_50 : decode c_W_firstHeading 50 = .ok (.ifCond .ne 6, 3) := by decide +kernel
theorem d_W_firstHeading_53 : decode c_W_firstHeading 53 = .ok (.goto 68, 3) := by decide +kernel
theorem d_W_firstHeading_56 : decode c_W_firstHeading 56 = .ok (.iload_n 2, 1) := by decide +kernel
theorem d_W_firstHeading_57 : decode c_W_firstHeading 57 = .ok (.iconst (-1), 1) := by decide +kernel
theorem d_W_firstHeading_58 : decode c_W_firstHeading 58 = .ok (.if_icmp .ne 7, 3) := by decide +kernel
theorem d_W_firstHeading_61 : decode c_W_firstHeading 61 = .ok (.iconst 0, 1) := by decide +kernel
theorem d_W_firstHeading_62 : decode c_W_firstHeading 62 = .ok (.goto 14, 3) := by decide +kernel
theorem d_W_firstHeading_65 : decode c_W_firstHeading 65 = .ok (.aload_n 0, 1) := by decide +kernel
theorem d_W_firstHeading_66 : decode c_W_firstHeading 66 = .ok (.getfield 30, 3) := by decide +kernel
theorem d_W_firstHeading_69 : decode c_W_firstHeading 69 = .ok (.iload_n 2, 1) := by decide +kernel
theorem d_W_firstHeading_70 : decode c_W_firstHeading 70 = .ok (.iload 6, 2) := by decide +kernel
theorem d_W_firstHeading_72 : decode c_W_firstHeading 72 = .ok (.invokestatic 150, 3) := by decide +kernel
theorem d_W_firstHeading_75 : decode c_W_firstHeading 75 = .ok (.iaload, 1) := by decide +kernel
theorem d_W_firstHeading_76 : decode c_W_firstHeading 76 = .ok (.istore 8, 2) := by decide +kernel
theorem d_W_firstHeading_78 : decode c_W_firstHeading 78 = .ok (.aload_n 0, 1) := by decide +kernel
theorem d_W_firstHeading_79 : decode c_W_firstHeading 79 = .ok (.getfield 9, 3) := by decide +kernel
theorem d_W_firstHeading_82 : decode c_W_firstHeading 82 = .ok (.iload_n 1, 1) := by decide +kernel
theorem d_W_firstHeading_83 : decode c_W_firstHeading 83 = .ok (.iload 6, 2) := by decide +kernel
theorem d_W_firstHeading_85 : decode c_W_firstHeading 85 = .ok (.invokevirtual 119, 3) := by decide +kernel
theorem d_W_firstHeading_88 : decode c_W_firstHeading 88 = .ok (.istore 9, 2) := by decide +kernel
theorem d_W_firstHeading_90 : decode c_W_firstHeading 90 = .ok (.aload_n 0, 1) := by decide +kernel
theorem d_W_firstHeading_91 : decode c_W_firstHeading 91 = .ok (.getfield 41, 3) := by decide +kernel
theorem d_W_firstHeading_94 : decode c_W_firstHeading 94 = .ok (.iload 7, 2) := by decide +kernel
theorem d_W_firstHeading_96 : decode c_W_firstHeading 96 = .ok (.invokevirtual 167, 3) := by decide +kernel
theorem d_W_firstHeading_99 : decode c_W_firstHeading 99 = .ok (.iload 8, 2) := by decide +kernel
theorem d_W_firstHeading_101 : decode c_W_firstHeading 101 = .ok (.iadd, 1) := by decide +kernel
theorem d_W_firstHeading_102 : decode c_W_firstHeading 102 = .ok (.iload_n 3, 1) := by decide +kernel
theorem d_W_firstHeading_103 : decode c_W_firstHeading 103 = .ok (.if_icmp .ne 18, 3) := by decide +kernel
theorem d_W_firstHeading_106 : decode c_W_firstHeading 106 = .ok (.iload 9, 2) := by decide +kernel
theorem d_W_firstHeading_108 : decode c_W_firstHeading 108 = .ok (.iload 5, 2) := by decide +kernel
theorem d_W_firstHeading_110 : decode c_W_firstHeading 110 = .ok (.if_icmp .ge 11, 3) := by decide +kernel
theorem d_W_firstHeading_113 : decode c_W_firstHeading 113 = .ok (.iload 6, 2) := by decide +kernel
theorem d_W_firstHeading_115 : decode c_W_firstHeading 115 = .ok (.istore 4, 2) := by decide +kernel
theorem d_W_firstHeading_117 : decode c_W_firstHeading 117 = .ok (.iload 9, 2) := by decide +kernel
theorem d_W_firstHeading_119 : decode c_W_firstHeading 119 = .ok (.istore 5, 2) := by decide +kernel
theorem d_W_firstHeading_121 : decode c_W_firstHeading 121 = .ok (.iinc 6 1, 3) := by decide +kernel
theorem d_W_firstHeading_124 : decode c_W_firstHeading 124 = .ok (.goto (-114), 3) := by decide +kernel
theorem d_W_firstHeading_127 : decode c_W_firstHeading 127 = .ok (.iload 4, 2) := by decide +kernel
theorem d_W_firstHeading_129 : decode c_W_firstHeading 129 = .ok (.ireturn, 1) := by decide +kernel
theorem d_W_spread_0 : decode c_W_spread 0 = .ok (.aload_n 0, 1) := by decide +kernel
theorem d_W_spread_1 : decode c_W_spread 1 = .ok (.getfield 48, 3) := by decide +kernel
theorem d_W_spread_4 : decode c_W_spread 4 = .ok (.iconst 0, 1) := by decide +kernel
theorem d_W_spread_5 : decode c_W_spread 5 = .ok (.invokestatic 132, 3) := by decide +kernel
theorem d_W_spread_8 : decode c_W_spread 8 = .ok (.aload_n 3, 1) := by decide +kernel
theorem d_W_spread_9 : decode c_W_spread 9 = .ok (.iconst 0, 1) := by decide +kernel
theorem d_W_spread_10 : decode c_W_spread 10 = .ok (.invokestatic 132, 3) := by decide +kernel
theorem d_W_spread_13 : decode c_W_spread 13 = .ok (.aload_n 0, 1) := by decide +kernel
theorem d_W_spread_14 : decode c_W_spread 14 = .ok (.iload_n 1, 1) := by decide +kernel
theorem d_W_spread_15 : decode c_W_spread 15 = .ok (.iconst (-1), 1) := by decide +kernel
theorem d_W_spread_16 : decode c_W_spread 16 = .ok (.iconst 0, 1) := by decide +kernel
theorem d_W_spread_17 : decode c_W_spread 17 = .ok (.invokevirtual 188, 3) := by decide +kernel
theorem d_W_spread_20 : decode c_W_spread 20 = .ok (.istore 4, 2) := by decide +kernel
theorem d_W_spread_22 : decode c_W_spread 22 = .ok (.iconst 0, 1) := by decide +kernel
theorem d_W_spread_23 : decode c_W_spread 23 = .ok (.istore 5, 2) := by decide +kernel
theorem d_W_spread_25 : decode c_W_spread 25 = .ok (.iload 5, 2) := by decide +kernel
theorem d_W_spread_27 : decode c_W_spread 27 = .ok (.iload 4, 2) := by decide +kernel
theorem d_W_spread_29 : decode c_W_spread 29 = .ok (.if_icmp .ge 75, 3) := by decide +kernel
theorem d_W_spread_32 : decode c_W_spread 32 = .ok (.iload 5, 2) := by decide +kernel
theorem d_W_spread_34 : decode c_W_spread 34 = .ok (.sipush 648, 3) := by decide +kernel
theorem d_W_spread_37 : decode c_W_spread 37 = .ok (.if_icmp .ge 67, 3) := by decide +kernel
theorem d_W_spread_40 : decode c_W_spread 40 = .ok (.aload_n 0, 1) := by decide +kernel
theorem d_W_spread_41 : decode c_W_spread 41 = .ok (.getfield 51, 3) := by decide +kernel
theorem d_W_spread_44 : decode c_W_spread 44 = .ok (.iload 5, 2) := by decide +kernel
theorem d_W_spread_46 : decode c_W_spread 46 = .ok (.iaload, 1) := by decide +kernel
theorem d_W_spread_47 : decode c_W_spread 47 = .ok (.bipush 7, 2) := by decide +kernel
theorem d_W_spread_49 : decode c_W_spread 49 = .ok (.iand, 1) := by decide +kernel
theorem d_W_spread_50 : decode c_W_spread 50 = .ok (.istore 6, 2) := by decide +kernel
theorem d_W_spread_52 : decode c_W_spread 52 = .ok (.aload_n 0, 1) := by decide +kernel
theorem d_W_spread_53 : decode c_W_spread 53 = .ok (.getfield 9, 3) := by decide +kernel
theorem d_W_spread_56 : decode c_W_spread 56 = .ok (.aload_n 0, 1) := by decide +kernel
theorem d_W_spread_57 : decode c_W_spread 57 = .ok (.getfield 51, 3) := by decide +kernel
theorem d_W_spread_60 : decode c_W_spread 60 = .ok (.iload 5, 2) := by decide +kernel
theorem d_W_spread_62 : decode c_W_spread 62 = .ok (.iaload, 1) := by decide +kernel
theorem d_W_spread_63 : decode c_W_spread 63 = .ok (.bipush 8, 2) := by decide +kernel
theorem d_W_spread_65 : decode c_W_spread 65 = .ok (.idiv, 1) := by decide +kernel
theorem d_W_spread_66 : decode c_W_spread 66 = .ok (.iload 6, 2) := by decide +kernel
theorem d_W_spread_68 : decode c_W_spread 68 = .ok (.invokevirtual 119, 3) := by decide +kernel
theorem d_W_spread_71 : decode c_W_spread 71 = .ok (.istore 7, 2) := by decide +kernel
theorem d_W_spread_73 : decode c_W_spread 73 = .ok (.aload_n 3, 1) := by decide +kernel
theorem d_W_spread_74 : decode c_W_spread 74 = .ok (.iload 7, 2) := by decide +kernel
theorem d_W_spread_76 : decode c_W_spread 76 = .ok (.iconst 1, 1) := by decide +kernel
theorem d_W_spread_77 : decode c_W_spread 77 = .ok (.iastore, 1) := by decide +kernel
theorem d_W_spread_78 : decode c_W_spread 78 = .ok (.iload 7, 2) := by decide +kernel
theorem d_W_spread_80 : decode c_W_spread 80 = .ok (.iload_n 2, 1) := by decide +kernel
theorem d_W_spread_81 : decode c_W_spread 81 = .ok (.if_icmp .ne 5, 3) := by decide +kernel
theorem d_W_spread_84 : decode c_W_spread 84 = .ok (.iconst 1, 1) := by decide +kernel
theorem d_W_spread_85 : decode c_W_spread 85 = .ok (.ireturn, 1) := by decide +kernel
theorem d_W_spread_86 : decode c_W_spread 86 = .ok (.aload_n 0, 1) := by decide +kernel
theorem d_W_spread_87 : decode c_W_spread 87 = .ok (.iload 7, 2) := by decide +kernel
theorem d_W_spread_89 : decode c_W_spread 89 = .ok (.iload 6, 2) := by decide +kernel
theorem d_W_spread_91 : decode c_W_spread 91 = .ok (.iload 4, 2) := by decide +kernel
theorem d_W_spread_93 : decode c_W_spread 93 = .ok (.invokevirtual 188, 3) := by decide +kernel
theorem d_W_spread_96 : decode c_W_spread 96 = .ok (.istore 4, 2) := by decide +kernel
theorem d_W_spread_98 : decode c_W_spread 98 = .ok (.iinc 5 1, 3) := by decide +kernel
theorem d_W_spread_101 : decode c_W_spread 101 = .ok (.goto (-76), 3) := by decide +kernel
theorem d_W_spread_104 : decode c_W_spread 104 = .ok (.iconst 0, 1) := by decide +kernel
theorem d_W_spread_105 : decode c_W_spread 105 = .ok (.ireturn, 1) := by decide +kernel
theorem d_W_line_0 : decode c_W_line 0 = .ok (.iload_n 3, 1) := by decide +kernel
theorem d_W_line_1 : decode c_W_line 1 = .ok (.istore 4, 2) := by decide +kernel
theorem d_W_line_3 : decode c_W_line 3 = .ok (.iconst 0, 1) := by decide +kernel
theorem d_W_line_4 : decode c_W_line 4 = .ok (.istore 5, 2) := by decide +kernel
theorem d_W_line_6 : decode c_W_line 6 = .ok (.iload 5, 2) := by decide +kernel
theorem d_W_line_8 : decode c_W_line 8 = .ok (.bipush 8, 2) := by decide +kernel
theorem d_W_line_10 : decode c_W_line 10 = .ok (.if_icmp .ge 78, 3) := by decide +kernel
theorem d_W_line_13 : decode c_W_line 13 = .ok (.iload_n 1, 1) := by decide +kernel
theorem d_W_line_14 : decode c_W_line 14 = .ok (.bipush 8, 2) := by decide +kernel
theorem d_W_line_16 : decode c_W_line 16 = .ok (.imul, 1) := by decide +kernel
theorem d_W_line_17 : decode c_W_line 17 = .ok (.iload 5, 2) := by decide +kernel
theorem d_W_line_19 : decode c_W_line 19 = .ok (.iadd, 1) := by decide +kernel
theorem d_W_line_20 : decode c_W_line 20 = .ok (.istore 6, 2) := by decide +kernel
theorem d_W_line_22 : decode c_W_line 22 = .ok (.aload_n 0, 1) := by decide +kernel
theorem d_W_line_23 : decode c_W_line 23 = .ok (.getfield 19, 3) := by decide +kernel
theorem d_W_line_26 : decode c_W_line 26 = .ok (.iload 6, 2) := by decide +kernel
theorem d_W_line_28 : decode c_W_line 28 = .ok (.iaload, 1) := by decide +kernel
theorem d_W_line_29 : decode c_W_line 29 = .ok (.iconst (-1), 1) := by decide +kernel
theorem d_W_line_30 : decode c_W_line 30 = .ok (.if_icmp .eq 52, 3) := by decide +kernel
theorem d_W_line_33 : decode c_W_line 33 = .ok (.aload_n 0, 1) := by decide +kernel
theorem d_W_line_34 : decode c_W_line 34 = .ok (.getfield 48, 3) := by decide +kernel
theorem d_W_line_37 : decode c_W_line 37 = .ok (.iload 6, 2) := by decide +kernel
theorem d_W_line_39 : decode c_W_line 39 = .ok (.iaload, 1) := by decide +kernel
theorem d_W_line_40 : decode c_W_line 40 = .ok (.ifCond .eq 6, 3) := by decide +kernel
theorem d_W_line_43 : decode c_W_line 43 = .ok (.goto 39, 3) := by decide +kernel
theorem d_W_line_46 : decode c_W_line 46 = .ok (.iload_n 2, 1) := by decide +kernel
theorem d_W_line_47 : decode c_W_line 47 = .ok (.iconst (-1), 1) := by decide +kernel
theorem d_W_line_48 : decode c_W_line 48 = .ok (.if_icmp .eq 14, 3) := by decide +kernel
theorem d_W_line_51 : decode c_W_line 51 = .ok (.aload_n 0, 1) := by decide +kernel
theorem d_W_line_52 : decode c_W_line 52 = .ok (.iload_n 1, 1) := by decide +kernel
theorem d_W_line_53 : decode c_W_line 53 = .ok (.iload_n 2, 1) := by decide +kernel
theorem d_W_line_54 : decode c_W_line 54 = .ok (.iload 5, 2) := by decide +kernel
theorem d_W_line_56 : decode c_W_line 56 = .ok (.invokevirtual 170, 3) := by decide +kernel
theorem d_W_line_59 : decode c_W_line 59 = .ok (.ifCond .eq 23, 3) := by decide +kernel
theorem d_W_line_62 : decode c_W_line 62 = .ok (.aload_n 0, 1) := by decide +kernel
theorem d_W_line_63 : decode c_W_line 63 = .ok (.getfield 48, 3) := by decide +kernel
theorem d_W_line_66 : decode c_W_line 66 = .ok (.iload 6, 2) := by decide +kernel
theorem d_W_line_68 : decode c_W_line 68 = .ok (.iconst 1, 1) := by decide +kernel
theorem d_W_line_69 : decode c_W_line 69 = .ok (.iastore, 1) := by decide +kernel
theorem d_W_line_70 : decode c_W_line 70 = .ok (.aload_n 0, 1) := by decide +kernel
theorem d_W_line_71 : decode c_W_line 71 = .ok (.getfield 51, 3) := by decide +kernel
theorem d_W_line_74 : decode c_W_line 74 = .ok (.iload 4, 2) := by decide +kernel
theorem d_W_line_76 : decode c_W_line 76 = .ok (.iload 6, 2) := by decide +kernel
theorem d_W_line_78 : decode c_W_line 78 = .ok (.iastore, 1) := by decide +kernel
theorem d_W_line_79 : decode c_W_line 79 = .ok (.iinc 4 1, 3) := by decide +kernel
theorem d_W_line_82 : decode c_W_line 82 = .ok (.iinc 5 1, 3) := by decide +kernel
theorem d_W_line_85 : decode c_W_line 85 = .ok (.goto (-79), 3) := by decide +kernel
theorem d_W_line_88 : decode c_W_line 88 = .ok (.iload 4, 2) := by decide +kernel
theorem d_W_line_90 : decode c_W_line 90 = .ok (.ireturn, 1) := by decide +kernel
theorem d_N_init_0 : decode c_N_init 0 = .ok (.aload_n 0, 1) := by decide +kernel
theorem d_N_init_1 : decode c_N_init 1 = .ok (.invokespecial 3, 3) := by decide +kernel
theorem d_N_init_4 : decode c_N_init 4 = .ok (.aload_n 0, 1) := by decide +kernel
theorem d_N_init_5 : decode c_N_init 5 = .ok (.aload_n 1, 1) := by decide +kernel
theorem d_N_init_6 : decode c_N_init 6 = .ok (.putfield 9, 3) := by decide +kernel
theorem d_N_init_9 : decode c_N_init 9 = .ok (.aload_n 0, 1) := by decide +kernel
theorem d_N_init_10 : decode c_N_init 10 = .ok (.aload_n 2, 1) := by decide +kernel
theorem d_N_init_11 : decode c_N_init 11 = .ok (.putfield 15, 3) := by decide +kernel
theorem d_N_init_14 : decode c_N_init 14 = .ok (.aload_n 0, 1) := by decide +kernel
theorem d_N_init_15 : decode c_N_init 15 = .ok (.bipush 81, 2) := by decide +kernel
theorem d_N_init_17 : decode c_N_init 17 = .ok (.newarray .int, 2) := by decide +kernel
theorem d_N_init_19 : decode c_N_init 19 = .ok (.putfield 19, 3) := by decide +kernel
theorem d_N_init_22 : decode c_N_init 22 = .ok (.aload_n 0, 1) := by decide +kernel
theorem d_N_init_23 : decode c_N_init 23 = .ok (.bipush 81, 2) := by decide +kernel
theorem d_N_init_25 : decode c_N_init 25 = .ok (.newarray .int, 2) := by decide +kernel
theorem d_N_init_27 : decode c_N_init 27 = .ok (.putfield 23, 3) := by decide +kernel
theorem d_N_init_30 : decode c_N_init 30 = .ok (.aload_n 0, 1) := by decide +kernel
theorem d_N_init_31 : decode c_N_init 31 = .ok (.bipush 81, 2) := by decide +kernel
theorem d_N_init_33 : decode c_N_init 33 = .ok (.newarray .int, 2) := by decide +kernel
theorem d_N_init_35 : decode c_N_init 35 = .ok (.putfield 26, 3) := by decide +kernel
theorem d_N_init_38 : decode c_N_init 38 = .ok (.aload_n 0, 1) := by decide +kernel
theorem d_N_init_39 : decode c_N_init 39 = .ok (.bipush 6, 2) := by decide +kernel
theorem d_N_init_41 : decode c_N_init 41 = .ok (.newarray .int, 2) := by decide +kernel
theorem d_N_init_43 : decode c_N_init 43 = .ok (.putfield 29, 3) := by decide +kernel
theorem d_N_init_46 : decode c_N_init 46 = .ok (.aload_n 0, 1) := by decide +kernel
theorem d_N_init_47 : decode c_N_init 47 = .ok (.bipush 36, 2) := by decide +kernel
theorem d_N_init_49 : decode c_N_init 49 = .ok (.newarray .int, 2) := by decide +kernel
theorem d_N_init_51 : decode c_N_init 51 = .ok (.putfield 32, 3) := by decide +kernel
theorem d_N_init_54 : decode c_N_init 54 = .ok (.aload_n 0, 1) := by decide +kernel
theorem d_N_init_55 : decode c_N_init 55 = .ok (.sipush 192, 3) := by decide +kernel
theorem d_N_init_58 : decode c_N_init 58 = .ok (.newarray .int, 2) := by decide +kernel
theorem d_N_init_60 : decode c_N_init 60 = .ok (.putfield 35, 3) := by decide +kernel
theorem d_N_init_63 : decode c_N_init 63 = .ok (.aload_n 0, 1) := by decide +kernel
theorem d_N_init_64 : decode c_N_init 64 = .ok (.iconst 0, 1) := by decide +kernel
theorem d_N_init_65 : decode c_N_init 65 = .ok (.putfield 38, 3) := by decide +kernel
theorem d_N_init_68 : decode c_N_init 68 = .ok (.aload_n 0, 1) := by decide +kernel
theorem d_N_init_69 : decode c_N_init 69 = .ok (.iconst (-1), 1) := by decide +kernel
theorem d_N_init_70 : decode c_N_init 70 = .ok (.putfield 42, 3) := by decide +kernel
theorem d_N_init_73 : decode c_N_init 73 = .ok (.return_, 1) := by decide +kernel
theorem d_N_reached_0 : decode c_N_reached 0 = .ok (.aload_n 0, 1) := by decide +kernel
theorem d_N_reached_1 : decode c_N_reached 1 = .ok (.getfield 15, 3) := by decide +kernel
theorem d_N_reached_4 : decode c_N_reached 4 = .ok (.iconst 3, 1) := by decide +kernel
theorem d_N_reached_5 : decode c_N_reached 5 = .ok (.aload_n 0, 1) := by decide +kernel
theorem d_N_reached_6 : decode c_N_reached 6 = .ok (.getfield 9, 3) := by decide +kernel
theorem d_N_reached_9 : decode c_N_reached 9 = .ok (.iconst 0, 1) := by decide +kernel
theorem d_N_reached_10 : decode c_N_reached 10 = .ok (.invokevirtual 45, 3) := by decide +kernel
theorem d_N_reached_13 : decode c_N_reached 13 = .ok (.iconst 0, 1) := by decide +kernel
theorem d_N_reached_14 : decode c_N_reached 14 = .ok (.invokevirtual 51, 3) := by decide +kernel
theorem d_N_reached_17 : decode c_N_reached 17 = .ok (.aload_n 0, 1) := by decide +kernel
theorem d_N_reached_18 : decode c_N_reached 18 = .ok (.getfield 15, 3) := by decide +kernel
theorem d_N_reached_21 : decode c_N_reached 21 = .ok (.iload_n 1, 1) := by decide +kernel
theorem d_N_reached_22 : decode c_N_reached 22 = .ok (.iconst (-1), 1) := by decide +kernel
theorem d_N_reached_23 : decode c_N_reached 23 = .ok (.aload_n 0, 1) := by decide +kernel
theorem d_N_reached_24 : decode c_N_reached 24 = .ok (.getfield 19, 3) := by decide +kernel
theorem d_N_reached_27 : decode c_N_reached 27 = .ok (.invokevirtual 57, 3) := by decide +kernel
theorem d_N_reached_30 : decode c_N_reached 30 = .ok (.pop, 1) := by decide +kernel
theorem d_N_reached_31 : decode c_N_reached 31 = .ok (.iconst 0, 1) := by decide +kernel
theorem d_N_reached_32 : decode c_N_reached 32 = .ok (.istore_n 2, 1) := by decide +kernel
theorem d_N_reached_33 : decode c_N_reached 33 = .ok (.iconst 0, 1) := by decide +kernel
theorem d_N_reached_34 : decode c_N_reached 34 = .ok (.istore_n 3, 1) := by decide +kernel
theorem d_N_reached_35 : decode c_N_reached 35 = .ok (.iload_n 3, 1) := by decide +kernel
theorem d_N_reached_36 : decode c_N_reached 36 = .ok (.aload_n 0, 1) := by decide +kernel
theorem d_N_reached_37 : decode c_N_reached 37 = .ok (.getfield 9, 3) := by decide +kernel
theorem d_N_reached_40 : decode c_N_reached 40 = .ok (.invokevirtual 61, 3) := by decide +kernel
theorem d_N_reached_43 : decode c_N_reached 43 = .ok (.if_icmp .ge 27, 3) := by decide +kernel
theorem d_N_reached_46 : decode c_N_reached 46 = .ok (.iload_n 2, 1) := by decide +kernel
theorem d_N_reached_47 : decode c_N_reached 47 = .ok (.iload_n 3, 1) := by decide +kernel
theorem d_N_reached_48 : decode c_N_reached 48 = .ok (.iload_n 1, 1) := by decide +kernel
theorem d_N_reached_49 : decode c_N_reached 49 = .ok (.if_icmp .ne 7, 3) := by decide +kernel
theorem d_N_reached_52 : decode c_N_reached 52 = .ok (.iconst 0, 1) := by decide +kernel
theorem d_N_reached_53 : decode c_N_reached 53 = .ok (.goto 9, 3) := by decide +kernel
theorem d_N_reached_56 : decode c_N_reached 56 = .ok (.aload_n 0, 1) := by decide +kernel
theorem d_N_reached_57 : decode c_N_reached 57 = .ok (.getfield 19, 3) := by decide +kernel
theorem d_N_reached_60 : decode c_N_reached 60 = .ok (.iload_n 3, 1) := by decide +kernel
theorem d_N_reached_61 : decode c_N_reached 61 = .ok (.iaload, 1) := by decide +kernel
theorem d_N_reached_62 : decode c_N_reached 62 = .ok (.iadd, 1) := by decide +kernel
theorem d_N_reached_63 : decode c_N_reached 63 = .ok (.istore_n 2, 1) := by decide +kernel
theorem d_N_reached_64 : decode c_N_reached 64 = .ok (.iinc 3 1, 3) := by decide +kernel
theorem d_N_reached_67 : decode c_N_reached 67 = .ok (.goto (-32), 3) := by decide +kernel
theorem d_N_reached_70 : decode c_N_reached 70 = .ok (.iload_n 2, 1) := by decide +kernel
theorem d_N_reached_71 : decode c_N_reached 71 = .ok (.ireturn, 1) := by decide +kernel
theorem d_N_isWay_0 : decode c_N_isWay 0 = .ok (.aload_n 0, 1) := by decide +kernel
theorem d_N_isWay_1 : decode c_N_isWay 1 = .ok (.getfield 15, 3) := by decide +kernel
theorem d_N_isWay_4 : decode c_N_isWay 4 = .ok (.iconst 3, 1) := by decide +kernel
theorem d_N_isWay_5 : decode c_N_isWay 5 = .ok (.iload_n 3, 1) := by decide +kernel
theorem d_N_isWay_6 : decode c_N_isWay 6 = .ok (.iconst 0, 1) := by decide +kernel
theorem d_N_isWay_7 : decode c_N_isWay 7 = .ok (.invokevirtual 51, 3) := by decide +kernel
theorem d_N_isWay_10 : decode c_N_isWay 10 = .ok (.aload_n 0, 1) := by decide +kernel
theorem d_N_isWay_11 : decode c_N_isWay 11 = .ok (.getfield 15, 3) := by decide +kernel
theorem d_N_isWay_14 : decode c_N_isWay 14 = .ok (.iload_n 1, 1) := by decide +kernel
theorem d_N_isWay_15 : decode c_N_isWay 15 = .ok (.iload_n 2, 1) := by decide +kernel
theorem d_N_isWay_16 : decode c_N_isWay 16 = .ok (.aload_n 0, 1) := by decide +kernel
theorem d_N_isWay_17 : decode c_N_isWay 17 = .ok (.getfield 19, 3) := by decide +kernel
theorem d_N_isWay_20 : decode c_N_isWay 20 = .ok (.invokevirtual 57, 3) := by decide +kernel
theorem d_N_isWay_23 : decode c_N_isWay 23 = .ok (.ireturn, 1) := by decide +kernel
theorem d_N_leastGrade_0 : decode c_N_leastGrade 0 = .ok (.aload_n 0, 1) := by decide +kernel
theorem d_N_leastGrade_1 : decode c_N_leastGrade 1 = .ok (.iload_n 1, 1) := by decide +kernel
theorem d_N_leastGrade_2 : decode c_N_leastGrade 2 = .ok (.iload_n 2, 1) := by decide +kernel
theorem d_N_leastGrade_3 : decode c_N_leastGrade 3 = .ok (.bipush 99, 2) := by decide +kernel
theorem d_N_leastGrade_5 : decode c_N_leastGrade 5 = .ok (.invokevirtual 65, 3) := by decide +kernel
theorem d_N_leastGrade_8 : decode c_N_leastGrade 8 = .ok (.ifCond .ne 5, 3) := by decide +kernel
theorem d_N_leastGrade_11 : decode c_N_leastGrade 11 = .ok (.iconst (-1), 1) := by decide +kernel
theorem d_N_leastGrade_12 : decode c_N_leastGrade 12 = .ok (.ireturn, 1) := by decide +kernel
theorem d_N_leastGrade_13 : decode c_N_leastGrade 13 = .ok (.iconst 1, 1) := by decide +kernel
theorem d_N_leastGrade_14 : decode c_N_leastGrade 14 = .ok (.istore_n 3, 1) := by decide +kernel
theorem d_N_leastGrade_15 : decode c_N_leastGrade 15 = .ok (.bipush 99, 2) := by decide +kernel
theorem d_N_leastGrade_17 : decode c_N_leastGrade 17 = .ok (.istore 4, 2) := by decide +kernel
theorem d_N_leastGrade_19 : decode c_N_leastGrade 19 = .ok (.iload_n 3, 1) := by decide +kernel
theorem d_N_leastGrade_20 : decode c_N_leastGrade 20 = .ok (.iload 4, 2) := by decide +kernel
theorem d_N_leastGrade_22 : decode c_N_leastGrade 22 = .ok (.if_icmp .ge 37, 3) := by decide +kernel
theorem d_N_leastGrade_25 : decode c_N_leastGrade 25 = .ok (.iload_n 3, 1) := by decide +kernel
theorem d_N_leastGrade_26 : decode c_N_leastGrade 26 = .ok (.iload 4, 2) := by decide +kernel
theorem d_N_leastGrade_28 : decode c_N_leastGrade 28 = .ok (.iadd, 1) := by decide +kernel
theorem d_N_leastGrade_29 : decode c_N_leastGrade 29 = .ok (.iconst 2, 1) := by decide +kernel
theorem d_N_leastGrade_30 : decode c_N_leastGrade 30 = .ok (.idiv, 1) := by decide +kernel
theorem d_N_leastGrade_31 : decode c_N_leastGrade 31 = .ok (.istore 5, 2) := by decide +kernel
theorem d_N_leastGrade_33 : decode c_N_leastGrade 33 = .ok (.aload_n 0, 1) := by decide +kernel
theorem d_N_leastGrade_34 : decode c_N_leastGrade 34 = .ok (.iload_n 1, 1) := by decide +kernel
theorem d_N_leastGrade_35 : decode c_N_leastGrade 35 = .ok (.iload_n 2, 1) := by decide +kernel
theorem d_N_leastGrade_36 : decode c_N_leastGrade 36 = .ok (.iload 5, 2) := by decide +kernel
theorem d_N_leastGrade_38 : decode c_N_leastGrade 38 = .ok (.invokevirtual 65, 3) := by decide +kernel
theorem d_N_leastGrade_41 : decode c_N_leastGrade 41 = .ok (.ifCond .eq 10, 3) := by decide +kernel
theorem d_N_leastGrade_44 : decode c_N_leastGrade 44 = .ok (.iload 5, 2) := by decide +kernel
theorem d_N_leastGrade_46 : decode c_N_leastGrade 46 = .ok (.istore 4, 2) := by decide +kernel
theorem d_N_leastGrade_48 : decode c_N_leastGrade 48 = .ok (.goto 8, 3) := by decide +kernel
theorem d_N_leastGrade_51 : decode c_N_leastGrade 51 = .ok (.iload 5, 2) := by decide +kernel
theorem d_N_leastGrade_53 : decode c_N_leastGrade 53 = .ok (.iconst 1, 1) := by decide +kernel
theorem d_N_leastGrade_54 : decode c_N_leastGrade 54 = .ok (.iadd, 1) := by decide +kernel
theorem d_N_leastGrade_55 : decode c_N_leastGrade 55 = .ok (.istore_n 3, 1) := by decide +kernel
theorem d_N_leastGrade_56 : decode c_N_leastGrade 56 = .ok (.goto (-37), 3) := by decide +kernel
theorem d_N_leastGrade_59 : decode c_N_leastGrade 59 = .ok (.iload 4, 2) := by decide +kernel
theorem d_N_leastGrade_61 : decode c_N_leastGrade 61 = .ok (.ireturn, 1) := by decide +kernel
theorem d_N_firstGate_0 : decode c_N_firstGate 0 = .ok (.aload_n 0, 1) := by decide +kernel
theorem d_N_firstGate_1 : decode c_N_firstGate 1 = .ok (.getfield 15, 3) := by decide +kernel
theorem d_N_firstGate_4 : decode c_N_firstGate 4 = .ok (.iload_n 1, 1) := by decide +kernel
theorem d_N_firstGate_5 : decode c_N_firstGate 5 = .ok (.iload_n 2, 1) := by decide +kernel
theorem d_N_firstGate_6 : decode c_N_firstGate 6 = .ok (.iconst 3, 1) := by decide +kernel
theorem d_N_firstGate_7 : decode c_N_firstGate 7 = .ok (.invokevirtual 69, 3) := by decide +kernel
theorem d_N_firstGate_10 : decode c_N_firstGate 10 = .ok (.iconst (-1), 1) := by decide +kernel
theorem d_N_firstGate_11 : decode c_N_firstGate 11 = .ok (.if_icmp .ne 5, 3) := by decide +kernel
theorem d_N_firstGate_14 : decode c_N_firstGate 14 = .ok (.iconst (-1), 1) := by decide +kernel
theorem d_N_firstGate_15 : decode c_N_firstGate 15 = .ok (.ireturn, 1) := by decide +kernel
theorem d_N_firstGate_16 : decode c_N_firstGate 16 = .ok (.aload_n 0, 1) := by decide +kernel
theorem d_N_firstGate_17 : decode c_N_firstGate 17 = .ok (.invokevirtual 73, 3) := by decide +kernel
theorem d_N_firstGate_20 : decode c_N_firstGate 20 = .ok (.iconst 0, 1) := by decide +kernel
theorem d_N_firstGate_21 : decode c_N_firstGate 21 = .ok (.istore_n 3, 1) := by decide +kernel
theorem d_N_firstGate_22 : decode c_N_firstGate 22 = .ok (.iload_n 3, 1) := by decide +kernel
theorem d_N_firstGate_23 : decode c_N_firstGate 23 = .ok (.aload_n 0, 1) := by decide +kernel
theorem d_N_firstGate_24 : decode c_N_firstGate 24 = .ok (.getfield 9, 3) := by decide +kernel
theorem d_N_firstGate_27 : decode c_N_firstGate 27 = .ok (.invokevirtual 61, 3) := by decide +kernel
theorem d_N_firstGate_30 : decode c_N_firstGate 30 = .ok (.if_icmp .ge 40, 3) := by decide +kernel
theorem d_N_firstGate_33 : decode c_N_firstGate 33 = .ok (.aload_n 0, 1) := by decide +kernel
theorem d_N_firstGate_34 : decode c_N_firstGate 34 = .ok (.getfield 23, 3) := by decide +kernel
theorem d_N_firstGate_37 : decode c_N_firstGate 37 = .ok (.iload_n 3, 1) := by decide +kernel
theorem d_N_firstGate_38 : decode c_N_firstGate 38 = .ok (.iaload, 1) := by decide +kernel
theorem d_N_firstGate_39 : decode c_N_firstGate 39 = .ok (.ifCond .eq 25, 3) := by decide +kernel
theorem d_N_firstGate_42 : decode c_N_firstGate 42 = .ok (.iload_n 3, 1) := by decide +kernel
theorem d_N_firstGate_43 : decode c_N_firstGate 43 = .ok (.iload_n 1, 1) := by decide +kernel
theorem d_N_firstGate_44 : decode c_N_firstGate 44 = .ok (.if_icmp .eq 20, 3) := by decide +kernel
theorem d_N_firstGate_47 : decode c_N_firstGate 47 = .ok (.iload_n 3, 1) := by decide +kernel
theorem d_N_firstGate_48 : decode c_N_firstGate 48 = .ok (.iload_n 2, 1) := by decide +kernel
theorem d_N_firstGate_49 : decode c_N_firstGate 49 = .ok (.if_icmp .eq 15, 3) := by decide +kernel
theorem d_N_firstGate_52 : decode c_N_firstGate 52 = .ok (.aload_n 0, 1) := by decide +kernel
theorem d_N_firstGate_53 : decode c_N_firstGate 53 = .ok (.iload_n 3, 1) := by decide +kernel
theorem d_N_firstGate_54 : decode c_N_firstGate 54 = .ok (.iload_n 1, 1) := by decide +kernel
theorem d_N_firstGate_55 : decode c_N_firstGate 55 = .ok (.iload_n 2, 1) := by decide +kernel
theorem d_N_firstGate_56 : decode c_N_firstGate 56 = .ok (.invokevirtual 76, 3) := by decide +kernel
theorem d_N_firstGate_59 : decode c_N_firstGate 59 = .ok (.ifCond .ne 5, 3) := by decide +kernel
theorem d_N_firstGate_62 : decode c_N_firstGate 62 = .ok (.iload_n 3, 1) := by decide +kernel
theorem d_N_firstGate_63 : decode c_N_firstGate 63 = .ok (.ireturn, 1) := by decide +kernel
theorem d_N_firstGate_64 : decode c_N_firstGate 64 = .ok (.iinc 3 1, 3) := by decide +kernel
theorem d_N_firstGate_67 : decode c_N_firstGate 67 = .ok (.goto (-45), 3) := by decide +kernel
theorem d_N_firstGate_70 : decode c_N_firstGate 70 = .ok (.iconst (-1), 1) := by decide +kernel
theorem d_N_firstGate_71 : decode c_N_firstGate 71 = .ok (.ireturn, 1) := by decide +kernel
theorem d_N_markTouched_0 : decode c_N_markTouched 0 = .ok (.aload_n 0, 1) := by decide +kernel
theorem d_N_markTouched_1 : decode c_N_markTouched 1 = .ok (.getfield 15, 3) := by decide +kernel
theorem d_N_markTouched_4 : decode c_N_markTouched 4 = .ok (.invokevirtual 79, 3) := by decide +kernel
theorem d_N_markTouched_7 : decode c_N_markTouched 7 = .ok (.astore_n 1, 1) := by decide +kernel
theorem d_N_markTouched_8 : decode c_N_markTouched 8 = .ok (.aload_n 0, 1) := by decide +kernel
theorem d_N_markTouched_9 : decode c_N_markTouched 9 = .ok (.getfield 23, 3) := by decide +kernel
theorem d_N_markTouched_12 : decode c_N_markTouched 12 = .ok (.iconst 0, 1) := by decide +kernel
theorem d_N_markTouched_13 : decode c_N_markTouched 13 = .ok (.invokestatic 83, 3) := by decide +kernel
theorem d_N_markTouched_16 : decode c_N_markTouched 16 = .ok (.iconst 0, 1) := by decide +kernel
theorem d_N_markTouched_17 : decode c_N_markTouched 17 = .ok (.istore_n 2, 1) := by decide +kernel
theorem d_N_markTouched_18 : decode c_N_markTouched 18 = .ok (.iload_n 2, 1) := by decide +kernel
theorem d_N_markTouched_19 : decode c_N_markTouched 19 = .ok (.iconst 1, 1) := by decide +kernel
theorem d_N_markTouched_20 : decode c_N_markTouched 20 = .ok (.iadd, 1) := by decide +kernel
theorem d_N_markTouched_21 : decode c_N_markTouched 21 = .ok (.aload_n 0, 1) := by decide +kernel
theorem d_N_markTouched_22 : decode c_N_markTouched 22 = .ok (.getfield 15, 3) := by decide +kernel
theorem d_N_markTouched_25 : decode c_N_markTouched 25 = .ok (.invokevirtual 89, 3) := by decide +kernel
theorem d_N_markTouched_28 : decode c_N_markTouched 28 = .ok (.if_icmp .ge 83, 3) := by decide +kernel
theorem d_N_markTouched_31 : decode c_N_markTouched 31 = .ok (.aload_n 0, 1) := by decide +kernel
theorem d_N_markTouched_32 : decode c_N_markTouched 32 = .ok (.getfield 9, 3) := by decide +kernel
theorem d_N_markTouched_35 : decode c_N_markTouched 35 = .ok (.aload_n 1, 1) := by decide +kernel
theorem d_N_markTouched_36 : decode c_N_markTouched 36 = .ok (.iload_n 2, 1) := by decide +kernel
theorem d_N_markTouched_37 : decode c_N_markTouched 37 = .ok (.iaload, 1) := by decide +kernel
theorem d_N_markTouched_38 : decode c_N_markTouched 38 = .ok (.aload_n 1, 1) := by decide +kernel
theorem d_N_markTouched_39 : decode c_N_markTouched 39 = .ok (.iload_n 2, 1) := by decide +kernel
theorem d_N_markTouched_40 : decode c_N_markTouched 40 = .ok (.iconst 1, 1) := by decide +kernel
theorem d_N_markTouched_41 : decode c_N_markTouched 41 = .ok (.iadd, 1) := by decide +kernel
theorem d_N_markTouched_42 : decode c_N_markTouched 42 = .ok (.iaload, 1) := by decide +kernel
theorem d_N_markTouched_43 : decode c_N_markTouched 43 = .ok (.invokevirtual 92, 3) := by decide +kernel
theorem d_N_markTouched_46 : decode c_N_markTouched 46 = .ok (.istore_n 3, 1) := by decide +kernel
theorem d_N_markTouched_47 : decode c_N_markTouched 47 = .ok (.aload_n 0, 1) := by decide +kernel
theorem d_N_markTouched_48 : decode c_N_markTouched 48 = .ok (.getfield 23, 3) := by decide +kernel
theorem d_N_markTouched_51 : decode c_N_markTouched 51 = .ok (.aload_n 1, 1) := by decide +kernel
theorem d_N_markTouched_52 : decode c_N_markTouched 52 = .ok (.iload_n 2, 1) := by decide +kernel
theorem d_N_markTouched_53 : decode c_N_markTouched 53 = .ok (.iconst 1, 1) := by decide +kernel
theorem d_N_markTouched_54 : decode c_N_markTouched 54 = .ok (.iadd, 1) := by decide +kernel
theorem d_N_markTouched_55 : decode c_N_markTouched 55 = .ok (.iaload, 1) := by decide +kernel
theorem d_N_markTouched_56 : decode c_N_markTouched 56 = .ok (.iconst 1, 1) := by decide +kernel
theorem d_N_markTouched_57 : decode c_N_markTouched 57 = .ok (.iastore, 1) := by decide +kernel
theorem d_N_markTouched_58 : decode c_N_markTouched 58 = .ok (.iload_n 3, 1) := by decide +kernel
theorem d_N_markTouched_59 : decode c_N_markTouched 59 = .ok (.iconst 1, 1) := by decide +kernel
theorem d_N_markTouched_60 : decode c_N_markTouched 60 = .ok (.iand, 1) := by decide +kernel
theorem d_N_markTouched_61 : decode c_N_markTouched 61 = .ok (.ifCond .eq 44, 3) := by decide +kernel
theorem d_N_markTouched_64 : decode c_N_markTouched 64 = .ok (.aload_n 0, 1) := by decide +kernel
theorem d_N_markTouched_65 : decode c_N_markTouched 65 = .ok (.getfield 23, 3) := by decide +kernel
theorem d_N_markTouched_68 : decode c_N_markTouched 68 = .ok (.aload_n 0, 1) := by decide +kernel
theorem d_N_markTouched_69 : decode c_N_markTouched 69 = .ok (.getfield 9, 3) := by decide +kernel
theorem d_N_markTouched_72 : decode c_N_markTouched 72 = .ok (.aload_n 1, 1) := by decide +kernel
theorem d_N_markTouched_73 : decode c_N_markTouched 73 = .ok (.iload_n 2, 1) := by decide +kernel
theorem d_N_markTouched_74 : decode c_N_markTouched 74 = .ok (.iaload, 1) := by decide +kernel
theorem d_N_markTouched_75 : decode c_N_markTouched 75 = .ok (.iload_n 3, 1) := by decide +kernel
theorem d_N_markTouched_76 : decode c_N_markTouched 76 = .ok (.iconst 1, 1) := by decide +kernel
theorem d_N_markTouched_77 : decode c_N_markTouched 77 = .ok (.isub, 1) := by decide +kernel
theorem d_N_markTouched_78 : decode c_N_markTouched 78 = .ok (.invokevirtual 96, 3) := by decide +kernel
theorem d_N_markTouched_81 : decode c_N_markTouched 81 = .ok (.iconst 1, 1) := by decide +kernel
theorem d_N_markTouched_82 : decode c_N_markTouched 82 = .ok (.iastore, 1) := by decide +kernel
theorem d_N_markTouched_83 : decode c_N_markTouched 83 = .ok (.aload_n 0, 1) := by decide +kernel
theorem d_N_markTouched_84 : decode c_N_markTouched 84 = .ok (.getfield 23, 3) := by decide +kernel
theorem d_N_markTouched_87 : decode c_N_markTouched 87 = .ok (.aload_n 0, 1) := by decide +kernel
theorem d_N_markTouched_88 : decode c_N_markTouched 88 = .ok (.getfield 9, 3) := by decide +kernel
theorem d_N_markTouched_91 : decode c_N_markTouched 91 = .ok (.aload_n 1, 1) := by decide +kernel
theorem d_N_markTouched_92 : decode c_N_markTouched 92 = .ok (.iload_n 2, 1) := by decide +kernel
theorem d_N_markTouched_93 : decode c_N_markTouched 93 = .ok (.iaload, 1) := by decide +kernel
theorem d_N_markTouched_94 : decode c_N_markTouched 94 = .ok (.iload_n 3, 1) := by decide +kernel
theorem d_N_markTouched_95 : decode c_N_markTouched 95 = .ok (.iconst 1, 1) := by decide +kernel
theorem d_N_markTouched_96 : decode c_N_markTouched 96 = .ok (.iadd, 1) := by decide +kernel
theorem d_N_markTouched_97 : decode c_N_markTouched 97 = .ok (.bipush 7, 2) := by decide +kernel
theorem d_N_markTouched_99 : decode c_N_markTouched 99 = .ok (.iand, 1) := by decide +kernel
theorem d_N_markTouched_100 : decode c_N_markTouched 100 = .ok (.invokevirtual 96, 3) := by decide +kernel
theorem d_N_markTouched_103 : decode c_N_markTouched 103 = .ok (.iconst 1, 1) := by decide +kernel
theorem d_N_markTouched_104 : decode c_N_markTouched 104 = .ok (.iastore, 1) := by decide +kernel
theorem d_N_markTouched_105 : decode c_N_markTouched 105 = .ok (.iinc 2 1, 3) := by decide +kernel
theorem d_N_markTouched_108 : decode c_N_markTouched 108 = .ok (.goto (-90), 3) := by decide +kernel
theorem d_N_markTouched_111 : decode c_N_markTouched 111 = .ok (.return_, 1) := by decide +kernel
theorem d_N_isWayWithout_0 : decode c_N_isWayWithout 0 = .ok (.aload_n 0, 1) := by decide +kernel
theorem d_N_isWayWithout_1 : decode c_N_isWayWithout 1 = .ok (.getfield 9, 3) := by decide +kernel
theorem d_N_isWayWithout_4 : decode c_N_isWayWithout 4 = .ok (.iload_n 1, 1) := by decide +kernel
theorem d_N_isWayWithout_5 : decode c_N_isWayWithout 5 = .ok (.invokevirtual 99, 3) := by decide +kernel
theorem d_N_isWayWithout_8 : decode c_N_isWayWithout 8 = .ok (.ifCond .eq 5, 3) := by decide +kernel
theorem d_N_isWayWithout_11 : decode c_N_isWayWithout 11 = .ok (.iconst 1, 1) := by decide +kernel
theorem d_N_isWayWithout_12 : decode c_N_isWayWithout 12 = .ok (.ireturn, 1) := by decide +kernel
theorem d_N_isWayWithout_13 : decode c_N_isWayWithout 13 = .ok (.aload_n 0, 1) := by decide +kernel
theorem d_N_isWayWithout_14 : decode c_N_isWayWithout 14 = .ok (.getfield 9, 3) := by decide +kernel
theorem d_N_isWayWithout_17 : decode c_N_isWayWithout 17 = .ok (.iload_n 1, 1) := by decide +kernel
theorem d_N_isWayWithout_18 : decode c_N_isWayWithout 18 = .ok (.iconst 1, 1) := by decide +kernel
theorem d_N_isWayWithout_19 : decode c_N_isWayWithout 19 = .ok (.invokevirtual 103, 3) := by decide +kernel
theorem d_N_isWayWithout_22 : decode c_N_isWayWithout 22 = .ok (.aload_n 0, 1) := by decide +kernel
theorem d_N_isWayWithout_23 : decode c_N_isWayWithout 23 = .ok (.iload_n 2, 1) := by decide +kernel
theorem d_N_isWayWithout_24 : decode c_N_isWayWithout 24 = .ok (.iload_n 3, 1) := by decide +kernel
theorem d_N_isWayWithout_25 : decode c_N_isWayWithout 25 = .ok (.aload_n 0, 1) := by decide +kernel
theorem d_N_isWayWithout_26 : decode c_N_isWayWithout 26 = .ok (.getfield 9, 3) := by decide +kernel
theorem d_N_isWayWithout_29 : decode c_N_isWayWithout 29 = .ok (.iconst 0, 1) := by decide +kernel
theorem d_N_isWayWithout_30 : decode c_N_isWayWithout 30 = .ok (.invokevirtual 45, 3) := by decide +kernel
theorem d_N_isWayWithout_33 : decode c_N_isWayWithout 33 = .ok (.invokevirtual 65, 3) := by decide +kernel
theorem d_N_isWayWithout_36 : decode c_N_isWayWithout 36 = .ok (.istore 4, 2) := by decide +kernel
theorem d_N_isWayWithout_38 : decode c_N_isWayWithout 38 = .ok (.aload_n 0, 1) := by decide +kernel
theorem d_N_isWayWithout_39 : decode c_N_isWayWithout 39 = .ok (.getfield 9, 3) := by decide +kernel
theorem d_N_isWayWithout_42 : decode c_N_isWayWithout 42 = .ok (.iload_n 1, 1) := by decide +kernel
theorem d_N_isWayWithout_43 : decode c_N_isWayWithout 43 = .ok (.iconst 0, 1) := by decide +kernel
theorem d_N_isWayWithout_44 : decode c_N_isWayWithout 44 = .ok (.invokevirtual 103, 3) := by decide +kernel
theorem d_N_isWayWithout_47 : decode c_N_isWayWithout 47 = .ok (.iload 4, 2) := by decide +kernel
theorem d_N_isWayWithout_49 : decode c_N_isWayWithout 49 = .ok (.ireturn, 1) := by decide +kernel
theorem d_N_clearSums_0 : decode c_N_clearSums 0 = .ok (.aload_n 0, 1) := by decide +kernel
theorem d_N_clearSums_1 : decode c_N_clearSums 1 = .ok (.getfield 26, 3) := by decide +kernel
theorem d_N_clearSums_4 : decode c_N_clearSums 4 = .ok (.iconst 0, 1) := by decide +kernel
theorem d_N_clearSums_5 : decode c_N_clearSums 5 = .ok (.invokestatic 83, 3) := by decide +kernel
theorem d_N_clearSums_8 : decode c_N_clearSums 8 = .ok (.return_, 1) := by decide +kernel
theorem d_N_addCosts_0 : decode c_N_addCosts 0 = .ok (.aload_n 0, 1) := by decide +kernel
theorem d_N_addCosts_1 : decode c_N_addCosts 1 = .ok (.getfield 15, 3) := by decide +kernel
theorem d_N_addCosts_4 : decode c_N_addCosts 4 = .ok (.iload_n 1, 1) := by decide +kernel
theorem d_N_addCosts_5 : decode c_N_addCosts 5 = .ok (.invokevirtual 107, 3) := by decide +kernel
theorem d_N_addCosts_8 : decode c_N_addCosts 8 = .ok (.iconst 0, 1) := by decide +kernel
theorem d_N_addCosts_9 : decode c_N_addCosts 9 = .ok (.istore_n 2, 1) := by decide +kernel
theorem d_N_addCosts_10 : decode c_N_addCosts 10 = .ok (.iload_n 2, 1) := by decide +kernel
theorem d_N_addCosts_11 : decode c_N_addCosts 11 = .ok (.aload_n 0, 1) := by decide +kernel
theorem d_N_addCosts_12 : decode c_N_addCosts 12 = .ok (.getfield 9, 3) := by decide +kernel
theorem d_N_addCosts_15 : decode c_N_addCosts 15 = .ok (.invokevirtual 61, 3) := by decide +kernel
theorem d_N_addCosts_18 : decode c_N_addCosts 18 = .ok (.if_icmp .ge 54, 3) := by decide +kernel
theorem d_N_addCosts_21 : decode c_N_addCosts 21 = .ok (.aload_n 0, 1) := by decide +kernel
theorem d_N_addCosts_22 : decode c_N_addCosts 22 = .ok (.getfield 15, 3) := by decide +kernel
theorem d_N_addCosts_25 : decode c_N_addCosts 25 = .ok (.iload_n 2, 1) := by decide +kernel
theorem d_N_addCosts_26 : decode c_N_addCosts 26 = .ok (.iload_n 1, 1) := by decide +kernel
theorem d_N_addCosts_27 : decode c_N_addCosts 27 = .ok (.invokevirtual 111, 3) := by decide +kernel
theorem d_N_addCosts_30 : decode c_N_addCosts 30 = .ok (.istore_n 3, 1) := by decide +kernel
theorem d_N_addCosts_31 : decode c_N_addCosts 31 = .ok (.aload_n 0, 1) := by decide +kernel
theorem d_N_addCosts_32 : decode c_N_addCosts 32 = .ok (.getfield 26, 3) := by decide +kernel
theorem d_N_addCosts_35 : decode c_N_addCosts 35 = .ok (.iload_n 2, 1) := by decide +kernel
theorem d_N_addCosts_36 : decode c_N_addCosts 36 = .ok (.iload_n 3, 1) := by decide +kernel
theorem d_N_addCosts_37 : decode c_N_addCosts 37 = .ok (.iconst (-1), 1) := by decide +kernel
theorem d_N_addCosts_38 : decode c_N_addCosts 38 = .ok (.if_icmp .eq 14, 3) := by decide +kernel
theorem d_N_addCosts_41 : decode c_N_addCosts 41 = .ok (.aload_n 0, 1) := by decide +kernel
theorem d_N_addCosts_42 : decode c_N_addCosts 42 = .ok (.getfield 26, 3) := by decide +kernel
theorem d_N_addCosts_45 : decode c_N_addCosts 45 = .ok (.iload_n 2, 1) := by decide +kernel
theorem d_N_addCosts_46 : decode c_N_addCosts 46 = .ok (.iaload, 1) := by decide +kernel
theorem d_N_addCosts_47 : decode c_N_addCosts 47 = .ok (.ldc 114, 2) := by decide +kernel
theorem d_N_addCosts_49 : decode c_N_addCosts 49 = .ok (.if_icmp .ne 8, 3) := by decide +kernel
theorem d_N_addCosts_52 : decode c_N_addCosts 52 = .ok (.ldc 114, 2) := by decide +kernel
theorem d_N_addCosts_54 : decode c_N_addCosts 54 = .ok (.goto 11, 3) := by decide +kernel
theorem d_N_addCosts_57 : decode c_N_addCosts 57 = .ok (.aload_n 0, 1) := by decide +kernel
theorem d_N_addCosts_58 : decode c_N_addCosts 58 = .ok (.getfield 26, 3) := by decide +kernel
theorem d_N_addCosts_61 : decode c_N_addCosts 61 = .ok (.iload_n 2, 1) := by decide +kernel
theorem d_N_addCosts_62 : decode c_N_addCosts 62 = .ok (.iaload, 1) := by decide +kernel
theorem d_N_addCosts_63 : decode c_N_addCosts 63 = .ok (.iload_n 3, 1) := by decide +kernel
theorem d_N_addCosts_64 : decode c_N_addCosts 64 = .ok (.iadd, 1) := by decide +kernel
theorem d_N_addCosts_65 : decode c_N_addCosts 65 = .ok (.iastore, 1) := by decide +kernel
theorem d_N_addCosts_66 : decode c_N_addCosts 66 = .ok (.iinc 2 1, 3) := by decide +kernel
theorem d_N_addCosts_69 : decode c_N_addCosts 69 = .ok (.goto (-59), 3) := by decide +kernel
theorem d_N_addCosts_72 : decode c_N_addCosts 72 = .ok (.return_, 1) := by decide +kernel
theorem d_N_leastSumPlace_0 : decode c_N_leastSumPlace 0 = .ok (.iconst (-1), 1) := by decide +kernel
theorem d_N_leastSumPlace_1 : decode c_N_leastSumPlace 1 = .ok (.istore_n 1, 1) := by decide +kernel
theorem d_N_leastSumPlace_2 : decode c_N_leastSumPlace 2 = .ok (.iconst 0, 1) := by decide +kernel
theorem d_N_leastSumPlace_3 : decode c_N_leastSumPlace 3 = .ok (.istore_n 2, 1) := by decide +kernel
theorem d_N_leastSumPlace_4 : decode c_N_leastSumPlace 4 = .ok (.iload_n 2, 1) := by decide +kernel
theorem d_N_leastSumPlace_5 : decode c_N_leastSumPlace 5 = .ok (.aload_n 0, 1) := by decide +kernel
theorem d_N_leastSumPlace_6 : decode c_N_leastSumPlace 6 = .ok (.getfield 9, 3) := by decide +kernel
theorem d_N_leastSumPlace_9 : decode c_N_leastSumPlace 9 = .ok (.invokevirtual 61, 3) := by decide +kernel
theorem d_N_leastSumPlace_12 : decode c_N_leastSumPlace 12 = .ok (.if_icmp .ge 42, 3) := by decide +kernel
theorem d_N_leastSumPlace_15 : decode c_N_leastSumPlace 15 = .ok (.aload_n 0, 1) := by decide +kernel
theorem d_N_leastSumPlace_16 : decode c_N_leastSumPlace 16 = .ok (.getfield 26, 3) := by decide +kernel
theorem d_N_leastSumPlace_19 : decode c_N_leastSumPlace 19 = .ok (.iload_n 2, 1) := by decide +kernel
theorem d_N_leastSumPlace_20 : decode c_N_leastSumPlace 20 = .ok (.iaload, 1) := by decide +kernel
theorem d_N_leastSumPlace_21 : decode c_N_leastSumPlace 21 = .ok (.ldc 114, 2) := by decide +kernel
theorem d_N_leastSumPlace_23 : decode c_N_leastSumPlace 23 = .ok (.if_icmp .ge 25, 3) := by decide +kernel
theorem d_N_leastSumPlace_26 : decode c_N_leastSumPlace 26 = .ok (.iload_n 1, 1) := by decide +kernel
theorem d_N_leastSumPlace_27 : decode c_N_leastSumPlace 27 = .ok (.iconst (-1), 1) := by decide +kernel
theorem d_N_leastSumPlace_28 : decode c_N_leastSumPlace 28 = .ok (.if_icmp .eq 18, 3) := by decide +kernel
theorem d_N_leastSumPlace_31 : decode c_N_leastSumPlace 31 = .ok (.aload_n 0, 1) := by decide +kernel
theorem d_N_leastSumPlace_32 : decode c_N_leastSumPlace 32 = .ok (.getfield 26, 3) := by decide +kernel
theorem d_N_leastSumPlace_35 : decode c_N_leastSumPlace 35 = .ok (.iload_n 2, 1) := by decide +kernel
theorem d_N_leastSumPlace_36 : decode c_N_leastSumPlace 36 = .ok (.iaload, 1) := by decide +kernel
theorem d_N_leastSumPlace_37 : decode c_N_leastSumPlace 37 = .ok (.aload_n 0, 1) := by decide +kernel
theorem d_N_leastSumPlace_38 : decode c_N_leastSumPlace 38 = .ok (.getfield 26, 3) := by decide +kernel
theorem d_N_leastSumPlace_41 : decode c_N_leastSumPlace 41 = .ok (.iload_n 1, 1) := by decide +kernel
theorem d_N_leastSumPlace_42 : decode c_N_leastSumPlace 42 = .ok (.iaload, 1) := by decide +kernel
theorem d_N_leastSumPlace_43 : decode c_N_leastSumPlace 43 = .ok (.if_icmp .ge 5, 3) := by decide +kernel
theorem d_N_leastSumPlace_46 : decode c_N_leastSumPlace 46 = .ok (.iload_n 2, 1) := by decide +kernel
theorem d_N_leastSumPlace_47 : decode c_N_leastSumPlace 47 = .ok (.istore_n 1, 1) := by decide +kernel
theorem d_N_leastSumPlace_48 : decode c_N_leastSumPlace 48 = .ok (.iinc 2 1, 3) := by decide +kernel
theorem d_N_leastSumPlace_51 : decode c_N_leastSumPlace 51 = .ok (.goto (-47), 3) := by decide +kernel
theorem d_N_leastSumPlace_54 : decode c_N_leastSumPlace 54 = .ok (.iload_n 1, 1) := by decide +kernel
theorem d_N_leastSumPlace_55 : decode c_N_leastSumPlace 55 = .ok (.ireturn, 1) := by decide +kernel
theorem d_N_sumAt_0 : decode c_N_sumAt 0 = .ok (.aload_n 0, 1) := by decide +kernel
theorem d_N_sumAt_1 : decode c_N_sumAt 1 = .ok (.getfield 26, 3) := by decide +kernel
theorem d_N_sumAt_4 : decode c_N_sumAt 4 = .ok (.iload_n 1, 1) := by decide +kernel
theorem d_N_sumAt_5 : decode c_N_sumAt 5 = .ok (.iaload, 1) := by decide +kernel
theorem d_N_sumAt_6 : decode c_N_sumAt 6 = .ok (.ireturn, 1) := by decide +kernel
theorem d_N_takeRound_0 : decode c_N_takeRound 0 = .ok (.iload_n 2, 1) := by decide +kernel
theorem d_N_takeRound_1 : decode c_N_takeRound 1 = .ok (.iconst 2, 1) := by decide +kernel
theorem d_N_takeRound_2 : decode c_N_takeRound 2 = .ok (.if_icmp .lt 9, 3) := by decide +kernel
theorem d_N_takeRound_5 : decode c_N_takeRound 5 = .ok (.iload_n 2, 1) := by decide +kernel
theorem d_N_takeRound_6 : decode c_N_takeRound 6 = .ok (.bipush 6, 2) := by decide +kernel
theorem d_N_takeRound_8 : decode c_N_takeRound 8 = .ok (.if_icmp .le 5, 3) := by decide +kernel
theorem d_N_takeRound_11 : decode c_N_takeRound 11 = .ok (.iconst 0, 1) := by decide +kernel
theorem d_N_takeRound_12 : decode c_N_takeRound 12 = .ok (.ireturn, 1) := by decide +kernel
theorem d_N_takeRound_13 : decode c_N_takeRound 13 = .ok (.iconst 0, 1) := by decide +kernel
theorem d_N_takeRound_14 : decode c_N_takeRound 14 = .ok (.istore_n 3, 1) := by decide +kernel
theorem d_N_takeRound_15 : decode c_N_takeRound 15 = .ok (.iload_n 3, 1) := by decide +kernel
theorem d_N_takeRound_16 : decode c_N_takeRound 16 = .ok (.iload_n 2, 1) := by decide +kernel
theorem d_N_takeRound_17 : decode c_N_takeRound 17 = .ok (.if_icmp .ge 71, 3) := by decide +kernel
theorem d_N_takeRound_20 : decode c_N_takeRound 20 = .ok (.aload_n 0, 1) := by decide +kernel
theorem d_N_takeRound_21 : decode c_N_takeRound 21 = .ok (.getfield 29, 3) := by decide +kernel
theorem d_N_takeRound_24 : decode c_N_takeRound 24 = .ok (.iload_n 3, 1) := by decide +kernel
theorem d_N_takeRound_25 : decode c_N_takeRound 25 = .ok (.aload_n 1, 1) := by decide +kernel
theorem d_N_takeRound_26 : decode c_N_takeRound 26 = .ok (.iload_n 3, 1) := by decide +kernel
theorem d_N_takeRound_27 : decode c_N_takeRound 27 = .ok (.invokevirtual 115, 3) := by decide +kernel
theorem d_N_takeRound_30 : decode c_N_takeRound 30 = .ok (.iastore, 1) := by decide +kernel
theorem d_N_takeRound_31 : decode c_N_takeRound 31 = .ok (.aload_n 0, 1) := by decide +kernel
theorem d_N_takeRound_32 : decode c_N_takeRound 32 = .ok (.getfield 29, 3) := by decide +kernel
theorem d_N_takeRound_35 : decode c_N_takeRound 35 = .ok (.iload_n 3, 1) := by decide +kernel
theorem d_N_takeRound_36 : decode c_N_takeRound 36 = .ok (.iaload, 1) := by decide +kernel
theorem d_N_takeRound_37 : decode c_N_takeRound 37 = .ok (.aload_n 0, 1) := by decide +kernel
theorem d_N_takeRound_38 : decode c_N_takeRound 38 = .ok (.getfield 9, 3) := by decide +kernel
theorem d_N_takeRound_41 : decode c_N_takeRound 41 = .ok (.invokevirtual 61, 3) := by decide +kernel
theorem d_N_takeRound_44 : decode c_N_takeRound 44 = .ok (.if_icmp .lt 5, 3) := by decide +kernel
theorem d_N_takeRound_47 : decode c_N_takeRound 47 = .ok (.iconst 0, 1) := by decide +kernel
theorem d_N_takeRound_48 : decode c_N_takeRound 48 = .ok (.ireturn, 1) := by decide +kernel
theorem d_N_takeRound_49 : decode c_N_takeRound 49 = .ok (.iconst 0, 1) := by decide +kernel
theorem d_N_takeRound_50 : decode c_N_takeRound 50 = .ok (.istore 4, 2) := by decide +kernel
theorem d_N_takeRound_52 : decode c_N_takeRound 52 = .ok (.iload 4, 2) := by decide +kernel
theorem d_N_takeRound_54 : decode c_N_takeRound 54 = .ok (.iload_n 3, 1) := by decide +kernel
theorem d_N_takeRound_55 : decode c_N_takeRound 55 = .ok (.if_icmp .ge 27, 3) := by decide +kernel
theorem d_N_takeRound_58 : decode c_N_takeRound 58 = .ok (.aload_n 0, 1) := by decide +kernel
theorem d_N_takeRound_59 : decode c_N_takeRound 59 = .ok (.getfield 29, 3) := by decide +kernel
theorem d_N_takeRound_62 : decode c_N_takeRound 62 = .ok (.iload 4, 2) := by decide +kernel
theorem d_N_takeRound_64 : decode c_N_takeRound 64 = .ok (.iaload, 1) := by decide +kernel
theorem d_N_takeRound_65 : decode c_N_takeRound 65 = .ok (.aload_n 0, 1) := by decide +kernel
theorem d_N_takeRound_66 : decode c_N_takeRound 66 = .ok (.getfield 29, 3) := by decide +kernel
theorem d_N_takeRound_69 : decode c_N_takeRound 69 = .ok (.iload_n 3, 1) := by decide +kernel
theorem d_N_takeRound_70 : decode c_N_takeRound 70 = .ok (.iaload, 1) := by decide +kernel
theorem d_N_takeRound_71 : decode c_N_takeRound 71 = .ok (.if_icmp .ne 5, 3) := by decide +kernel
theorem d_N_takeRound_74 : decode c_N_takeRound 74 = .ok (.iconst 0, 1) := by decide +kernel
theorem d_N_takeRound_75 : decode c_N_takeRound 75 = .ok (.ireturn, 1) := by decide +kernel
theorem d_N_takeRound_76 : decode c_N_takeRound 76 = .ok (.iinc 4 1, 3) := by decide +kernel
theorem d_N_takeRound_79 : decode c_N_takeRound 79 = .ok (.goto (-27), 3) := by decide +kernel
theorem d_N_takeRound_82 : decode c_N_takeRound 82 = .ok (.iinc 3 1, 3) := by decide +kernel
theorem d_N_takeRound_85 : decode c_N_takeRound 85 = .ok (.goto (-70), 3) := by decide +kernel
theorem d_N_takeRound_88 : decode c_N_takeRound 88 = .ok (.aload_n 0, 1) := by decide +kernel
theorem d_N_takeRound_89 : decode c_N_takeRound 89 = .ok (.iload_n 2, 1) := by decide +kernel
theorem d_N_takeRound_90 : decode c_N_takeRound 90 = .ok (.putfield 38, 3) := by decide +kernel
theorem d_N_takeRound_93 : decode c_N_takeRound 93 = .ok (.iconst 1, 1) := by decide +kernel
theorem d_N_takeRound_94 : decode c_N_takeRound 94 = .ok (.ireturn, 1) := by decide +kernel
theorem d_N_leastRound_0 : decode c_N_leastRound 0 = .ok (.aload_n 0, 1) := by decide +kernel
theorem d_N_leastRound_1 : decode c_N_leastRound 1 = .ok (.invokevirtual 120, 3) := by decide +kernel
theorem d_N_leastRound_4 : decode c_N_leastRound 4 = .ok (.iconst 1, 1) := by decide +kernel
theorem d_N_leastRound_5 : decode c_N_leastRound 5 = .ok (.aload_n 0, 1) := by decide +kernel
theorem d_N_leastRound_6 : decode c_N_leastRound 6 = .ok (.getfield 38, 3) := by decide +kernel
theorem d_N_leastRound_9 : decode c_N_leastRound 9 = .ok (.iconst 1, 1) := by decide +kernel
theorem d_N_leastRound_10 : decode c_N_leastRound 10 = .ok (.isub, 1) := by decide +kernel
theorem d_N_leastRound_11 : decode c_N_leastRound 11 = .ok (.ishl, 1) := by decide +kernel
theorem d_N_leastRound_12 : decode c_N_leastRound 12 = .ok (.istore_n 1, 1) := by decide +kernel
theorem d_N_leastRound_13 : decode c_N_leastRound 13 = .ok (.aload_n 0, 1) := by decide +kernel
theorem d_N_leastRound_14 : decode c_N_leastRound 14 = .ok (.getfield 35, 3) := by decide +kernel
theorem d_N_leastRound_17 : decode c_N_leastRound 17 = .ok (.ldc 114, 2) := by decide +kernel
theorem d_N_leastRound_19 : decode c_N_leastRound 19 = .ok (.invokestatic 83, 3) := by decide +kernel
theorem d_N_leastRound_22 : decode c_N_leastRound 22 = .ok (.iconst 1, 1) := by decide +kernel
theorem d_N_leastRound_23 : decode c_N_leastRound 23 = .ok (.istore_n 2, 1) := by decide +kernel
theorem d_N_leastRound_24 : decode c_N_leastRound 24 = .ok (.iload_n 2, 1) := by decide +kernel
theorem d_N_leastRound_25 : decode c_N_leastRound 25 = .ok (.aload_n 0, 1) := by decide +kernel
theorem d_N_leastRound_26 : decode c_N_leastRound 26 = .ok (.getfield 38, 3) := by decide +kernel
theorem d_N_leastRound_29 : decode c_N_leastRound 29 = .ok (.if_icmp .ge 30, 3) := by decide +kernel
theorem d_N_leastRound_32 : decode c_N_leastRound 32 = .ok (.aload_n 0, 1) := by decide +kernel
theorem d_N_leastRound_33 : decode c_N_leastRound 33 = .ok (.getfield 35, 3) := by decide +kernel
theorem d_N_leastRound_36 : decode c_N_leastRound 36 = .ok (.iconst 1, 1) := by decide +kernel
theorem d_N_leastRound_37 : decode c_N_leastRound 37 = .ok (.iload_n 2, 1) := by decide +kernel
theorem d_N_leastRound_38 : decode c_N_leastRound 38 = .ok (.iconst 1, 1) := by decide +kernel
theorem d_N_leastRound_39 : decode c_N_leastRound 39 = .ok (.isub, 1) := by decide +kernel
theorem d_N_leastRound_40 : decode c_N_leastRound 40 = .ok (.ishl, 1) := by decide +kernel
theorem d_N_leastRound_41 : decode c_N_leastRound 41 = .ok (.bipush 6, 2) := by decide +kernel
theorem d_N_leastRound_43 : decode c_N_leastRound 43 = .ok (.imul, 1) := by decide +kernel
theorem d_N_leastRound_44 : decode c_N_leastRound 44 = .ok (.iload_n 2, 1) := by decide +kernel
theorem d_N_leastRound_45 : decode c_N_leastRound 45 = .ok (.iadd, 1) := by decide +kernel
theorem d_N_leastRound_46 : decode c_N_leastRound 46 = .ok (.aload_n 0, 1) := by decide +kernel
theorem d_N_leastRound_47 : decode c_N_leastRound 47 = .ok (.getfield 32, 3) := by decide +kernel
theorem d_N_leastRound_50 : decode c_N_leastRound 50 = .ok (.iload_n 2, 1) := by decide +kernel
theorem d_N_leastRound_51 : decode c_N_leastRound 51 = .ok (.iaload, 1) := by decide +kernel
theorem d_N_leastRound_52 : decode c_N_leastRound 52 = .ok (.iastore, 1) := by decide +kernel
theorem d_N_leastRound_53 : decode c_N_leastRound 53 = .ok (.iinc 2 1, 3) := by decide +kernel
theorem d_N_leastRound_56 : decode c_N_leastRound 56 = .ok (.goto (-32), 3) := by decide +kernel
theorem d_N_leastRound_59 : decode c_N_leastRound 59 = .ok (.iconst 1, 1) := by decide +kernel
theorem d_N_leastRound_60 : decode c_N_leastRound 60 = .ok (.istore_n 2, 1) := by decide +kernel
theorem d_N_leastRound_61 : decode c_N_leastRound 61 = .ok (.iload_n 2, 1) := by decide +kernel
theorem d_N_leastRound_62 : decode c_N_leastRound 62 = .ok (.iload_n 1, 1) := by decide +kernel
theorem d_N_leastRound_63 : decode c_N_leastRound 63 = .ok (.if_icmp .ge 31, 3) := by decide +kernel
theorem d_N_leastRound_66 : decode c_N_leastRound 66 = .ok (.iconst 1, 1) := by decide +kernel
theorem d_N_leastRound_67 : decode c_N_leastRound 67 = .ok (.istore_n 3, 1) := by decide +kernel
theorem d_N_leastRound_68 : decode c_N_leastRound 68 = .ok (.iload_n 3, 1) := by decide +kernel
theorem d_N_leastRound_69 : decode c_N_leastRound 69 = .ok (.aload_n 0, 1) := by decide +kernel
theorem d_N_leastRound_70 : decode c_N_leastRound 70 = .ok (.getfield 38, 3) := by decide +kernel
theorem d_N_leastRound_73 : decode c_N_leastRound 73 = .ok (.if_icmp .ge 15, 3) := by decide +kernel
theorem d_N_leastRound_76 : decode c_N_leastRound 76 = .ok (.aload_n 0, 1) := by decide +kernel
theorem d_N_leastRound_77 : decode c_N_leastRound 77 = .ok (.iload_n 2, 1) := by decide +kernel
theorem d_N_leastRound_78 : decode c_N_leastRound 78 = .ok (.iload_n 3, 1) := by decide +kernel
theorem d_N_leastRound_79 : decode c_N_leastRound 79 = .ok (.invokevirtual 123, 3) := by decide +kernel
theorem d_N_leastRound_82 : decode c_N_leastRound 82 = .ok (.iinc 3 1, 3) := by decide +kernel
theorem d_N_leastRound_85 : decode c_N_leastRound 85 = .ok (.goto (-17), 3) := by decide +kernel
theorem d_N_leastRound_88 : decode c_N_leastRound 88 = .ok (.iinc 2 1, 3) := by decide +kernel
theorem d_N_leastRound_91 : decode c_N_leastRound 91 = .ok (.goto (-30), 3) := by decide +kernel
theorem d_N_leastRound_94 : decode c_N_leastRound 94 = .ok (.ldc 114, 2) := by decide +kernel
theorem d_N_leastRound_96 : decode c_N_leastRound 96 = .ok (.istore_n 2, 1) := by decide +kernel
theorem d_N_leastRound_97 : decode c_N_leastRound 97 = .ok (.iconst 1, 1) := by decide +kernel
theorem d_N_leastRound_98 : decode c_N_leastRound 98 = .ok (.istore_n 3, 1) := by decide +kernel
theorem d_N_leastRound_99 : decode c_N_leastRound 99 = .ok (.iload_n 3, 1) := by decide +kernel
theorem d_N_leastRound_100 : decode c_N_leastRound 100 = .ok (.aload_n 0, 1) := by decide +kernel
theorem d_N_leastRound_101 : decode c_N_leastRound 101 = .ok (.getfield 38, 3) := by decide +kernel
theorem d_N_leastRound_104 : decode c_N_leastRound 104 = .ok (.if_icmp .ge 34, 3) := by decide +kernel
theorem d_N_leastRound_107 : decode c_N_leastRound 107 = .ok (.iload_n 2, 1) := by decide +kernel
theorem d_N_leastRound_108 : decode c_N_leastRound 108 = .ok (.aload_n 0, 1) := by decide +kernel
theorem d_N_leastRound_109 : decode c_N_leastRound 109 = .ok (.getfield 35, 3) := by decide +kernel
theorem d_N_leastRound_112 : decode c_N_leastRound 112 = .ok (.iload_n 1, 1) := by decide +kernel
theorem d_N_leastRound_113 : decode c_N_leastRound 113 = .ok (.iconst 1, 1) := by decide +kernel
theorem d_N_leastRound_114 : decode c_N_leastRound 114 = .ok (.isub, 1) := by decide +kernel
theorem d_N_leastRound_115 : decode c_N_leastRound 115 = .ok (.bipush 6, 2) := by decide +kernel
theorem d_N_leastRound_117 : decode c_N_leastRound 117 = .ok (.imul, 1) := by decide +kernel
theorem d_N_leastRound_118 : decode c_N_leastRound 118 = .ok (.iload_n 3, 1) := by decide +kernel
theorem d_N_leastRound_119 : decode c_N_leastRound 119 = .ok (.iadd, 1) := by decide +kernel
theorem d_N_leastRound_120 : decode c_N_leastRound 120 = .ok (.iaload, 1) := by decide +kernel
theorem d_N_leastRound_121 : decode c_N_leastRound 121 = .ok (.aload_n 0, 1) := by decide +kernel
theorem d_N_leastRound_122 : decode c_N_leastRound 122 = .ok (.getfield 32, 3) := by decide +kernel
theorem d_N_leastRound_125 : decode c_N_leastRound 125 = .ok (.iload_n 3, 1) := by decide +kernel
theorem d_N_leastRound_126 : decode c_N_leastRound 126 = .ok (.iaload, 1) := by decide +kernel
theorem d_N_leastRound_127 : decode c_N_leastRound 127 = .ok (.iadd, 1) := by decide +kernel
theorem d_N_leastRound_128 : decode c_N_leastRound 128 = .ok (.invokestatic 127, 3) := by decide +kernel
theorem d_N_leastRound_131 : decode c_N_leastRound 131 = .ok (.istore_n 2, 1) := by decide +kernel
theorem d_N_leastRound_132 : decode c_N_leastRound 132 = .ok (.iinc 3 1, 3) := by decide +kernel
theorem d_N_leastRound_135 : decode c_N_leastRound 135 = .ok (.goto (-36), 3) := by decide +kernel
theorem d_N_leastRound_138 : decode c_N_leastRound 138 = .ok (.iload_n 2, 1) := by decide +kernel
theorem d_N_leastRound_139 : decode c_N_leastRound 139 = .ok (.ldc 114, 2) := by decide +kernel
theorem d_N_leastRound_141 : decode c_N_leastRound 141 = .ok (.if_icmp .lt 7, 3) := by decide +kernel
theorem d_N_leastRound_144 : decode c_N_leastRound 144 = .ok (.iconst (-1), 1) := by decide +kernel
theorem d_N_leastRound_145 : decode c_N_leastRound 145 = .ok (.goto 4, 3) := by decide +kernel
theorem d_N_leastRound_148 : decode c_N_leastRound 148 = .ok (.iload_n 2, 1) := by decide +kernel
theorem d_N_leastRound_149 : decode c_N_leastRound 149 = .ok (.ireturn, 1) := by decide +kernel
theorem d_N_findLegs_0 : decode c_N_findLegs 0 = .ok (.iconst 0, 1) := by decide +kernel
theorem d_N_findLegs_1 : decode c_N_findLegs 1 = .ok (.istore_n 1, 1) := by decide +kernel
theorem d_N_findLegs_2 : decode c_N_findLegs 2 = .ok (.iload_n 1, 1) := by decide +kernel
theorem d_N_findLegs_3 : decode c_N_findLegs 3 = .ok (.aload_n 0, 1) := by decide +kernel
theorem d_N_findLegs_4 : decode c_N_findLegs 4 = .ok (.getfield 38, 3) := by decide +kernel
theorem d_N_findLegs_7 : decode c_N_findLegs 7 = .ok (.if_icmp .ge 80, 3) := by decide +kernel
theorem d_N_findLegs_10 : decode c_N_findLegs 10 = .ok (.aload_n 0, 1) := by decide +kernel
theorem d_N_findLegs_11 : decode c_N_findLegs 11 = .ok (.getfield 15, 3) := by decide +kernel
theorem d_N_findLegs_14 : decode c_N_findLegs 14 = .ok (.aload_n 0, 1) := by decide +kernel
theorem d_N_findLegs_15 : decode c_N_findLegs 15 = .ok (.getfield 29, 3) := by decide +kernel
theorem d_N_findLegs_18 : decode c_N_findLegs 18 = .ok (.iload_n 1, 1) := by decide +kernel
theorem d_N_findLegs_19 : decode c_N_findLegs 19 = .ok (.iaload, 1) := by decide +kernel
theorem d_N_findLegs_20 : decode c_N_findLegs 20 = .ok (.invokevirtual 107, 3) := by decide +kernel
theorem d_N_findLegs_23 : decode c_N_findLegs 23 = .ok (.iconst 0, 1) := by decide +kernel
theorem d_N_findLegs_24 : decode c_N_findLegs 24 = .ok (.istore_n 2, 1) := by decide +kernel
theorem d_N_findLegs_25 : decode c_N_findLegs 25 = .ok (.iload_n 2, 1) := by decide +kernel
theorem d_N_findLegs_26 : decode c_N_findLegs 26 = .ok (.aload_n 0, 1) := by decide +kernel
theorem d_N_findLegs_27 : decode c_N_findLegs 27 = .ok (.getfield 38, 3) := by decide +kernel
theorem d_N_findLegs_30 : decode c_N_findLegs 30 = .ok (.if_icmp .ge 51, 3) := by decide +kernel
theorem d_N_findLegs_33 : decode c_N_findLegs 33 = .ok (.aload_n 0, 1) := by decide +kernel
theorem d_N_findLegs_34 : decode c_N_findLegs 34 = .ok (.getfield 15, 3) := by decide +kernel
theorem d_N_findLegs_37 : decode c_N_findLegs 37 = .ok (.aload_n 0, 1) := by decide +kernel
theorem d_N_findLegs_38 : decode c_N_findLegs 38 = .ok (.getfield 29, 3) := by decide +kernel
theorem d_N_findLegs_41 : decode c_N_findLegs 41 = .ok (.iload_n 2, 1) := by decide +kernel
theorem d_N_findLegs_42 : decode c_N_findLegs 42 = .ok (.iaload, 1) := by decide +kernel
theorem d_N_findLegs_43 : decode c_N_findLegs 43 = .ok (.aload_n 0, 1) := by decide +kernel
theorem d_N_findLegs_44 : decode c_N_findLegs 44 = .ok (.getfield 29, 3) := by decide +kernel
theorem d_N_findLegs_47 : decode c_N_findLegs 47 = .ok (.iload_n 1, 1) := by decide +kernel
theorem d_N_findLegs_48 : decode c_N_findLegs 48 = .ok (.iaload, 1) := by decide +kernel
theorem d_N_findLegs_49 : decode c_N_findLegs 49 = .ok (.invokevirtual 111, 3) := by decide +kernel
theorem d_N_findLegs_52 : decode c_N_findLegs 52 = .ok (.istore_n 3, 1) := by decide +kernel
theorem d_N_findLegs_53 : decode c_N_findLegs 53 = .ok (.aload_n 0, 1) := by decide +kernel
theorem d_N_findLegs_54 : decode c_N_findLegs 54 = .ok (.getfield 32, 3) := by decide +kernel
theorem d_N_findLegs_57 : decode c_N_findLegs 57 = .ok (.iload_n 1, 1) := by decide +kernel
theorem d_N_findLegs_58 : decode c_N_findLegs 58 = .ok (.bipush 6, 2) := by decide +kernel
theorem d_N_findLegs_60 : decode c_N_findLegs 60 = .ok (.imul, 1) := by decide +kernel
theorem d_N_findLegs_61 : decode c_N_findLegs 61 = .ok (.iload_n 2, 1) := by decide +kernel
theorem d_N_findLegs_62 : decode c_N_findLegs 62 = .ok (.iadd, 1) := by decide +kernel
theorem d_N_findLegs_63 : decode c_N_findLegs 63 = .ok (.iload_n 3, 1) := by decide +kernel
theorem d_N_findLegs_64 : decode c_N_findLegs 64 = .ok (.iconst (-1), 1) := by decide +kernel
theorem d_N_findLegs_65 : decode c_N_findLegs 65 = .ok (.if_icmp .ne 8, 3) := by decide +kernel
theorem d_N_findLegs_68 : decode c_N_findLegs 68 = .ok (.ldc 114, 2) := by decide +kernel
theorem d_N_findLegs_70 : decode c_N_findLegs 70 = .ok (.goto 4, 3) := by decide +kernel
theorem d_N_findLegs_73 : decode c_N_findLegs 73 = .ok (.iload_n 3, 1) := by decide +kernel
theorem d_N_findLegs_74 : decode c_N_findLegs 74 = .ok (.iastore, 1) := by decide +kernel
theorem d_N_findLegs_75 : decode c_N_findLegs 75 = .ok (.iinc 2 1, 3) := by decide +kernel
theorem d_N_findLegs_78 : decode c_N_findLegs 78 = .ok (.goto (-53), 3) := by decide +kernel
theorem d_N_findLegs_81 : decode c_N_findLegs 81 = .ok (.iinc 1 1, 3) := by decide +kernel
theorem d_N_findLegs_84 : decode c_N_findLegs 84 = .ok (.goto (-82), 3) := by decide +kernel
theorem d_N_findLegs_87 : decode c_N_findLegs 87 = .ok (.return_, 1) := by decide +kernel
theorem d_N_extend_0 : decode c_N_extend 0 = .ok (.aload_n 0, 1) := by decide +kernel
theorem d_N_extend_1 : decode c_N_extend 1 = .ok (.getfield 35, 3) := by decide +kernel
theorem d_N_extend_4 : decode c_N_extend 4 = .ok (.iload_n 1, 1) := by decide +kernel
theorem d_N_extend_5 : decode c_N_extend 5 = .ok (.bipush 6, 2) := by decide +kernel
theorem d_N_extend_7 : decode c_N_extend 7 = .ok (.imul, 1) := by decide +kernel
theorem d_N_extend_8 : decode c_N_extend 8 = .ok (.iload_n 2, 1) := by decide +kernel
theorem d_N_extend_9 : decode c_N_extend 9 = .ok (.iadd, 1) := by decide +kernel
theorem d_N_extend_10 : decode c_N_extend 10 = .ok (.iaload, 1) := by decide +kernel
theorem d_N_extend_11 : decode c_N_extend 11 = .ok (.istore_n 3, 1) := by decide +kernel
theorem d_N_extend_12 : decode c_N_extend 12 = .ok (.iconst 1, 1) := by decide +kernel
theorem d_N_extend_13 : decode c_N_extend 13 = .ok (.istore 4, 2) := by decide +kernel
theorem d_N_extend_15 : decode c_N_extend 15 = .ok (.iload 4, 2) := by decide +kernel
theorem d_N_extend_17 : decode c_N_extend 17 = .ok (.aload_n 0, 1) := by decide +kernel
theorem d_N_extend_18 : decode c_N_extend 18 = .ok (.getfield 38, 3) := by decide +kernel
theorem d_N_extend_21 : decode c_N_extend 21 = .ok (.if_icmp .ge 84, 3) := by decide +kernel
theorem d_N_extend_24 : decode c_N_extend 24 = .ok (.iconst 1, 1) := by decide +kernel
theorem d_N_extend_25 : decode c_N_extend 25 = .ok (.iload 4, 2) := by decide +kernel
theorem d_N_extend_27 : decode c_N_extend 27 = .ok (.iconst 1, 1) := by decide +kernel
theorem d_N_extend_28 : decode c_N_extend 28 = .ok (.isub, 1) := by decide +kernel
theorem d_N_extend_29 : decode c_N_extend 29 = .ok (.ishl, 1) := by decide +kernel
theorem d_N_extend_30 : decode c_N_extend 30 = .ok (.istore 5, 2) := by decide +kernel
theorem d_N_extend_32 : decode c_N_extend 32 = .ok (.aload_n 0, 1) := by decide +kernel
theorem d_N_extend_33 : decode c_N_extend 33 = .ok (.getfield 32, 3) := by decide +kernel
theorem d_N_extend_36 : decode c_N_extend 36 = .ok (.iload_n 2, 1) := by decide +kernel
theorem d_N_extend_37 : decode c_N_extend 37 = .ok (.bipush 6, 2) := by decide +kernel
theorem d_N_extend_39 : decode c_N_extend 39 = .ok (.imul, 1) := by decide +kernel
theorem d_N_extend_40 : decode c_N_extend 40 = .ok (.iload 4, 2) := by decide +kernel
theorem d_N_extend_42 : decode c_N_extend 42 = .ok (.iadd, 1) := by decide +kernel
theorem d_N_extend_43 : decode c_N_extend 43 = .ok (.iaload, 1) := by decide +kernel
theorem d_N_extend_44 : decode c_N_extend 44 = .ok (.istore 6, 2) := by decide +kernel
theorem d_N_extend_46 : decode c_N_extend 46 = .ok (.iload_n 3, 1) := by decide +kernel
theorem d_N_extend_47 : decode c_N_extend 47 = .ok (.ldc 114, 2) := by decide +kernel
theorem d_N_extend_49 : decode c_N_extend 49 = .ok (.if_icmp .ge 50, 3) := by decide +kernel
theorem d_N_extend_52 : decode c_N_extend 52 = .ok (.iload 6, 2) := by decide +kernel
theorem d_N_extend_54 : decode c_N_extend 54 = .ok (.ldc 114, 2) := by decide +kernel
theorem d_N_extend_56 : decode c_N_extend 56 = .ok (.if_icmp .ge 43, 3) := by decide +kernel
theorem d_N_extend_59 : decode c_N_extend 59 = .ok (.iload_n 1, 1) := by decide +kernel
theorem d_N_extend_60 : decode c_N_extend 60 = .ok (.iload 5, 2) := by decide +kernel
theorem d_N_extend_62 : decode c_N_extend 62 = .ok (.iand, 1) := by decide +kernel
theorem d_N_extend_63 : decode c_N_extend 63 = .ok (.ifCond .ne 36, 3) := by decide +kernel
theorem d_N_extend_66 : decode c_N_extend 66 = .ok (.iload_n 1, 1) := by decide +kernel
theorem d_N_extend_67 : decode c_N_extend 67 = .ok (.iload 5, 2) := by decide +kernel
theorem d_N_extend_69 : decode c_N_extend 69 = .ok (.ior, 1) := by decide +kernel
theorem d_N_extend_70 : decode c_N_extend 70 = .ok (.bipush 6, 2) := by decide +kernel
theorem d_N_extend_72 : decode c_N_extend 72 = .ok (.imul, 1) := by decide +kernel
theorem d_N_extend_73 : decode c_N_extend 73 = .ok (.iload 4, 2) := by decide +kernel
theorem d_N_extend_75 : decode c_N_extend 75 = .ok (.iadd, 1) := by decide +kernel
theorem d_N_extend_76 : decode c_N_extend 76 = .ok (.istore 7, 2) := by decide +kernel
theorem d_N_extend_78 : decode c_N_extend 78 = .ok (.aload_n 0, 1) := by decide +kernel
theorem d_N_extend_79 : decode c_N_extend 79 = .ok (.getfield 35, 3) := by decide +kernel
theorem d_N_extend_82 : decode c_N_extend 82 = .ok (.iload 7, 2) := by decide +kernel
theorem d_N_extend_84 : decode c_N_extend 84 = .ok (.aload_n 0, 1) := by decide +kernel
theorem d_N_extend_85 : decode c_N_extend 85 = .ok (.getfield 35, 3) := by decide +kernel
theorem d_N_extend_88 : decode c_N_extend 88 = .ok (.iload 7, 2) := by decide +kernel
theorem d_N_extend_90 : decode c_N_extend 90 = .ok (.iaload, 1) := by decide +kernel
theorem d_N_extend_91 : decode c_N_extend 91 = .ok (.iload_n 3, 1) := by decide +kernel
theorem d_N_extend_92 : decode c_N_extend 92 = .ok (.iload 6, 2) := by decide +kernel
theorem d_N_extend_94 : decode c_N_extend 94 = .ok (.iadd, 1) := by decide +kernel
theorem d_N_extend_95 : decode c_N_extend 95 = .ok (.invokestatic 127, 3) := by decide +kernel
theorem d_N_extend_98 : decode c_N_extend 98 = .ok (.iastore, 1) := by decide +kernel
theorem d_N_extend_99 : decode c_N_extend 99 = .ok (.iinc 4 1, 3) := by decide +kernel
theorem d_N_extend_102 : decode c_N_extend 102 = .ok (.goto (-87), 3) := by decide +kernel
theorem d_N_extend_105 : decode c_N_extend 105 = .ok (.return_, 1) := by decide +kernel
theorem d_N_joiningIndex_0 : decode c_N_joiningIndex 0 = .ok (.aload_n 0, 1) := by decide +kernel
theorem d_N_joiningIndex_1 : decode c_N_joiningIndex 1 = .ok (.getfield 15, 3) := by decide +kernel
theorem d_N_joiningIndex_4 : decode c_N_joiningIndex 4 = .ok (.iload_n 1, 1) := by decide +kernel
theorem d_N_joiningIndex_5 : decode c_N_joiningIndex 5 = .ok (.invokevirtual 107, 3) := by decide +kernel
theorem d_N_joiningIndex_8 : decode c_N_joiningIndex 8 = .ok (.iconst (-1), 1) := by decide +kernel
theorem d_N_joiningIndex_9 : decode c_N_joiningIndex 9 = .ok (.istore_n 3, 1) := by decide +kernel
theorem d_N_joiningIndex_10 : decode c_N_joiningIndex 10 = .ok (.ldc 114, 2) := by decide +kernel
theorem d_N_joiningIndex_12 : decode c_N_joiningIndex 12 = .ok (.istore 4, 2) := by decide +kernel
theorem d_N_joiningIndex_14 : decode c_N_joiningIndex 14 = .ok (.iconst 0, 1) := by decide +kernel
theorem d_N_joiningIndex_15 : decode c_N_joiningIndex 15 = .ok (.istore 5, 2) := by decide +kernel
theorem d_N_joiningIndex_17 : decode c_N_joiningIndex 17 = .ok (.iload 5, 2) := by decide +kernel
theorem d_N_joiningIndex_19 : decode c_N_joiningIndex 19 = .ok (.aload_n 0, 1) := by decide +kernel
theorem d_N_joiningIndex_20 : decode c_N_joiningIndex 20 = .ok (.getfield 9, 3) := by decide +kernel
theorem d_N_joiningIndex_23 : decode c_N_joiningIndex 23 = .ok (.iload_n 2, 1) := by decide +kernel
theorem d_N_joiningIndex_24 : decode c_N_joiningIndex 24 = .ok (.invokevirtual 132, 3) := by decide +kernel
theorem d_N_joiningIndex_27 : decode c_N_joiningIndex 27 = .ok (.if_icmp .ge 49, 3) := by decide +kernel
theorem d_N_joiningIndex_30 : decode c_N_joiningIndex 30 = .ok (.aload_n 0, 1) := by decide +kernel
theorem d_N_joiningIndex_31 : decode c_N_joiningIndex 31 = .ok (.getfield 15, 3) := by decide +kernel
theorem d_N_joiningIndex_34 : decode c_N_joiningIndex 34 = .ok (.aload_n 0, 1) := by decide +kernel
theorem d_N_joiningIndex_35 : decode c_N_joiningIndex 35 = .ok (.getfield 9, 3) := by decide +kernel
theorem d_N_joiningIndex_38 : decode c_N_joiningIndex 38 = .ok (.iload_n 2, 1) := by decide +kernel
theorem d_N_joiningIndex_39 : decode c_N_joiningIndex 39 = .ok (.iload 5, 2) := by decide +kernel
theorem d_N_joiningIndex_41 : decode c_N_joiningIndex 41 = .ok (.invokevirtual 135, 3) := by decide +kernel
theorem d_N_joiningIndex_44 : decode c_N_joiningIndex 44 = .ok (.iload_n 1, 1) := by decide +kernel
theorem d_N_joiningIndex_45 : decode c_N_joiningIndex 45 = .ok (.invokevirtual 111, 3) := by decide +kernel
theorem d_N_joiningIndex_48 : decode c_N_joiningIndex 48 = .ok (.istore 6, 2) := by decide +kernel
theorem d_N_joiningIndex_50 : decode c_N_joiningIndex 50 = .ok (.iload 6, 2) := by decide +kernel
theorem d_N_joiningIndex_52 : decode c_N_joiningIndex 52 = .ok (.iconst (-1), 1) := by decide +kernel
theorem d_N_joiningIndex_53 : decode c_N_joiningIndex 53 = .ok (.if_icmp .eq 17, 3) := by decide +kernel
theorem d_N_joiningIndex_56 : decode c_N_joiningIndex 56 = .ok (.iload 6, 2) := by decide +kernel
theorem d_N_joiningIndex_58 : decode c_N_joiningIndex 58 = .ok (.iload 4, 2) := by decide +kernel
theorem d_N_joiningIndex_60 : decode c_N_joiningIndex 60 = .ok (.if_icmp .ge 10, 3) := by decide +kernel
theorem d_N_joiningIndex_63 : decode c_N_joiningIndex 63 = .ok (.iload 5, 2) := by decide +kernel
theorem d_N_joiningIndex_65 : decode c_N_joiningIndex 65 = .ok (.istore_n 3, 1) := by decide +kernel
theorem d_N_joiningIndex_66 : decode c_N_joiningIndex 66 = .ok (.iload 6, 2) := by decide +kernel
theorem d_N_joiningIndex_68 : decode c_N_joiningIndex 68 = .ok (.istore 4, 2) := by decide +kernel
theorem d_N_joiningIndex_70 : decode c_N_joiningIndex 70 = .ok (.iinc 5 1, 3) := by decide +kernel
theorem d_N_joiningIndex_73 : decode c_N_joiningIndex 73 = .ok (.goto (-56), 3) := by decide +kernel
theorem d_N_joiningIndex_76 : decode c_N_joiningIndex 76 = .ok (.iload_n 3, 1) := by decide +kernel
theorem d_N_joiningIndex_77 : decode c_N_joiningIndex 77 = .ok (.ireturn, 1) := by decide +kernel
theorem d_N_dearestStep_0 : decode c_N_dearestStep 0 = .ok (.aload_n 0, 1) := by decide +kernel
theorem d_N_dearestStep_1 : decode c_N_dearestStep 1 = .ok (.iconst (-1), 1) := by decide +kernel
theorem d_N_dearestStep_2 : decode c_N_dearestStep 2 = .ok (.putfield 42, 3) := by decide +kernel
theorem d_N_dearestStep_5 : decode c_N_dearestStep 5 = .ok (.aload_n 0, 1) := by decide +kernel
theorem d_N_dearestStep_6 : decode c_N_dearestStep 6 = .ok (.getfield 15, 3) := by decide +kernel
theorem d_N_dearestStep_9 : decode c_N_dearestStep 9 = .ok (.iload_n 1, 1) := by decide +kernel
theorem d_N_dearestStep_10 : decode c_N_dearestStep 10 = .ok (.iload_n 2, 1) := by decide +kernel
theorem d_N_dearestStep_11 : decode c_N_dearestStep 11 = .ok (.iconst 0, 1) := by decide +kernel
theorem d_N_dearestStep_12 : decode c_N_dearestStep 12 = .ok (.invokevirtual 69, 3) := by decide +kernel
theorem d_N_dearestStep_15 : decode c_N_dearestStep 15 = .ok (.iconst (-1), 1) := by decide +kernel
theorem d_N_dearestStep_16 : decode c_N_dearestStep 16 = .ok (.if_icmp .ne 5, 3) := by decide +kernel
theorem d_N_dearestStep_19 : decode c_N_dearestStep 19 = .ok (.iconst (-1), 1) := by decide +kernel
theorem d_N_dearestStep_20 : decode c_N_dearestStep 20 = .ok (.ireturn, 1) := by decide +kernel
theorem d_N_dearestStep_21 : decode c_N_dearestStep 21 = .ok (.iconst (-1), 1) := by decide +kernel
theorem d_N_dearestStep_22 : decode c_N_dearestStep 22 = .ok (.istore_n 3, 1) := by decide +kernel
theorem d_N_dearestStep_23 : decode c_N_dearestStep 23 = .ok (.aload_n 0, 1) := by decide +kernel
theorem d_N_dearestStep_24 : decode c_N_dearestStep 24 = .ok (.getfield 15, 3) := by decide +kernel
theorem d_N_dearestStep_27 : decode c_N_dearestStep 27 = .ok (.invokevirtual 89, 3) := by decide +kernel
theorem d_N_dearestStep_30 : decode c_N_dearestStep 30 = .ok (.iconst 1, 1) := by decide +kernel
theorem d_N_dearestStep_31 : decode c_N_dearestStep 31 = .ok (.isub, 1) := by decide +kernel
theorem d_N_dearestStep_32 : decode c_N_dearestStep 32 = .ok (.istore 4, 2) := by decide +kernel
theorem d_N_dearestStep_34 : decode c_N_dearestStep 34 = .ok (.iconst 0, 1) := by decide +kernel
theorem d_N_dearestStep_35 : decode c_N_dearestStep 35 = .ok (.istore 5, 2) := by decide +kernel
theorem d_N_dearestStep_37 : decode c_N_dearestStep 37 = .ok (.iload 5, 2) := by decide +kernel
theorem d_N_dearestStep_39 : decode c_N_dearestStep 39 = .ok (.iload 4, 2) := by decide +kernel
theorem d_N_dearestStep_41 : decode c_N_dearestStep 41 = .ok (.if_icmp .ge 51, 3) := by decide +kernel
theorem d_N_dearestStep_44 : decode c_N_dearestStep 44 = .ok (.aload_n 0, 1) := by decide +kernel
theorem d_N_dearestStep_45 : decode c_N_dearestStep 45 = .ok (.iload 5, 2) := by decide +kernel
theorem d_N_dearestStep_47 : decode c_N_dearestStep 47 = .ok (.iload_n 1, 1) := by decide +kernel
theorem d_N_dearestStep_48 : decode c_N_dearestStep 48 = .ok (.iload_n 2, 1) := by decide +kernel
theorem d_N_dearestStep_49 : decode c_N_dearestStep 49 = .ok (.invokevirtual 138, 3) := by decide +kernel
theorem d_N_dearestStep_52 : decode c_N_dearestStep 52 = .ok (.istore 6, 2) := by decide +kernel
theorem d_N_dearestStep_54 : decode c_N_dearestStep 54 = .ok (.iload 6, 2) := by decide +kernel
theorem d_N_dearestStep_56 : decode c_N_dearestStep 56 = .ok (.iconst (-1), 1) := by decide +kernel
theorem d_N_dearestStep_57 : decode c_N_dearestStep 57 = .ok (.if_icmp .ne 11, 3) := by decide +kernel
theorem d_N_dearestStep_60 : decode c_N_dearestStep 60 = .ok (.aload_n 0, 1) := by decide +kernel
theorem d_N_dearestStep_61 : decode c_N_dearestStep 61 = .ok (.iconst (-1), 1) := by decide +kernel
theorem d_N_dearestStep_62 : decode c_N_dearestStep 62 = .ok (.putfield 42, 3) := by decide +kernel
theorem d_N_dearestStep_65 : decode c_N_dearestStep 65 = .ok (.iload 5, 2) := by decide +kernel
theorem d_N_dearestStep_67 : decode c_N_dearestStep 67 = .ok (.ireturn, 1) := by decide +kernel
theorem d_N_dearestStep_68 : decode c_N_dearestStep 68 = .ok (.iload 6, 2) := by decide +kernel
theorem d_N_dearestStep_70 : decode c_N_dearestStep 70 = .ok (.aload_n 0, 1) := by decide +kernel
theorem d_N_dearestStep_71 : decode c_N_dearestStep 71 = .ok (.getfield 42, 3) := by decide +kernel
theorem d_N_dearestStep_74 : decode c_N_dearestStep 74 = .ok (.if_icmp .le 12, 3) := by decide +kernel
theorem d_N_dearestStep_77 : decode c_N_dearestStep 77 = .ok (.iload 5, 2) := by decide +kernel
theorem d_N_dearestStep_79 : decode c_N_dearestStep 79 = .ok (.istore_n 3, 1) := by decide +kernel
theorem d_N_dearestStep_80 : decode c_N_dearestStep 80 = .ok (.aload_n 0, 1) := by decide +kernel
theorem d_N_dearestStep_81 : decode c_N_dearestStep 81 = .ok (.iload 6, 2) := by decide +kernel
theorem d_N_dearestStep_83 : decode c_N_dearestStep 83 = .ok (.putfield 42, 3) := by decide +kernel
theorem d_N_dearestStep_86 : decode c_N_dearestStep 86 = .ok (.iinc 5 1, 3) := by decide +kernel
theorem d_N_dearestStep_89 : decode c_N_dearestStep 89 = .ok (.goto (-52), 3) := by decide +kernel
theorem d_N_dearestStep_92 : decode c_N_dearestStep 92 = .ok (.iload_n 3, 1) := by decide +kernel
theorem d_N_dearestStep_93 : decode c_N_dearestStep 93 = .ok (.ireturn, 1) := by decide +kernel
theorem d_N_dearestCost_0 : decode c_N_dearestCost 0 = .ok (.aload_n 0, 1) := by decide +kernel
theorem d_N_dearestCost_1 : decode c_N_dearestCost 1 = .ok (.getfield 42, 3) := by decide +kernel
theorem d_N_dearestCost_4 : decode c_N_dearestCost 4 = .ok (.ireturn, 1) := by decide +kernel
theorem d_N_costWithout_0 : decode c_N_costWithout 0 = .ok (.aload_n 0, 1) := by decide +kernel
theorem d_N_costWithout_1 : decode c_N_costWithout 1 = .ok (.getfield 15, 3) := by decide +kernel
theorem d_N_costWithout_4 : decode c_N_costWithout 4 = .ok (.invokevirtual 79, 3) := by decide +kernel
theorem d_N_costWithout_7 : decode c_N_costWithout 7 = .ok (.iload_n 1, 1) := by decide +kernel
theorem d_N_costWithout_8 : decode c_N_costWithout 8 = .ok (.iaload, 1) := by decide +kernel
theorem d_N_costWithout_9 : decode c_N_costWithout 9 = .ok (.istore 4, 2) := by decide +kernel
theorem d_N_costWithout_11 : decode c_N_costWithout 11 = .ok (.aload_n 0, 1) := by decide +kernel
theorem d_N_costWithout_12 : decode c_N_costWithout 12 = .ok (.getfield 15, 3) := by decide +kernel
theorem d_N_costWithout_15 : decode c_N_costWithout 15 = .ok (.invokevirtual 79, 3) := by decide +kernel
theorem d_N_costWithout_18 : decode c_N_costWithout 18 = .ok (.iload_n 1, 1) := by decide +kernel
theorem d_N_costWithout_19 : decode c_N_costWithout 19 = .ok (.iconst 1, 1) := by decide +kernel
theorem d_N_costWithout_20 : decode c_N_costWithout 20 = .ok (.iadd, 1) := by decide +kernel
theorem d_N_costWithout_21 : decode c_N_costWithout 21 = .ok (.iaload, 1) := by decide +kernel
theorem d_N_costWithout_22 : decode c_N_costWithout 22 = .ok (.istore 5, 2) := by decide +kernel
theorem d_N_costWithout_24 : decode c_N_costWithout 24 = .ok (.aload_n 0, 1) := by decide +kernel
theorem d_N_costWithout_25 : decode c_N_costWithout 25 = .ok (.getfield 9, 3) := by decide +kernel
theorem d_N_costWithout_28 : decode c_N_costWithout 28 = .ok (.iload 4, 2) := by decide +kernel
theorem d_N_costWithout_30 : decode c_N_costWithout 30 = .ok (.iload 5, 2) := by decide +kernel
theorem d_N_costWithout_32 : decode c_N_costWithout 32 = .ok (.invokevirtual 92, 3) := by decide +kernel
theorem d_N_costWithout_35 : decode c_N_costWithout 35 = .ok (.istore 6, 2) := by decide +kernel
theorem d_N_costWithout_37 : decode c_N_costWithout 37 = .ok (.aload_n 0, 1) := by decide +kernel
theorem d_N_costWithout_38 : decode c_N_costWithout 38 = .ok (.getfield 15, 3) := by decide +kernel
theorem d_N_costWithout_41 : decode c_N_costWithout 41 = .ok (.iload 4, 2) := by decide +kernel
theorem d_N_costWithout_43 : decode c_N_costWithout 43 = .ok (.iload 6, 2) := by decide +kernel
theorem d_N_costWithout_45 : decode c_N_costWithout 45 = .ok (.invokevirtual 141, 3) := by decide +kernel
theorem d_N_costWithout_48 : decode c_N_costWithout 48 = .ok (.istore 7, 2) := by decide +kernel
theorem d_N_costWithout_50 : decode c_N_costWithout 50 = .ok (.aload_n 0, 1) := by decide +kernel
theorem d_N_costWithout_51 : decode c_N_costWithout 51 = .ok (.getfield 15, 3) := by decide +kernel
theorem d_N_costWithout_54 : decode c_N_costWithout 54 = .ok (.iload 5, 2) := by decide +kernel
theorem d_N_costWithout_56 : decode c_N_costWithout 56 = .ok (.iload 6, 2) := by decide +kernel
theorem d_N_costWithout_58 : decode c_N_costWithout 58 = .ok (.invokestatic 144, 3) := by decide +kernel
theorem d_N_costWithout_61 : decode c_N_costWithout 61 = .ok (.invokevirtual 141, 3) := by decide +kernel
theorem d_N_costWithout_64 : decode c_N_costWithout 64 = .ok (.istore 8, 2) := by decide +kernel
theorem d_N_costWithout_66 : decode c_N_costWithout 66 = .ok (.aload_n 0, 1) := by decide +kernel
theorem d_N_costWithout_67 : decode c_N_costWithout 67 = .ok (.getfield 15, 3) := by decide +kernel
theorem d_N_costWithout_70 : decode c_N_costWithout 70 = .ok (.iload_n 3, 1) := by decide +kernel
theorem d_N_costWithout_71 : decode c_N_costWithout 71 = .ok (.iload_n 2, 1) := by decide +kernel
theorem d_N_costWithout_72 : decode c_N_costWithout 72 = .ok (.invokevirtual 147, 3) := by decide +kernel
theorem d_N_costWithout_75 : decode c_N_costWithout 75 = .ok (.aload_n 0, 1) := by decide +kernel
theorem d_N_costWithout_76 : decode c_N_costWithout 76 = .ok (.getfield 15, 3) := by decide +kernel
theorem d_N_costWithout_79 : decode c_N_costWithout 79 = .ok (.iload 4, 2) := by decide +kernel
theorem d_N_costWithout_81 : decode c_N_costWithout 81 = .ok (.iload 6, 2) := by decide +kernel
theorem d_N_costWithout_83 : decode c_N_costWithout 83 = .ok (.iload 7, 2) := by decide +kernel
theorem d_N_costWithout_85 : decode c_N_costWithout 85 = .ok (.invokevirtual 150, 3) := by decide +kernel
theorem d_N_costWithout_88 : decode c_N_costWithout 88 = .ok (.aload_n 0, 1) := by decide +kernel
theorem d_N_costWithout_89 : decode c_N_costWithout 89 = .ok (.getfield 15, 3) := by decide +kernel
theorem d_N_costWithout_92 : decode c_N_costWithout 92 = .ok (.iload 5, 2) := by decide +kernel
theorem d_N_costWithout_94 : decode c_N_costWithout 94 = .ok (.iload 6, 2) := by decide +kernel
theorem d_N_costWithout_96 : decode c_N_costWithout 96 = .ok (.invokestatic 144, 3) := by decide +kernel
theorem d_N_costWithout_99 : decode c_N_costWithout 99 = .ok (.iload 8, 2) := by decide +kernel
theorem d_N_costWithout_101 : decode c_N_costWithout 101 = .ok (.invokevirtual 150, 3) := by decide +kernel
theorem d_N_costWithout_104 : decode c_N_costWithout 104 = .ok (.aload_n 0, 1) := by decide +kernel
theorem d_N_costWithout_105 : decode c_N_costWithout 105 = .ok (.getfield 15, 3) := by decide +kernel
theorem d_N_costWithout_108 : decode c_N_costWithout 108 = .ok (.iload_n 2, 1) := by decide +kernel
theorem d_N_costWithout_109 : decode c_N_costWithout 109 = .ok (.invokevirtual 154, 3) := by decide +kernel
theorem d_N_costWithout_112 : decode c_N_costWithout 112 = .ok (.ireturn, 1) := by decide +kernel
theorem d_G_init_0 : decode c_G_init 0 = .ok (.aload_n 0, 1) := by decide +kernel
theorem d_G_init_1 : decode c_G_init 1 = .ok (.invokespecial 5, 3) := by decide +kernel
theorem d_G_init_4 : decode c_G_init 4 = .ok (.aload_n 0, 1) := by decide +kernel
theorem d_G_init_5 : decode c_G_init 5 = .ok (.aload_n 1, 1) := by decide +kernel
theorem d_G_init_6 : decode c_G_init 6 = .ok (.putfield 11, 3) := by decide +kernel
theorem d_G_init_9 : decode c_G_init 9 = .ok (.aload_n 0, 1) := by decide +kernel
theorem d_G_init_10 : decode c_G_init 10 = .ok (.sipush 2114, 3) := by decide +kernel
theorem d_G_init_13 : decode c_G_init 13 = .ok (.newarray .int, 2) := by decide +kernel
theorem d_G_init_15 : decode c_G_init 15 = .ok (.putfield 15, 3) := by decide +kernel
theorem d_G_init_18 : decode c_G_init 18 = .ok (.aload_n 0, 1) := by decide +kernel
theorem d_G_init_19 : decode c_G_init 19 = .ok (.sipush 6040, 3) := by decide +kernel
theorem d_G_init_22 : decode c_G_init 22 = .ok (.newarray .int, 2) := by decide +kernel
theorem d_G_init_24 : decode c_G_init 24 = .ok (.putfield 19, 3) := by decide +kernel
theorem d_G_init_27 : decode c_G_init 27 = .ok (.aload_n 0, 1) := by decide +kernel
theorem d_G_init_28 : decode c_G_init 28 = .ok (.iconst 0, 1) := by decide +kernel
theorem d_G_init_29 : decode c_G_init 29 = .ok (.putfield 22, 3) := by decide +kernel
theorem d_G_init_32 : decode c_G_init 32 = .ok (.return_, 1) := by decide +kernel
theorem d_G_leastRule_0 : decode c_G_leastRule 0 = .ok (.aload_n 0, 1) := by decide +kernel
theorem d_G_leastRule_1 : decode c_G_leastRule 1 = .ok (.iload_n 1, 1) := by decide +kernel
theorem d_G_leastRule_2 : decode c_G_leastRule 2 = .ok (.bipush 99, 2) := by decide +kernel
theorem d_G_leastRule_4 : decode c_G_leastRule 4 = .ok (.invokevirtual 26, 3) := by decide +kernel
theorem d_G_leastRule_7 : decode c_G_leastRule 7 = .ok (.iconst (-1), 1) := by decide +kernel
theorem d_G_leastRule_8 : decode c_G_leastRule 8 = .ok (.if_icmp .ne 5, 3) := by decide +kernel
theorem d_G_leastRule_11 : decode c_G_leastRule 11 = .ok (.iconst (-1), 1) := by decide +kernel
theorem d_G_leastRule_12 : decode c_G_leastRule 12 = .ok (.ireturn, 1) := by decide +kernel
theorem d_G_leastRule_13 : decode c_G_leastRule 13 = .ok (.iconst 0, 1) := by decide +kernel
theorem d_G_leastRule_14 : decode c_G_leastRule 14 = .ok (.istore_n 2, 1) := by decide +kernel
theorem d_G_leastRule_15 : decode c_G_leastRule 15 = .ok (.bipush 99, 2) := by decide +kernel
theorem d_G_leastRule_17 : decode c_G_leastRule 17 = .ok (.istore_n 3, 1) := by decide +kernel
theorem d_G_leastRule_18 : decode c_G_leastRule 18 = .ok (.iload_n 2, 1) := by decide +kernel
theorem d_G_leastRule_19 : decode c_G_leastRule 19 = .ok (.iload_n 3, 1) := by decide +kernel
theorem d_G_leastRule_20 : decode c_G_leastRule 20 = .ok (.if_icmp .ge 35, 3) := by decide +kernel
theorem d_G_leastRule_23 : decode c_G_leastRule 23 = .ok (.iload_n 2, 1) := by decide +kernel
theorem d_G_leastRule_24 : decode c_G_leastRule 24 = .ok (.iload_n 3, 1) := by decide +kernel
theorem d_G_leastRule_25 : decode c_G_leastRule 25 = .ok (.iadd, 1) := by decide +kernel
theorem d_G_leastRule_26 : decode c_G_leastRule 26 = .ok (.iconst 2, 1) := by decide +kernel
theorem d_G_leastRule_27 : decode c_G_leastRule 27 = .ok (.idiv, 1) := by decide +kernel
theorem d_G_leastRule_28 : decode c_G_leastRule 28 = .ok (.istore 4, 2) := by decide +kernel
theorem d_G_leastRule_30 : decode c_G_leastRule 30 = .ok (.aload_n 0, 1) := by decide +kernel
theorem d_G_leastRule_31 : decode c_G_leastRule 31 = .ok (.iload_n 1, 1) := by decide +kernel
theorem d_G_leastRule_32 : decode c_G_leastRule 32 = .ok (.iload 4, 2) := by decide +kernel
theorem d_G_leastRule_34 : decode c_G_leastRule 34 = .ok (.invokevirtual 26, 3) := by decide +kernel
theorem d_G_leastRule_37 : decode c_G_leastRule 37 = .ok (.iconst (-1), 1) := by decide +kernel
theorem d_G_leastRule_38 : decode c_G_leastRule 38 = .ok (.if_icmp .ne 11, 3) := by decide +kernel
theorem d_G_leastRule_41 : decode c_G_leastRule 41 = .ok (.iload 4, 2) := by decide +kernel
theorem d_G_leastRule_43 : decode c_G_leastRule 43 = .ok (.iconst 1, 1) := by decide +kernel
theorem d_G_leastRule_44 : decode c_G_leastRule 44 = .ok (.iadd, 1) := by decide +kernel
theorem d_G_leastRule_45 : decode c_G_leastRule 45 = .ok (.istore_n 2, 1) := by decide +kernel
theorem d_G_leastRule_46 : decode c_G_leastRule 46 = .ok (.goto 6, 3) := by decide +kernel
theorem d_G_leastRule_49 : decode c_G_leastRule 49 = .ok (.iload 4, 2) := by decide +kernel
theorem d_G_leastRule_51 : decode c_G_leastRule 51 = .ok (.istore_n 3, 1) := by decide +kernel
theorem d_G_leastRule_52 : decode c_G_leastRule 52 = .ok (.goto (-34), 3) := by decide +kernel
theorem d_G_leastRule_55 : decode c_G_leastRule 55 = .ok (.iload_n 3, 1) := by decide +kernel
theorem d_G_leastRule_56 : decode c_G_leastRule 56 = .ok (.ireturn, 1) := by decide +kernel
theorem d_G_leastEarth_0 : decode c_G_leastEarth 0 = .ok (.aload_n 0, 1) := by decide +kernel
theorem d_G_leastEarth_1 : decode c_G_leastEarth 1 = .ok (.aload_n 0, 1) := by decide +kernel
theorem d_G_leastEarth_2 : decode c_G_leastEarth 2 = .ok (.getfield 11, 3) := by decide +kernel
theorem d_G_leastEarth_5 : decode c_G_leastEarth 5 = .ok (.bipush 7, 2) := by decide +kernel
theorem d_G_leastEarth_7 : decode c_G_leastEarth 7 = .ok (.invokevirtual 30, 3) := by decide +kernel
theorem d_G_leastEarth_10 : decode c_G_leastEarth 10 = .ok (.putfield 36, 3) := by decide +kernel
theorem d_G_leastEarth_13 : decode c_G_leastEarth 13 = .ok (.aload_n 0, 1) := by decide +kernel
theorem d_G_leastEarth_14 : decode c_G_leastEarth 14 = .ok (.getfield 11, 3) := by decide +kernel
theorem d_G_leastEarth_17 : decode c_G_leastEarth 17 = .ok (.iload_n 1, 1) := by decide +kernel
theorem d_G_leastEarth_18 : decode c_G_leastEarth 18 = .ok (.invokevirtual 39, 3) := by decide +kernel
theorem d_G_leastEarth_21 : decode c_G_leastEarth 21 = .ok (.iconst 1, 1) := by decide +kernel
theorem d_G_leastEarth_22 : decode c_G_leastEarth 22 = .ok (.isub, 1) := by decide +kernel
theorem d_G_leastEarth_23 : decode c_G_leastEarth 23 = .ok (.istore_n 3, 1) := by decide +kernel
theorem d_G_leastEarth_24 : decode c_G_leastEarth 24 = .ok (.iload_n 3, 1) := by decide +kernel
theorem d_G_leastEarth_25 : decode c_G_leastEarth 25 = .ok (.ifCond .lt 16, 3) := by decide +kernel
theorem d_G_leastEarth_28 : decode c_G_leastEarth 28 = .ok (.aload_n 0, 1) := by decide +kernel
theorem d_G_leastEarth_29 : decode c_G_leastEarth 29 = .ok (.iload_n 1, 1) := by decide +kernel
theorem d_G_leastEarth_30 : decode c_G_leastEarth 30 = .ok (.iload_n 2, 1) := by decide +kernel
theorem d_G_leastEarth_31 : decode c_G_leastEarth 31 = .ok (.iload_n 3, 1) := by decide +kernel
theorem d_G_leastEarth_32 : decode c_G_leastEarth 32 = .ok (.invokevirtual 42, 3) := by decide +kernel
theorem d_G_leastEarth_35 : decode c_G_leastEarth 35 = .ok (.iinc 3 (-1), 3) := by decide +kernel
theorem d_G_leastEarth_38 : decode c_G_leastEarth 38 = .ok (.goto (-14), 3) := by decide +kernel
theorem d_G_leastEarth_41 : decode c_G_leastEarth 41 = .ok (.ldc 46, 2) := by decide +kernel
theorem d_G_leastEarth_43 : decode c_G_leastEarth 43 = .ok (.istore_n 3, 1) := by decide +kernel
theorem d_G_leastEarth_44 : decode c_G_leastEarth 44 = .ok (.aload_n 0, 1) := by decide +kernel
theorem d_G_leastEarth_45 : decode c_G_leastEarth 45 = .ok (.getfield 36, 3) := by decide +kernel
theorem d_G_leastEarth_48 : decode c_G_leastEarth 48 = .ok (.ineg, 1) := by decide +kernel
theorem d_G_leastEarth_49 : decode c_G_leastEarth 49 = .ok (.istore 4, 2) := by decide +kernel
theorem d_G_leastEarth_51 : decode c_G_leastEarth 51 = .ok (.iload 4, 2) := by decide +kernel
theorem d_G_leastEarth_53 : decode c_G_leastEarth 53 = .ok (.aload_n 0, 1) := by decide +kernel
theorem d_G_leastEarth_54 : decode c_G_leastEarth 54 = .ok (.getfield 36, 3) := by decide +kernel
theorem d_G_leastEarth_57 : decode c_G_leastEarth 57 = .ok (.if_icmp .gt 39, 3) := by decide +kernel
theorem d_G_leastEarth_60 : decode c_G_leastEarth 60 = .ok (.aload_n 0, 1) := by decide +kernel
theorem d_G_leastEarth_61 : decode c_G_leastEarth 61 = .ok (.getfield 15, 3) := by decide +kernel
theorem d_G_leastEarth_64 : decode c_G_leastEarth 64 = .ok (.iconst 0, 1) := by decide +kernel
theorem d_G_leastEarth_65 : decode c_G_leastEarth 65 = .ok (.iload 4, 2) := by decide +kernel
theorem d_G_leastEarth_67 : decode c_G_leastEarth 67 = .ok (.iload 4, 2) := by decide +kernel
theorem d_G_leastEarth_69 : decode c_G_leastEarth 69 = .ok (.invokestatic 47, 3) := by decide +kernel
theorem d_G_leastEarth_72 : decode c_G_leastEarth 72 = .ok (.iaload, 1) := by decide +kernel
theorem d_G_leastEarth_73 : decode c_G_leastEarth 73 = .ok (.istore 5, 2) := by decide +kernel
theorem d_G_leastEarth_75 : decode c_G_leastEarth 75 = .ok (.iload 5, 2) := by decide +kernel
theorem d_G_leastEarth_77 : decode c_G_leastEarth 77 = .ok (.iload_n 3, 1) := by decide +kernel
theorem d_G_leastEarth_78 : decode c_G_leastEarth 78 = .ok (.if_icmp .ge 12, 3) := by decide +kernel
theorem d_G_leastEarth_81 : decode c_G_leastEarth 81 = .ok (.iload 5, 2) := by decide +kernel
theorem d_G_leastEarth_83 : decode c_G_leastEarth 83 = .ok (.istore_n 3, 1) := by decide +kernel
theorem d_G_leastEarth_84 : decode c_G_leastEarth 84 = .ok (.aload_n 0, 1) := by decide +kernel
theorem d_G_leastEarth_85 : decode c_G_leastEarth 85 = .ok (.iload 4, 2) := by decide +kernel
theorem d_G_leastEarth_87 : decode c_G_leastEarth 87 = .ok (.putfield 22, 3) := by decide +kernel
theorem d_G_leastEarth_90 : decode c_G_leastEarth 90 = .ok (.iinc 4 1, 3) := by decide +kernel
theorem d_G_leastEarth_93 : decode c_G_leastEarth 93 = .ok (.goto (-42), 3) := by decide +kernel
theorem d_G_leastEarth_96 : decode c_G_leastEarth 96 = .ok (.iload_n 3, 1) := by decide +kernel
theorem d_G_leastEarth_97 : decode c_G_leastEarth 97 = .ok (.ldc 46, 2) := by decide +kernel
theorem d_G_leastEarth_99 : decode c_G_leastEarth 99 = .ok (.if_icmp .lt 7, 3) := by decide +kernel
theorem d_G_leastEarth_102 : decode c_G_leastEarth 102 = .ok (.iconst (-1), 1) := by decide +kernel
theorem d_G_leastEarth_103 : decode c_G_leastEarth 103 = .ok (.goto 4, 3) := by decide +kernel
theorem d_G_leastEarth_106 : decode c_G_leastEarth 106 = .ok (.iload_n 3, 1) := by decide +kernel
theorem d_G_leastEarth_107 : decode c_G_leastEarth 107 = .ok (.ireturn, 1) := by decide +kernel
theorem d_G_fillPlace_0 : decode c_G_fillPlace 0 = .ok (.iload_n 3, 1) := by decide +kernel
theorem d_G_fillPlace_1 : decode c_G_fillPlace 1 = .ok (.iconst 1, 1) := by decide +kernel
theorem d_G_fillPlace_2 : decode c_G_fillPlace 2 = .ok (.iadd, 1) := by decide +kernel
theorem d_G_fillPlace_3 : decode c_G_fillPlace 3 = .ok (.aload_n 0, 1) := by decide +kernel
theorem d_G_fillPlace_4 : decode c_G_fillPlace 4 = .ok (.getfield 11, 3) := by decide +kernel
theorem d_G_fillPlace_7 : decode c_G_fillPlace 7 = .ok (.iload_n 1, 1) := by decide +kernel
theorem d_G_fillPlace_8 : decode c_G_fillPlace 8 = .ok (.invokevirtual 39, 3) := by decide +kernel
theorem d_G_fillPlace_11 : decode c_G_fillPlace 11 = .ok (.if_icmp .ne 7, 3) := by decide +kernel
theorem d_G_fillPlace_14 : decode c_G_fillPlace 14 = .ok (.iconst 1, 1) := by decide +kernel
theorem d_G_fillPlace_15 : decode c_G_fillPlace 15 = .ok (.goto 4, 3) := by decide +kernel
theorem d_G_fillPlace_18 : decode c_G_fillPlace 18 = .ok (.iconst 0, 1) := by decide +kernel
theorem d_G_fillPlace_19 : decode c_G_fillPlace 19 = .ok (.istore 4, 2) := by decide +kernel
theorem d_G_fillPlace_21 : decode c_G_fillPlace 21 = .ok (.aload_n 0, 1) := by decide +kernel
theorem d_G_fillPlace_22 : decode c_G_fillPlace 22 = .ok (.iload_n 1, 1) := by decide +kernel
theorem d_G_fillPlace_23 : decode c_G_fillPlace 23 = .ok (.iload_n 3, 1) := by decide +kernel
theorem d_G_fillPlace_24 : decode c_G_fillPlace 24 = .ok (.invokevirtual 51, 3) := by decide +kernel
theorem d_G_fillPlace_27 : decode c_G_fillPlace 27 = .ok (.istore 5, 2) := by decide +kernel
theorem d_G_fillPlace_29 : decode c_G_fillPlace 29 = .ok (.iload 4, 2) := by decide +kernel
theorem d_G_fillPlace_31 : decode c_G_fillPlace 31 = .ok (.ifCond .ne 10, 3) := by decide +kernel
theorem d_G_fillPlace_34 : decode c_G_fillPlace 34 = .ok (.aload_n 0, 1) := by decide +kernel
theorem d_G_fillPlace_35 : decode c_G_fillPlace 35 = .ok (.iload_n 1, 1) := by decide +kernel
theorem d_G_fillPlace_36 : decode c_G_fillPlace 36 = .ok (.iload_n 2, 1) := by decide +kernel
theorem d_G_fillPlace_37 : decode c_G_fillPlace 37 = .ok (.iload_n 3, 1) := by decide +kernel
theorem d_G_fillPlace_38 : decode c_G_fillPlace 38 = .ok (.invokevirtual 54, 3) := by decide +kernel
theorem d_G_fillPlace_41 : decode c_G_fillPlace 41 = .ok (.iload 5, 2) := by decide +kernel
theorem d_G_fillPlace_43 : decode c_G_fillPlace 43 = .ok (.ineg, 1) := by decide +kernel
theorem d_G_fillPlace_44 : decode c_G_fillPlace 44 = .ok (.istore 6, 2) := by decide +kernel
theorem d_G_fillPlace_46 : decode c_G_fillPlace 46 = .ok (.iload 6, 2) := by decide +kernel
theorem d_G_fillPlace_48 : decode c_G_fillPlace 48 = .ok (.iload 5, 2) := by decide +kernel
theorem d_G_fillPlace_50 : decode c_G_fillPlace 50 = .ok (.if_icmp .gt 155, 3) := by decide +kernel
theorem d_G_fillPlace_53 : decode c_G_fillPlace 53 = .ok (.iconst 0, 1) := by decide +kernel
theorem d_G_fillPlace_54 : decode c_G_fillPlace 54 = .ok (.istore 7, 2) := by decide +kernel
theorem d_G_fillPlace_56 : decode c_G_fillPlace 56 = .ok (.aload_n 0, 1) := by decide +kernel
theorem d_G_fillPlace_57 : decode c_G_fillPlace 57 = .ok (.getfield 36, 3) := by decide +kernel
theorem d_G_fillPlace_60 : decode c_G_fillPlace 60 = .ok (.ineg, 1) := by decide +kernel
theorem d_G_fillPlace_61 : decode c_G_fillPlace 61 = .ok (.istore 8, 2) := by decide +kernel
theorem d_G_fillPlace_63 : decode c_G_fillPlace 63 = .ok (.iload 8, 2) := by decide +kernel
theorem d_G_fillPlace_65 : decode c_G_fillPlace 65 = .ok (.aload_n 0, 1) := by decide +kernel
theorem d_G_fillPlace_66 : decode c_G_fillPlace 66 = .ok (.getfield 36, 3) := by decide +kernel
theorem d_G_fillPlace_69 : decode c_G_fillPlace 69 = .ok (.if_icmp .gt 112, 3) := by decide +kernel
theorem d_G_fillPlace_72 : decode c_G_fillPlace 72 = .ok (.iload 4, 2) := by decide +kernel
theorem d_G_fillPlace_74 : decode c_G_fillPlace 74 = .ok (.ifCond .eq 7, 3) := by decide +kernel
theorem d_G_fillPlace_77 : decode c_G_fillPlace 77 = .ok (.iconst 0, 1) := by decide +kernel
theorem d_G_fillPlace_78 : decode c_G_fillPlace 78 = .ok (.goto 12, 3) := by decide +kernel
theorem d_G_fillPlace_81 : decode c_G_fillPlace 81 = .ok (.aload_n 0, 1) := by decide +kernel
theorem d_G_fillPlace_82 : decode c_G_fillPlace 82 = .ok (.iload_n 3, 1) := by decide +kernel
theorem d_G_fillPlace_83 : decode c_G_fillPlace 83 = .ok (.iload 8, 2) := by decide +kernel
theorem d_G_fillPlace_85 : decode c_G_fillPlace 85 = .ok (.iload 6, 2) := by decide +kernel
theorem d_G_fillPlace_87 : decode c_G_fillPlace 87 = .ok (.invokevirtual 57, 3) := by decide +kernel
theorem d_G_fillPlace_90 : decode c_G_fillPlace 90 = .ok (.istore 9, 2) := by decide +kernel
theorem d_G_fillPlace_92 : decode c_G_fillPlace 92 = .ok (.iload 4, 2) := by decide +kernel
theorem d_G_fillPlace_94 : decode c_G_fillPlace 94 = .ok (.ifCond .ne 9, 3) := by decide +kernel
theorem d_G_fillPlace_97 : decode c_G_fillPlace 97 = .ok (.iload 9, 2) := by decide +kernel
theorem d_G_fillPlace_99 : decode c_G_fillPlace 99 = .ok (.iconst 4, 1) := by decide +kernel
theorem d_G_fillPlace_100 : decode c_G_fillPlace 100 = .ok (.if_icmp .ne 7, 3) := by decide +kernel
theorem d_G_fillPlace_103 : decode c_G_fillPlace 103 = .ok (.iconst 0, 1) := by decide +kernel
theorem d_G_fillPlace_104 : decode c_G_fillPlace 104 = .ok (.goto 21, 3) := by decide +kernel
theorem d_G_fillPlace_107 : decode c_G_fillPlace 107 = .ok (.aload_n 0, 1) := by decide +kernel
theorem d_G_fillPlace_108 : decode c_G_fillPlace 108 = .ok (.getfield 15, 3) := by decide +kernel
theorem d_G_fillPlace_111 : decode c_G_fillPlace 111 = .ok (.iload_n 3, 1) := by decide +kernel
theorem d_G_fillPlace_112 : decode c_G_fillPlace 112 = .ok (.iconst 1, 1) := by decide +kernel
theorem d_G_fillPlace_113 : decode c_G_fillPlace 113 = .ok (.iadd, 1) := by decide +kernel
theorem d_G_fillPlace_114 : decode c_G_fillPlace 114 = .ok (.iload 9, 2) := by decide +kernel
theorem d_G_fillPlace_116 : decode c_G_fillPlace 116 = .ok (.iload 6, 2) := by decide +kernel
theorem d_G_fillPlace_118 : decode c_G_fillPlace 118 = .ok (.iload 9, 2) := by decide +kernel
theorem d_G_fillPlace_120 : decode c_G_fillPlace 120 = .ok (.iadd, 1) := by decide +kernel
theorem d_G_fillPlace_121 : decode c_G_fillPlace 121 = .ok (.invokestatic 47, 3) := by decide +kernel
theorem d_G_fillPlace_124 : decode c_G_fillPlace 124 = .ok (.iaload, 1) := by decide +kernel
theorem d_G_fillPlace_125 : decode c_G_fillPlace 125 = .ok (.istore 10, 2) := by decide +kernel
theorem d_G_fillPlace_127 : decode c_G_fillPlace 127 = .ok (.aload_n 0, 1) := by decide +kernel
theorem d_G_fillPlace_128 : decode c_G_fillPlace 128 = .ok (.getfield 15, 3) := by decide +kernel
theorem d_G_fillPlace_131 : decode c_G_fillPlace 131 = .ok (.iload_n 3, 1) := by decide +kernel
theorem d_G_fillPlace_132 : decode c_G_fillPlace 132 = .ok (.iload 8, 2) := by decide +kernel
theorem d_G_fillPlace_134 : decode c_G_fillPlace 134 = .ok (.iload 6, 2) := by decide +kernel
theorem d_G_fillPlace_136 : decode c_G_fillPlace 136 = .ok (.invokestatic 47, 3) := by decide +kernel
theorem d_G_fillPlace_139 : decode c_G_fillPlace 139 = .ok (.iload 9, 2) := by decide +kernel
theorem d_G_fillPlace_141 : decode c_G_fillPlace 141 = .ok (.iconst 4, 1) := by decide +kernel
theorem d_G_fillPlace_142 : decode c_G_fillPlace 142 = .ok (.if_icmp .ne 8, 3) := by decide +kernel
theorem d_G_fillPlace_145 : decode c_G_fillPlace 145 = .ok (.ldc 46, 2) := by decide +kernel
theorem d_G_fillPlace_147 : decode c_G_fillPlace 147 = .ok (.goto 12, 3) := by decide +kernel
theorem d_G_fillPlace_150 : decode c_G_fillPlace 150 = .ok (.aload_n 0, 1) := by decide +kernel
theorem d_G_fillPlace_151 : decode c_G_fillPlace 151 = .ok (.iload 8, 2) := by decide +kernel
theorem d_G_fillPlace_153 : decode c_G_fillPlace 153 = .ok (.invokevirtual 60, 3) := by decide +kernel
theorem d_G_fillPlace_156 : decode c_G_fillPlace 156 = .ok (.iload 10, 2) := by decide +kernel
theorem d_G_fillPlace_158 : decode c_G_fillPlace 158 = .ok (.iadd, 1) := by decide +kernel
theorem d_G_fillPlace_159 : decode c_G_fillPlace 159 = .ok (.iastore, 1) := by decide +kernel
theorem d_G_fillPlace_160 : decode c_G_fillPlace 160 = .ok (.iload 7, 2) := by decide +kernel
theorem d_G_fillPlace_162 : decode c_G_fillPlace 162 = .ok (.iload 9, 2) := by decide +kernel
theorem d_G_fillPlace_164 : decode c_G_fillPlace 164 = .ok (.iconst 3, 1) := by decide +kernel
theorem d_G_fillPlace_165 : decode c_G_fillPlace 165 = .ok (.iadd, 1) := by decide +kernel
theorem d_G_fillPlace_166 : decode c_G_fillPlace 166 = .ok (.iload 8, 2) := by decide +kernel
theorem d_G_fillPlace_168 : decode c_G_fillPlace 168 = .ok (.invokestatic 63, 3) := by decide +kernel
theorem d_G_fillPlace_171 : decode c_G_fillPlace 171 = .ok (.ishl, 1) := by decide +kernel
theorem d_G_fillPlace_172 : decode c_G_fillPlace 172 = .ok (.ior, 1) := by decide +kernel
theorem d_G_fillPlace_173 : decode c_G_fillPlace 173 = .ok (.istore 7, 2) := by decide +kernel
theorem d_G_fillPlace_175 : decode c_G_fillPlace 175 = .ok (.iinc 8 1, 3) := by decide +kernel
theorem d_G_fillPlace_178 : decode c_G_fillPlace 178 = .ok (.goto (-115), 3) := by decide +kernel
theorem d_G_fillPlace_181 : decode c_G_fillPlace 181 = .ok (.aload_n 0, 1) := by decide +kernel
theorem d_G_fillPlace_182 : decode c_G_fillPlace 182 = .ok (.getfield 19, 3) := by decide +kernel
theorem d_G_fillPlace_185 : decode c_G_fillPlace 185 = .ok (.iload_n 3, 1) := by decide +kernel
theorem d_G_fillPlace_186 : decode c_G_fillPlace 186 = .ok (.sipush 151, 3) := by decide +kernel
theorem d_G_fillPlace_189 : decode c_G_fillPlace 189 = .ok (.imul, 1) := by decide +kernel
theorem d_G_fillPlace_190 : decode c_G_fillPlace 190 = .ok (.iload 6, 2) := by decide +kernel
theorem d_G_fillPlace_192 : decode c_G_fillPlace 192 = .ok (.iadd, 1) := by decide +kernel
theorem d_G_fillPlace_193 : decode c_G_fillPlace 193 = .ok (.bipush 75, 2) := by decide +kernel
theorem d_G_fillPlace_195 : decode c_G_fillPlace 195 = .ok (.iadd, 1) := by decide +kernel
theorem d_G_fillPlace_196 : decode c_G_fillPlace 196 = .ok (.iload 7, 2) := by decide +kernel
theorem d_G_fillPlace_198 : decode c_G_fillPlace 198 = .ok (.iastore, 1) := by decide +kernel
theorem d_G_fillPlace_199 : decode c_G_fillPlace 199 = .ok (.iinc 6 1, 3) := by decide +kernel
theorem d_G_fillPlace_202 : decode c_G_fillPlace 202 = .ok (.goto (-156), 3) := by decide +kernel
theorem d_G_fillPlace_205 : decode c_G_fillPlace 205 = .ok (.return_, 1) := by decide +kernel
theorem d_G_look_0 : decode c_G_look 0 = .ok (.aload_n 0, 1) := by decide +kernel
theorem d_G_look_1 : decode c_G_look 1 = .ok (.aload_n 0, 1) := by decide +kernel
theorem d_G_look_2 : decode c_G_look 2 = .ok (.getfield 11, 3) := by decide +kernel
theorem d_G_look_5 : decode c_G_look 5 = .ok (.aload_n 0, 1) := by decide +kernel
theorem d_G_look_6 : decode c_G_look 6 = .ok (.getfield 11, 3) := by decide +kernel
theorem d_G_look_9 : decode c_G_look 9 = .ok (.iload_n 1, 1) := by decide +kernel
theorem d_G_look_10 : decode c_G_look 10 = .ok (.iload_n 3, 1) := by decide +kernel
theorem d_G_look_11 : decode c_G_look 11 = .ok (.iconst 1, 1) := by decide +kernel
theorem d_G_look_12 : decode c_G_look 12 = .ok (.iadd, 1) := by decide +kernel
theorem d_G_look_13 : decode c_G_look 13 = .ok (.invokevirtual 66, 3) := by decide +kernel
theorem d_G_look_16 : decode c_G_look 16 = .ok (.invokevirtual 69, 3) := by decide +kernel
theorem d_G_look_19 : decode c_G_look 19 = .ok (.aload_n 0, 1) := by decide +kernel
theorem d_G_look_20 : decode c_G_look 20 = .ok (.getfield 11, 3) := by decide +kernel
theorem d_G_look_23 : decode c_G_look 23 = .ok (.aload_n 0, 1) := by decide +kernel
theorem d_G_look_24 : decode c_G_look 24 = .ok (.getfield 11, 3) := by decide +kernel
theorem d_G_look_27 : decode c_G_look 27 = .ok (.iload_n 1, 1) := by decide +kernel
theorem d_G_look_28 : decode c_G_look 28 = .ok (.iload_n 3, 1) := by decide +kernel
theorem d_G_look_29 : decode c_G_look 29 = .ok (.invokevirtual 66, 3) := by decide +kernel
theorem d_G_look_32 : decode c_G_look 32 = .ok (.invokevirtual 69, 3) := by decide +kernel
theorem d_G_look_35 : decode c_G_look 35 = .ok (.isub, 1) := by decide +kernel
theorem d_G_look_36 : decode c_G_look 36 = .ok (.putfield 72, 3) := by decide +kernel
theorem d_G_look_39 : decode c_G_look 39 = .ok (.aload_n 0, 1) := by decide +kernel
theorem d_G_look_40 : decode c_G_look 40 = .ok (.iload_n 2, 1) := by decide +kernel
theorem d_G_look_41 : decode c_G_look 41 = .ok (.aload_n 0, 1) := by decide +kernel
theorem d_G_look_42 : decode c_G_look 42 = .ok (.getfield 11, 3) := by decide +kernel
theorem d_G_look_45 : decode c_G_look 45 = .ok (.iload_n 1, 1) := by decide +kernel
theorem d_G_look_46 : decode c_G_look 46 = .ok (.iload_n 3, 1) := by decide +kernel
theorem d_G_look_47 : decode c_G_look 47 = .ok (.invokevirtual 75, 3) := by decide +kernel
theorem d_G_look_50 : decode c_G_look 50 = .ok (.invokestatic 78, 3) := by decide +kernel
theorem d_G_look_53 : decode c_G_look 53 = .ok (.imul, 1) := by decide +kernel
theorem d_G_look_54 : decode c_G_look 54 = .ok (.bipush 100, 2) := by decide +kernel
theorem d_G_look_56 : decode c_G_look 56 = .ok (.idiv, 1) := by decide +kernel
theorem d_G_look_57 : decode c_G_look 57 = .ok (.putfield 81, 3) := by decide +kernel
theorem d_G_look_60 : decode c_G_look 60 = .ok (.aload_n 0, 1) := by decide +kernel
theorem d_G_look_61 : decode c_G_look 61 = .ok (.aload_n 0, 1) := by decide +kernel
theorem d_G_look_62 : decode c_G_look 62 = .ok (.iload_n 1, 1) := by decide +kernel
theorem d_G_look_63 : decode c_G_look 63 = .ok (.iload_n 3, 1) := by decide +kernel
theorem d_G_look_64 : decode c_G_look 64 = .ok (.iconst 1, 1) := by decide +kernel
theorem d_G_look_65 : decode c_G_look 65 = .ok (.iadd, 1) := by decide +kernel
theorem d_G_look_66 : decode c_G_look 66 = .ok (.invokevirtual 51, 3) := by decide +kernel
theorem d_G_look_69 : decode c_G_look 69 = .ok (.putfield 84, 3) := by decide +kernel
theorem d_G_look_72 : decode c_G_look 72 = .ok (.return_, 1) := by decide +kernel
theorem d_G_bestNext_0 : decode c_G_bestNext 0 = .ok (.aload_n 0, 1) := by decide +kernel
theorem d_G_bestNext_1 : decode c_G_bestNext 1 = .ok (.getfield 36, 3) := by decide +kernel
theorem d_G_bestNext_4 : decode c_G_bestNext 4 = .ok (.ineg, 1) := by decide +kernel
theorem d_G_bestNext_5 : decode c_G_bestNext 5 = .ok (.iload_n 2, 1) := by decide +kernel
theorem d_G_bestNext_6 : decode c_G_bestNext 6 = .ok (.aload_n 0, 1) := by decide +kernel
theorem d_G_bestNext_7 : decode c_G_bestNext 7 = .ok (.getfield 72, 3) := by decide +kernel
theorem d_G_bestNext_10 : decode c_G_bestNext 10 = .ok (.isub, 1) := by decide +kernel
theorem d_G_bestNext_11 : decode c_G_bestNext 11 = .ok (.aload_n 0, 1) := by decide +kernel
theorem d_G_bestNext_12 : decode c_G_bestNext 12 = .ok (.getfield 81, 3) := by decide +kernel
theorem d_G_bestNext_15 : decode c_G_bestNext 15 = .ok (.isub, 1) := by decide +kernel
theorem d_G_bestNext_16 : decode c_G_bestNext 16 = .ok (.invokestatic 87, 3) := by decide +kernel
theorem d_G_bestNext_19 : decode c_G_bestNext 19 = .ok (.aload_n 0, 1) := by decide +kernel
theorem d_G_bestNext_20 : decode c_G_bestNext 20 = .ok (.getfield 84, 3) := by decide +kernel
theorem d_G_bestNext_23 : decode c_G_bestNext 23 = .ok (.ineg, 1) := by decide +kernel
theorem d_G_bestNext_24 : decode c_G_bestNext 24 = .ok (.iload_n 3, 1) := by decide +kernel
theorem d_G_bestNext_25 : decode c_G_bestNext 25 = .ok (.isub, 1) := by decide +kernel
theorem d_G_bestNext_26 : decode c_G_bestNext 26 = .ok (.invokestatic 87, 3) := by decide +kernel
theorem d_G_bestNext_29 : decode c_G_bestNext 29 = .ok (.istore 4, 2) := by decide +kernel
theorem d_G_bestNext_31 : decode c_G_bestNext 31 = .ok (.aload_n 0, 1) := by decide +kernel
theorem d_G_bestNext_32 : decode c_G_bestNext 32 = .ok (.getfield 36, 3) := by decide +kernel
theorem d_G_bestNext_35 : decode c_G_bestNext 35 = .ok (.iload_n 2, 1) := by decide +kernel
theorem d_G_bestNext_36 : decode c_G_bestNext 36 = .ok (.aload_n 0, 1) := by decide +kernel
theorem d_G_bestNext_37 : decode c_G_bestNext 37 = .ok (.getfield 72, 3) := by decide +kernel
theorem d_G_bestNext_40 : decode c_G_bestNext 40 = .ok (.isub, 1) := by decide +kernel
theorem d_G_bestNext_41 : decode c_G_bestNext 41 = .ok (.aload_n 0, 1) := by decide +kernel
theorem d_G_bestNext_42 : decode c_G_bestNext 42 = .ok (.getfield 81, 3) := by decide +kernel
theorem d_G_bestNext_45 : decode c_G_bestNext 45 = .ok (.iadd, 1) := by decide +kernel
theorem d_G_bestNext_46 : decode c_G_bestNext 46 = .ok (.invokestatic 92, 3) := by decide +kernel
theorem d_G_bestNext_49 : decode c_G_bestNext 49 = .ok (.aload_n 0, 1) := by decide +kernel
theorem d_G_bestNext_50 : decode c_G_bestNext 50 = .ok (.getfield 84, 3) := by decide +kernel
theorem d_G_bestNext_53 : decode c_G_bestNext 53 = .ok (.iload_n 3, 1) := by decide +kernel
theorem d_G_bestNext_54 : decode c_G_bestNext 54 = .ok (.isub, 1) := by decide +kernel
theorem d_G_bestNext_55 : decode c_G_bestNext 55 = .ok (.invokestatic 92, 3) := by decide +kernel
theorem d_G_bestNext_58 : decode c_G_bestNext 58 = .ok (.istore 5, 2) := by decide +kernel
theorem d_G_bestNext_60 : decode c_G_bestNext 60 = .ok (.iconst 4, 1) := by decide +kernel
theorem d_G_bestNext_61 : decode c_G_bestNext 61 = .ok (.istore 6, 2) := by decide +kernel
theorem d_G_bestNext_63 : decode c_G_bestNext 63 = .ok (.ldc 46, 2) := by decide +kernel
theorem d_G_bestNext_65 : decode c_G_bestNext 65 = .ok (.istore 7, 2) := by decide +kernel
theorem d_G_bestNext_67 : decode c_G_bestNext 67 = .ok (.iload_n 1, 1) := by decide +kernel
theorem d_G_bestNext_68 : decode c_G_bestNext 68 = .ok (.iconst 1, 1) := by decide +kernel
theorem d_G_bestNext_69 : decode c_G_bestNext 69 = .ok (.iadd, 1) := by decide +kernel
theorem d_G_bestNext_70 : decode c_G_bestNext 70 = .ok (.iload 4, 2) := by decide +kernel
theorem d_G_bestNext_72 : decode c_G_bestNext 72 = .ok (.iload_n 3, 1) := by decide +kernel
theorem d_G_bestNext_73 : decode c_G_bestNext 73 = .ok (.iload 4, 2) := by decide +kernel
theorem d_G_bestNext_75 : decode c_G_bestNext 75 = .ok (.iadd, 1) := by decide +kernel
theorem d_G_bestNext_76 : decode c_G_bestNext 76 = .ok (.invokestatic 47, 3) := by decide +kernel
theorem d_G_bestNext_79 : decode c_G_bestNext 79 = .ok (.istore 8, 2) := by decide +kernel
theorem d_G_bestNext_81 : decode c_G_bestNext 81 = .ok (.iload 4, 2) := by decide +kernel
theorem d_G_bestNext_83 : decode c_G_bestNext 83 = .ok (.istore 9, 2) := by decide +kernel
theorem d_G_bestNext_85 : decode c_G_bestNext 85 = .ok (.iload 9, 2) := by decide +kernel
theorem d_G_bestNext_87 : decode c_G_bestNext 87 = .ok (.iload 5, 2) := by decide +kernel
theorem d_G_bestNext_89 : decode c_G_bestNext 89 = .ok (.if_icmp .gt 40, 3) := by decide +kernel
theorem d_G_bestNext_92 : decode c_G_bestNext 92 = .ok (.aload_n 0, 1) := by decide +kernel
theorem d_G_bestNext_93 : decode c_G_bestNext 93 = .ok (.getfield 15, 3) := by decide +kernel
theorem d_G_bestNext_96 : decode c_G_bestNext 96 = .ok (.iload 8, 2) := by decide +kernel
theorem d_G_bestNext_98 : decode c_G_bestNext 98 = .ok (.iaload, 1) := by decide +kernel
theorem d_G_bestNext_99 : decode c_G_bestNext 99 = .ok (.iload 7, 2) := by decide +kernel
theorem d_G_bestNext_101 : decode c_G_bestNext 101 = .ok (.if_icmp .ge 16, 3) := by decide +kernel
theorem d_G_bestNext_104 : decode c_G_bestNext 104 = .ok (.iload 9, 2) := by decide +kernel
theorem d_G_bestNext_106 : decode c_G_bestNext 106 = .ok (.istore 6, 2) := by decide +kernel
theorem d_G_bestNext_108 : decode c_G_bestNext 108 = .ok (.aload_n 0, 1) := by decide +kernel
theorem d_G_bestNext_109 : decode c_G_bestNext 109 = .ok (.getfield 15, 3) := by decide +kernel
theorem d_G_bestNext_112 : decode c_G_bestNext 112 = .ok (.iload 8, 2) := by decide +kernel
theorem d_G_bestNext_114 : decode c_G_bestNext 114 = .ok (.iaload, 1) := by decide +kernel
theorem d_G_bestNext_115 : decode c_G_bestNext 115 = .ok (.istore 7, 2) := by decide +kernel
theorem d_G_bestNext_117 : decode c_G_bestNext 117 = .ok (.iinc 8 152, 6) := by decide +kernel
theorem d_G_bestNext_123 : decode c_G_bestNext 123 = .ok (.iinc 9 1, 3) := by decide +kernel
theorem d_G_bestNext_126 : decode c_G_bestNext 126 = .ok (.goto (-41), 3) := by decide +kernel
theorem d_G_bestNext_129 : decode c_G_bestNext 129 = .ok (.iload 6, 2) := by decide +kernel
theorem d_G_bestNext_131 : decode c_G_bestNext 131 = .ok (.ireturn, 1) := by decide +kernel
theorem d_G_bound_0 : decode c_G_bound 0 = .ok (.aload_n 0, 1) := by decide +kernel
theorem d_G_bound_1 : decode c_G_bound 1 = .ok (.getfield 36, 3) := by decide +kernel
theorem d_G_bound_4 : decode c_G_bound 4 = .ok (.iload_n 2, 1) := by decide +kernel
theorem d_G_bound_5 : decode c_G_bound 5 = .ok (.iconst 1, 1) := by decide +kernel
theorem d_G_bound_6 : decode c_G_bound 6 = .ok (.iadd, 1) := by decide +kernel
theorem d_G_bound_7 : decode c_G_bound 7 = .ok (.imul, 1) := by decide +kernel
theorem d_G_bound_8 : decode c_G_bound 8 = .ok (.istore_n 3, 1) := by decide +kernel
theorem d_G_bound_9 : decode c_G_bound 9 = .ok (.aload_n 0, 1) := by decide +kernel
theorem d_G_bound_10 : decode c_G_bound 10 = .ok (.getfield 11, 3) := by decide +kernel
theorem d_G_bound_13 : decode c_G_bound 13 = .ok (.bipush 10, 2) := by decide +kernel
theorem d_G_bound_15 : decode c_G_bound 15 = .ok (.invokevirtual 30, 3) := by decide +kernel
theorem d_G_bound_18 : decode c_G_bound 18 = .ok (.aload_n 0, 1) := by decide +kernel
theorem d_G_bound_19 : decode c_G_bound 19 = .ok (.getfield 36, 3) := by decide +kernel
theorem d_G_bound_22 : decode c_G_bound 22 = .ok (.aload_n 0, 1) := by decide +kernel
theorem d_G_bound_23 : decode c_G_bound 23 = .ok (.getfield 11, 3) := by decide +kernel
theorem d_G_bound_26 : decode c_G_bound 26 = .ok (.iload_n 1, 1) := by decide +kernel
theorem d_G_bound_27 : decode c_G_bound 27 = .ok (.invokevirtual 39, 3) := by decide +kernel
theorem d_G_bound_30 : decode c_G_bound 30 = .ok (.iconst 1, 1) := by decide +kernel
theorem d_G_bound_31 : decode c_G_bound 31 = .ok (.isub, 1) := by decide +kernel
theorem d_G_bound_32 : decode c_G_bound 32 = .ok (.iload_n 2, 1) := by decide +kernel
theorem d_G_bound_33 : decode c_G_bound 33 = .ok (.isub, 1) := by decide +kernel
theorem d_G_bound_34 : decode c_G_bound 34 = .ok (.imul, 1) := by decide +kernel
theorem d_G_bound_35 : decode c_G_bound 35 = .ok (.iadd, 1) := by decide +kernel
theorem d_G_bound_36 : decode c_G_bound 36 = .ok (.istore 4, 2) := by decide +kernel
theorem d_G_bound_38 : decode c_G_bound 38 = .ok (.bipush 75, 2) := by decide +kernel
theorem d_G_bound_40 : decode c_G_bound 40 = .ok (.iload_n 3, 1) := by decide +kernel
theorem d_G_bound_41 : decode c_G_bound 41 = .ok (.iload 4, 2) := by decide +kernel
theorem d_G_bound_43 : decode c_G_bound 43 = .ok (.invokestatic 92, 3) := by decide +kernel
theorem d_G_bound_46 : decode c_G_bound 46 = .ok (.invokestatic 92, 3) := by decide +kernel
theorem d_G_bound_49 : decode c_G_bound 49 = .ok (.ireturn, 1) := by decide +kernel
theorem d_G_cell_0 : decode c_G_cell 0 = .ok (.iload_n 0, 1) := by decide +kernel
theorem d_G_cell_1 : decode c_G_cell 1 = .ok (.iconst 1, 1) := by decide +kernel
theorem d_G_cell_2 : decode c_G_cell 2 = .ok (.iand, 1) := by decide +kernel
theorem d_G_cell_3 : decode c_G_cell 3 = .ok (.bipush 7, 2) := by decide +kernel
theorem d_G_cell_5 : decode c_G_cell 5 = .ok (.imul, 1) := by decide +kernel
theorem d_G_cell_6 : decode c_G_cell 6 = .ok (.iload_n 1, 1) := by decide +kernel
theorem d_G_cell_7 : decode c_G_cell 7 = .ok (.iadd, 1) := by decide +kernel
theorem d_G_cell_8 : decode c_G_cell 8 = .ok (.iconst 3, 1) := by decide +kernel
theorem d_G_cell_9 : decode c_G_cell 9 = .ok (.iadd, 1) := by decide +kernel
theorem d_G_cell_10 : decode c_G_cell 10 = .ok (.sipush 151, 3) := by decide +kernel
theorem d_G_cell_13 : decode c_G_cell 13 = .ok (.imul, 1) := by decide +kernel
theorem d_G_cell_14 : decode c_G_cell 14 = .ok (.iload_n 2, 1) := by decide +kernel
theorem d_G_cell_15 : decode c_G_cell 15 = .ok (.iadd, 1) := by decide +kernel
theorem d_G_cell_16 : decode c_G_cell 16 = .ok (.bipush 75, 2) := by decide +kernel
theorem d_G_cell_18 : decode c_G_cell 18 = .ok (.iadd, 1) := by decide +kernel
theorem d_G_cell_19 : decode c_G_cell 19 = .ok (.ireturn, 1) := by decide +kernel
theorem d_G_choiceShift_0 : decode c_G_choiceShift 0 = .ok (.iconst 3, 1) := by decide +kernel
theorem d_G_choiceShift_1 : decode c_G_choiceShift 1 = .ok (.iload_n 0, 1) := by decide +kernel
theorem d_G_choiceShift_2 : decode c_G_choiceShift 2 = .ok (.iconst 3, 1) := by decide +kernel
theorem d_G_choiceShift_3 : decode c_G_choiceShift 3 = .ok (.iadd, 1) := by decide +kernel
theorem d_G_choiceShift_4 : decode c_G_choiceShift 4 = .ok (.imul, 1) := by decide +kernel
theorem d_G_choiceShift_5 : decode c_G_choiceShift 5 = .ok (.ireturn, 1) := by decide +kernel
theorem d_G_earthOf_0 : decode c_G_earthOf 0 = .ok (.iload_n 1, 1) := by decide +kernel
theorem d_G_earthOf_1 : decode c_G_earthOf 1 = .ok (.ifCond .ge 18, 3) := by decide +kernel
theorem d_G_earthOf_4 : decode c_G_earthOf 4 = .ok (.iload_n 1, 1) := by decide +kernel
theorem d_G_earthOf_5 : decode c_G_earthOf 5 = .ok (.ineg, 1) := by decide +kernel
theorem d_G_earthOf_6 : decode c_G_earthOf 6 = .ok (.aload_n 0, 1) := by decide +kernel
theorem d_G_earthOf_7 : decode c_G_earthOf 7 = .ok (.getfield 11, 3) := by decide +kernel
theorem d_G_earthOf_10 : decode c_G_earthOf 10 = .ok (.bipush 8, 2) := by decide +kernel
theorem d_G_earthOf_12 : decode c_G_earthOf 12 = .ok (.invokevirtual 30, 3) := by decide +kernel
theorem d_G_earthOf_15 : decode c_G_earthOf 15 = .ok (.imul, 1) := by decide +kernel
theorem d_G_earthOf_16 : decode c_G_earthOf 16 = .ok (.goto 14, 3) := by decide +kernel
theorem d_G_earthOf_19 : decode c_G_earthOf 19 = .ok (.iload_n 1, 1) := by decide +kernel
theorem d_G_earthOf_20 : decode c_G_earthOf 20 = .ok (.aload_n 0, 1) := by decide +kernel
theorem d_G_earthOf_21 : decode c_G_earthOf 21 = .ok (.getfield 11, 3) := by decide +kernel
theorem d_G_earthOf_24 : decode c_G_earthOf 24 = .ok (.bipush 9, 2) := by decide +kernel
theorem d_G_earthOf_26 : decode c_G_earthOf 26 = .ok (.invokevirtual 30, 3) := by decide +kernel
theorem d_G_earthOf_29 : decode c_G_earthOf 29 = .ok (.imul, 1) := by decide +kernel
theorem d_G_earthOf_30 : decode c_G_earthOf 30 = .ok (.ireturn, 1) := by decide +kernel
theorem d_G_settle_0 : decode c_G_settle 0 = .ok (.aload_n 0, 1) := by decide +kernel
theorem d_G_settle_1 : decode c_G_settle 1 = .ok (.getfield 22, 3) := by decide +kernel
theorem d_G_settle_4 : decode c_G_settle 4 = .ok (.istore_n 2, 1) := by decide +kernel
theorem d_G_settle_5 : decode c_G_settle 5 = .ok (.iconst 0, 1) := by decide +kernel
theorem d_G_settle_6 : decode c_G_settle 6 = .ok (.istore_n 3, 1) := by decide +kernel
theorem d_G_settle_7 : decode c_G_settle 7 = .ok (.iconst 0, 1) := by decide +kernel
theorem d_G_settle_8 : decode c_G_settle 8 = .ok (.istore 4, 2) := by decide +kernel
theorem d_G_settle_10 : decode c_G_settle 10 = .ok (.iload 4, 2) := by decide +kernel
theorem d_G_settle_12 : decode c_G_settle 12 = .ok (.aload_n 0, 1) := by decide +kernel
theorem d_G_settle_13 : decode c_G_settle 13 = .ok (.getfield 11, 3) := by decide +kernel
theorem d_G_settle_16 : decode c_G_settle 16 = .ok (.iload_n 1, 1) := by decide +kernel
theorem d_G_settle_17 : decode c_G_settle 17 = .ok (.invokevirtual 39, 3) := by decide +kernel
theorem d_G_settle_20 : decode c_G_settle 20 = .ok (.if_icmp .ge 51, 3) := by decide +kernel
theorem d_G_settle_23 : decode c_G_settle 23 = .ok (.aload_n 0, 1) := by decide +kernel
theorem d_G_settle_24 : decode c_G_settle 24 = .ok (.getfield 11, 3) := by decide +kernel
theorem d_G_settle_27 : decode c_G_settle 27 = .ok (.iload_n 1, 1) := by decide +kernel
theorem d_G_settle_28 : decode c_G_settle 28 = .ok (.iload 4, 2) := by decide +kernel
theorem d_G_settle_30 : decode c_G_settle 30 = .ok (.iload_n 2, 1) := by decide +kernel
theorem d_G_settle_31 : decode c_G_settle 31 = .ok (.invokevirtual 95, 3) := by decide +kernel
theorem d_G_settle_34 : decode c_G_settle 34 = .ok (.iload_n 3, 1) := by decide +kernel
theorem d_G_settle_35 : decode c_G_settle 35 = .ok (.iload_n 2, 1) := by decide +kernel
theorem d_G_settle_36 : decode c_G_settle 36 = .ok (.iadd, 1) := by decide +kernel
theorem d_G_settle_37 : decode c_G_settle 37 = .ok (.istore_n 3, 1) := by decide +kernel
theorem d_G_settle_38 : decode c_G_settle 38 = .ok (.aload_n 0, 1) := by decide +kernel
theorem d_G_settle_39 : decode c_G_settle 39 = .ok (.getfield 19, 3) := by decide +kernel
theorem d_G_settle_42 : decode c_G_settle 42 = .ok (.iload 4, 2) := by decide +kernel
theorem d_G_settle_44 : decode c_G_settle 44 = .ok (.sipush 151, 3) := by decide +kernel
theorem d_G_settle_47 : decode c_G_settle 47 = .ok (.imul, 1) := by decide +kernel
theorem d_G_settle_48 : decode c_G_settle 48 = .ok (.iload_n 3, 1) := by decide +kernel
theorem d_G_settle_49 : decode c_G_settle 49 = .ok (.iadd, 1) := by decide +kernel
theorem d_G_settle_50 : decode c_G_settle 50 = .ok (.bipush 75, 2) := by decide +kernel
theorem d_G_settle_52 : decode c_G_settle 52 = .ok (.iadd, 1) := by decide +kernel
theorem d_G_settle_53 : decode c_G_settle 53 = .ok (.iaload, 1) := by decide +kernel
theorem d_G_settle_54 : decode c_G_settle 54 = .ok (.iload_n 2, 1) := by decide +kernel
theorem d_G_settle_55 : decode c_G_settle 55 = .ok (.invokestatic 63, 3) := by decide +kernel
theorem d_G_settle_58 : decode c_G_settle 58 = .ok (.ishr, 1) := by decide +kernel
theorem d_G_settle_59 : decode c_G_settle 59 = .ok (.bipush 7, 2) := by decide +kernel
theorem d_G_settle_61 : decode c_G_settle 61 = .ok (.iand, 1) := by decide +kernel
theorem d_G_settle_62 : decode c_G_settle 62 = .ok (.iconst 3, 1) := by decide +kernel
theorem d_G_settle_63 : decode c_G_settle 63 = .ok (.isub, 1) := by decide +kernel
theorem d_G_settle_64 : decode c_G_settle 64 = .ok (.istore_n 2, 1) := by decide +kernel
theorem d_G_settle_65 : decode c_G_settle 65 = .ok (.iinc 4 1, 3) := by decide +kernel
theorem d_G_settle_68 : decode c_G_settle 68 = .ok (.goto (-58), 3) := by decide +kernel
theorem d_G_settle_71 : decode c_G_settle 71 = .ok (.return_, 1) := by decide +kernel
theorem d_U_init_0 : decode c_U_init 0 = .ok (.aload_n 0, 1) := by decide +kernel
theorem d_U_init_1 : decode c_U_init 1 = .ok (.invokespecial 3, 3) := by decide +kernel
theorem d_U_init_4 : decode c_U_init 4 = .ok (.aload_n 0, 1) := by decide +kernel
theorem d_U_init_5 : decode c_U_init 5 = .ok (.aload_n 1, 1) := by decide +kernel
theorem d_U_init_6 : decode c_U_init 6 = .ok (.putfield 9, 3) := by decide +kernel
theorem d_U_init_9 : decode c_U_init 9 = .ok (.aload_n 0, 1) := by decide +kernel
theorem d_U_init_10 : decode c_U_init 10 = .ok (.aload_n 2, 1) := by decide +kernel
theorem d_U_init_11 : decode c_U_init 11 = .ok (.putfield 15, 3) := by decide +kernel
theorem d_U_init_14 : decode c_U_init 14 = .ok (.aload_n 0, 1) := by decide +kernel
theorem d_U_init_15 : decode c_U_init 15 = .ok (.aload_n 3, 1) := by decide +kernel
theorem d_U_init_16 : decode c_U_init 16 = .ok (.putfield 19, 3) := by decide +kernel
theorem d_U_init_19 : decode c_U_init 19 = .ok (.aload_n 0, 1) := by decide +kernel
theorem d_U_init_20 : decode c_U_init 20 = .ok (.bipush 81, 2) := by decide +kernel
theorem d_U_init_22 : decode c_U_init 22 = .ok (.newarray .int, 2) := by decide +kernel
theorem d_U_init_24 : decode c_U_init 24 = .ok (.putfield 23, 3) := by decide +kernel
theorem d_U_init_27 : decode c_U_init 27 = .ok (.return_, 1) := by decide +kernel
theorem d_U_answer_0 : decode c_U_answer 0 = .ok (.iload_n 2, 1) := by decide +kernel
theorem d_U_answer_1 : decode c_U_answer 1 = .ok (.tableswitch 165 0 13 #[71, 80, 86, 93, 99, 105, 111, 117, 123, 129, 135, 144, 151, 159], 71) := by decide +kernel
theorem d_U_answer_72 : decode c_U_answer 72 = .ok (.aload_n 0, 1) := by decide +kernel
theorem d_U_answer_73 : decode c_U_answer 73 = .ok (.getfield 9, 3) := by decide +kernel
theorem d_U_answer_76 : decode c_U_answer 76 = .ok (.iload_n 1, 1) := by decide +kernel
theorem d_U_answer_77 : decode c_U_answer 77 = .ok (.invokevirtual 27, 3) := by decide +kernel
theorem d_U_answer_80 : decode c_U_answer 80 = .ok (.ireturn, 1) := by decide +kernel
theorem d_U_answer_81 : decode c_U_answer 81 = .ok (.aload_n 0, 1) := by decide +kernel
theorem d_U_answer_82 : decode c_U_answer 82 = .ok (.iload_n 1, 1) := by decide +kernel
theorem d_U_answer_83 : decode c_U_answer 83 = .ok (.invokevirtual 33, 3) := by decide +kernel
theorem d_U_answer_86 : decode c_U_answer 86 = .ok (.ireturn, 1) := by decide +kernel
theorem d_U_answer_87 : decode c_U_answer 87 = .ok (.aload_n 0, 1) := by decide +kernel
theorem d_U_answer_88 : decode c_U_answer 88 = .ok (.iload_n 1, 1) := by decide +kernel
theorem d_U_answer_89 : decode c_U_answer 89 = .ok (.iconst 1, 1) := by decide +kernel
theorem d_U_answer_90 : decode c_U_answer 90 = .ok (.invokevirtual 36, 3) := by decide +kernel
theorem d_U_answer_93 : decode c_U_answer 93 = .ok (.ireturn, 1) := by decide +kernel
theorem d_U_answer_94 : decode c_U_answer 94 = .ok (.aload_n 0, 1) := by decide +kernel
theorem d_U_answer_95 : decode c_U_answer 95 = .ok (.iload_n 1, 1) := by decide +kernel
theorem d_U_answer_96 : decode c_U_answer 96 = .ok (.invokevirtual 40, 3) := by decide +kernel
theorem d_U_answer_99 : decode c_U_answer 99 = .ok (.ireturn, 1) := by decide +kernel
theorem d_U_answer_100 : decode c_U_answer 100 = .ok (.aload_n 0, 1) := by decide +kernel
theorem d_U_answer_101 : decode c_U_answer 101 = .ok (.iload_n 1, 1) := by decide +kernel
theorem d_U_answer_102 : decode c_U_answer 102 = .ok (.invokevirtual 43, 3) := by decide +kernel
theorem d_U_answer_105 : decode c_U_answer 105 = .ok (.ireturn, 1) := by decide +kernel
theorem d_U_answer_106 : decode c_U_answer 106 = .ok (.aload_n 0, 1) := by decide +kernel
theorem d_U_answer_107 : decode c_U_answer 107 = .ok (.iload_n 1, 1) := by decide +kernel
theorem d_U_answer_108 : decode c_U_answer 108 = .ok (.invokevirtual 46, 3) := by decide +kernel
theorem d_U_answer_111 : decode c_U_answer 111 = .ok (.ireturn, 1) := by decide +kernel
theorem d_U_answer_112 : decode c_U_answer 112 = .ok (.aload_n 0, 1) := by decide +kernel
theorem d_U_answer_113 : decode c_U_answer 113 = .ok (.iload_n 1, 1) := by decide +kernel
theorem d_U_answer_114 : decode c_U_answer 114 = .ok (.invokevirtual 49, 3) := by decide +kernel
theorem d_U_answer_117 : decode c_U_answer 117 = .ok (.ireturn, 1) := by decide +kernel
theorem d_U_answer_118 : decode c_U_answer 118 = .ok (.aload_n 0, 1) := by decide +kernel
theorem d_U_answer_119 : decode c_U_answer 119 = .ok (.iload_n 1, 1) := by decide +kernel
theorem d_U_answer_120 : decode c_U_answer 120 = .ok (.invokevirtual 52, 3) := by decide +kernel
theorem d_U_answer_123 : decode c_U_answer 123 = .ok (.ireturn, 1) := by decide +kernel
theorem d_U_answer_124 : decode c_U_answer 124 = .ok (.aload_n 0, 1) := by decide +kernel
theorem d_U_answer_125 : decode c_U_answer 125 = .ok (.iload_n 1, 1) := by decide +kernel
theorem d_U_answer_126 : decode c_U_answer 126 = .ok (.invokevirtual 55, 3) := by decide +kernel
theorem d_U_answer_129 : decode c_U_answer 129 = .ok (.ireturn, 1) := by decide +kernel
theorem d_U_answer_130 : decode c_U_answer 130 = .ok (.aload_n 0, 1) := by decide +kernel
theorem d_U_answer_131 : decode c_U_answer 131 = .ok (.iload_n 1, 1) := by decide +kernel
theorem d_U_answer_132 : decode c_U_answer 132 = .ok (.invokevirtual 58, 3) := by decide +kernel
theorem d_U_answer_135 : decode c_U_answer 135 = .ok (.ireturn, 1) := by decide +kernel
theorem d_U_answer_136 : decode c_U_answer 136 = .ok (.aload_n 0, 1) := by decide +kernel
theorem d_U_answer_137 : decode c_U_answer 137 = .ok (.getfield 15, 3) := by decide +kernel
theorem d_U_answer_140 : decode c_U_answer 140 = .ok (.iload_n 1, 1) := by decide +kernel
theorem d_U_answer_141 : decode c_U_answer 141 = .ok (.invokevirtual 61, 3) := by decide +kernel
theorem d_U_answer_144 : decode c_U_answer 144 = .ok (.ireturn, 1) := by decide +kernel
theorem d_U_answer_145 : decode c_U_answer 145 = .ok (.aload_n 0, 1) := by decide +kernel
theorem d_U_answer_146 : decode c_U_answer 146 = .ok (.iload_n 1, 1) := by decide +kernel
theorem d_U_answer_147 : decode c_U_answer 147 = .ok (.iconst 1, 1) := by decide +kernel
theorem d_U_answer_148 : decode c_U_answer 148 = .ok (.invokevirtual 66, 3) := by decide +kernel
theorem d_U_answer_151 : decode c_U_answer 151 = .ok (.ireturn, 1) := by decide +kernel
theorem d_U_answer_152 : decode c_U_answer 152 = .ok (.aload_n 0, 1) := by decide +kernel
theorem d_U_answer_153 : decode c_U_answer 153 = .ok (.iload_n 1, 1) := by decide +kernel
theorem d_U_answer_154 : decode c_U_answer 154 = .ok (.iconst (-1), 1) := by decide +kernel
theorem d_U_answer_155 : decode c_U_answer 155 = .ok (.invokevirtual 66, 3) := by decide +kernel
theorem d_U_answer_158 : decode c_U_answer 158 = .ok (.ineg, 1) := by decide +kernel
theorem d_U_answer_159 : decode c_U_answer 159 = .ok (.ireturn, 1) := by decide +kernel
theorem d_U_answer_160 : decode c_U_answer 160 = .ok (.aload_n 0, 1) := by decide +kernel
theorem d_U_answer_161 : decode c_U_answer 161 = .ok (.iload_n 1, 1) := by decide +kernel
theorem d_U_answer_162 : decode c_U_answer 162 = .ok (.invokevirtual 69, 3) := by decide +kernel
theorem d_U_answer_165 : decode c_U_answer 165 = .ok (.ireturn, 1) := by decide +kernel
theorem d_U_answer_166 : decode c_U_answer 166 = .ok (.aload_n 0, 1) := by decide +kernel
theorem d_U_answer_167 : decode c_U_answer 167 = .ok (.iload_n 1, 1) := by decide +kernel
theorem d_U_answer_168 : decode c_U_answer 168 = .ok (.iconst (-1), 1) := by decide +kernel
theorem d_U_answer_169 : decode c_U_answer 169 = .ok (.invokevirtual 36, 3) := by decide +kernel
theorem d_U_answer_172 : decode c_U_answer 172 = .ok (.ireturn, 1) := by decide +kernel
theorem d_U_steps_0 : decode c_U_steps 0 = .ok (.aload_n 0, 1) := by decide +kernel
theorem d_U_steps_1 : decode c_U_steps 1 = .ok (.getfield 9, 3) := by decide +kernel
theorem d_U_steps_4 : decode c_U_steps 4 = .ok (.iload_n 1, 1) := by decide +kernel
theorem d_U_steps_5 : decode c_U_steps 5 = .ok (.invokevirtual 27, 3) := by decide +kernel
theorem d_U_steps_8 : decode c_U_steps 8 = .ok (.iconst 1, 1) := by decide +kernel
theorem d_U_steps_9 : decode c_U_steps 9 = .ok (.isub, 1) := by decide +kernel
theorem d_U_steps_10 : decode c_U_steps 10 = .ok (.ireturn, 1) := by decide +kernel
theorem d_U_longTogether_0 : decode c_U_longTogether 0 = .ok (.iconst 0, 1) := by decide +kernel
theorem d_U_longTogether_1 : decode c_U_longTogether 1 = .ok (.istore_n 2, 1) := by decide +kernel
theorem d_U_longTogether_2 : decode c_U_longTogether 2 = .ok (.iconst 0, 1) := by decide +kernel
theorem d_U_longTogether_3 : decode c_U_longTogether 3 = .ok (.istore_n 3, 1) := by decide +kernel
theorem d_U_longTogether_4 : decode c_U_longTogether 4 = .ok (.iload_n 3, 1) := by decide +kernel
theorem d_U_longTogether_5 : decode c_U_longTogether 5 = .ok (.aload_n 0, 1) := by decide +kernel
theorem d_U_longTogether_6 : decode c_U_longTogether 6 = .ok (.iload_n 1, 1) := by decide +kernel
theorem d_U_longTogether_7 : decode c_U_longTogether 7 = .ok (.invokevirtual 72, 3) := by decide +kernel
theorem d_U_longTogether_10 : decode c_U_longTogether 10 = .ok (.if_icmp .ge 24, 3) := by decide +kernel
theorem d_U_longTogether_13 : decode c_U_longTogether 13 = .ok (.iload_n 2, 1) := by decide +kernel
theorem d_U_longTogether_14 : decode c_U_longTogether 14 = .ok (.aload_n 0, 1) := by decide +kernel
theorem d_U_longTogether_15 : decode c_U_longTogether 15 = .ok (.getfield 9, 3) := by decide +kernel
theorem d_U_longTogether_18 : decode c_U_longTogether 18 = .ok (.iload_n 1, 1) := by decide +kernel
theorem d_U_longTogether_19 : decode c_U_longTogether 19 = .ok (.iload_n 3, 1) := by decide +kernel
theorem d_U_longTogether_20 : decode c_U_longTogether 20 = .ok (.invokevirtual 75, 3) := by decide +kernel
theorem d_U_longTogether_23 : decode c_U_longTogether 23 = .ok (.invokestatic 78, 3) := by decide +kernel
theorem d_U_longTogether_26 : decode c_U_longTogether 26 = .ok (.iadd, 1) := by decide +kernel
theorem d_U_longTogether_27 : decode c_U_longTogether 27 = .ok (.istore_n 2, 1) := by decide +kernel
theorem d_U_longTogether_28 : decode c_U_longTogether 28 = .ok (.iinc 3 1, 3) := by decide +kernel
theorem d_U_longTogether_31 : decode c_U_longTogether 31 = .ok (.goto (-27), 3) := by decide +kernel
theorem d_U_longTogether_34 : decode c_U_longTogether 34 = .ok (.iload_n 2, 1) := by decide +kernel
theorem d_U_longTogether_35 : decode c_U_longTogether 35 = .ok (.ireturn, 1) := by decide +kernel
theorem d_U_climbed_0 : decode c_U_climbed 0 = .ok (.iconst 0, 1) := by decide +kernel
theorem d_U_climbed_1 : decode c_U_climbed 1 = .ok (.istore_n 3, 1) := by decide +kernel
theorem d_U_climbed_2 : decode c_U_climbed 2 = .ok (.iconst 0, 1) := by decide +kernel
theorem d_U_climbed_3 : decode c_U_climbed 3 = .ok (.istore 4, 2) := by decide +kernel
theorem d_U_climbed_5 : decode c_U_climbed 5 = .ok (.iload 4, 2) := by decide +kernel
theorem d_U_climbed_7 : decode c_U_climbed 7 = .ok (.aload_n 0, 1) := by decide +kernel
theorem d_U_climbed_8 : decode c_U_climbed 8 = .ok (.iload_n 1, 1) := by decide +kernel
theorem d_U_climbed_9 : decode c_U_climbed 9 = .ok (.invokevirtual 72, 3) := by decide +kernel
theorem d_U_climbed_12 : decode c_U_climbed 12 = .ok (.if_icmp .ge 59, 3) := by decide +kernel
theorem d_U_climbed_15 : decode c_U_climbed 15 = .ok (.aload_n 0, 1) := by decide +kernel
theorem d_U_climbed_16 : decode c_U_climbed 16 = .ok (.getfield 9, 3) := by decide +kernel
theorem d_U_climbed_19 : decode c_U_climbed 19 = .ok (.aload_n 0, 1) := by decide +kernel
theorem d_U_climbed_20 : decode c_U_climbed 20 = .ok (.getfield 9, 3) := by decide +kernel
theorem d_U_climbed_23 : decode c_U_climbed 23 = .ok (.iload_n 1, 1) := by decide +kernel
theorem d_U_climbed_24 : decode c_U_climbed 24 = .ok (.iload 4, 2) := by decide +kernel
theorem d_U_climbed_26 : decode c_U_climbed 26 = .ok (.iconst 1, 1) := by decide +kernel
theorem d_U_climbed_27 : decode c_U_climbed 27 = .ok (.iadd, 1) := by decide +kernel
theorem d_U_climbed_28 : decode c_U_climbed 28 = .ok (.invokevirtual 81, 3) := by decide +kernel
theorem d_U_climbed_31 : decode c_U_climbed 31 = .ok (.invokevirtual 84, 3) := by decide +kernel
theorem d_U_climbed_34 : decode c_U_climbed 34 = .ok (.aload_n 0, 1) := by decide +kernel
theorem d_U_climbed_35 : decode c_U_climbed 35 = .ok (.getfield 9, 3) := by decide +kernel
theorem d_U_climbed_38 : decode c_U_climbed 38 = .ok (.aload_n 0, 1) := by decide +kernel
theorem d_U_climbed_39 : decode c_U_climbed 39 = .ok (.getfield 9, 3) := by decide +kernel
theorem d_U_climbed_42 : decode c_U_climbed 42 = .ok (.iload_n 1, 1) := by decide +kernel
theorem d_U_climbed_43 : decode c_U_climbed 43 = .ok (.iload 4, 2) := by decide +kernel
theorem d_U_climbed_45 : decode c_U_climbed 45 = .ok (.invokevirtual 81, 3) := by decide +kernel
theorem d_U_climbed_48 : decode c_U_climbed 48 = .ok (.invokevirtual 84, 3) := by decide +kernel
theorem d_U_climbed_51 : decode c_U_climbed 51 = .ok (.isub, 1) := by decide +kernel
theorem d_U_climbed_52 : decode c_U_climbed 52 = .ok (.istore 5, 2) := by decide +kernel
theorem d_U_climbed_54 : decode c_U_climbed 54 = .ok (.iload_n 3, 1) := by decide +kernel
theorem d_U_climbed_55 : decode c_U_climbed 55 = .ok (.iconst 0, 1) := by decide +kernel
theorem d_U_climbed_56 : decode c_U_climbed 56 = .ok (.iload_n 2, 1) := by decide +kernel
theorem d_U_climbed_57 : decode c_U_climbed 57 = .ok (.iload 5, 2) := by decide +kernel
theorem d_U_climbed_59 : decode c_U_climbed 59 = .ok (.imul, 1) := by decide +kernel
theorem d_U_climbed_60 : decode c_U_climbed 60 = .ok (.invokestatic 87, 3) := by decide +kernel
theorem d_U_climbed_63 : decode c_U_climbed 63 = .ok (.iadd, 1) := by decide +kernel
theorem d_U_climbed_64 : decode c_U_climbed 64 = .ok (.istore_n 3, 1) := by decide +kernel
theorem d_U_climbed_65 : decode c_U_climbed 65 = .ok (.iinc 4 1, 3) := by decide +kernel
theorem d_U_climbed_68 : decode c_U_climbed 68 = .ok (.goto (-63), 3) := by decide +kernel
theorem d_U_climbed_71 : decode c_U_climbed 71 = .ok (.iload_n 3, 1) := by decide +kernel
theorem d_U_climbed_72 : decode c_U_climbed 72 = .ok (.ireturn, 1) := by decide +kernel
theorem d_U_bendAt_0 : decode c_U_bendAt 0 = .ok (.aload_n 0, 1) := by decide +kernel
theorem d_U_bendAt_1 : decode c_U_bendAt 1 = .ok (.getfield 9, 3) := by decide +kernel
theorem d_U_bendAt_4 : decode c_U_bendAt 4 = .ok (.iload_n 1, 1) := by decide +kernel
theorem d_U_bendAt_5 : decode c_U_bendAt 5 = .ok (.iload_n 2, 1) := by decide +kernel
theorem d_U_bendAt_6 : decode c_U_bendAt 6 = .ok (.iconst 1, 1) := by decide +kernel
theorem d_U_bendAt_7 : decode c_U_bendAt 7 = .ok (.isub, 1) := by decide +kernel
theorem d_U_bendAt_8 : decode c_U_bendAt 8 = .ok (.invokevirtual 75, 3) := by decide +kernel
theorem d_U_bendAt_11 : decode c_U_bendAt 11 = .ok (.aload_n 0, 1) := by decide +kernel
theorem d_U_bendAt_12 : decode c_U_bendAt 12 = .ok (.getfield 9, 3) := by decide +kernel
theorem d_U_bendAt_15 : decode c_U_bendAt 15 = .ok (.iload_n 1, 1) := by decide +kernel
theorem d_U_bendAt_16 : decode c_U_bendAt 16 = .ok (.iload_n 2, 1) := by decide +kernel
theorem d_U_bendAt_17 : decode c_U_bendAt 17 = .ok (.invokevirtual 75, 3) := by decide +kernel
theorem d_U_bendAt_20 : decode c_U_bendAt 20 = .ok (.invokestatic 92, 3) := by decide +kernel
theorem d_U_bendAt_23 : decode c_U_bendAt 23 = .ok (.ireturn, 1) := by decide +kernel
theorem d_U_costTogether_0 : decode c_U_costTogether 0 = .ok (.iconst 0, 1) := by decide +kernel
theorem d_U_costTogether_1 : decode c_U_costTogether 1 = .ok (.istore_n 2, 1) := by decide +kernel
theorem d_U_costTogether_2 : decode c_U_costTogether 2 = .ok (.iconst 0, 1) := by decide +kernel
theorem d_U_costTogether_3 : decode c_U_costTogether 3 = .ok (.istore_n 3, 1) := by decide +kernel
theorem d_U_costTogether_4 : decode c_U_costTogether 4 = .ok (.iload_n 3, 1) := by decide +kernel
theorem d_U_costTogether_5 : decode c_U_costTogether 5 = .ok (.aload_n 0, 1) := by decide +kernel
theorem d_U_costTogether_6 : decode c_U_costTogether 6 = .ok (.iload_n 1, 1) := by decide +kernel
theorem d_U_costTogether_7 : decode c_U_costTogether 7 = .ok (.invokevirtual 72, 3) := by decide +kernel
theorem d_U_costTogether_10 : decode c_U_costTogether 10 = .ok (.if_icmp .ge 61, 3) := by decide +kernel
theorem d_U_costTogether_13 : decode c_U_costTogether 13 = .ok (.iload_n 2, 1) := by decide +kernel
theorem d_U_costTogether_14 : decode c_U_costTogether 14 = .ok (.aload_n 0, 1) := by decide +kernel
theorem d_U_costTogether_15 : decode c_U_costTogether 15 = .ok (.getfield 9, 3) := by decide +kernel
theorem d_U_costTogether_18 : decode c_U_costTogether 18 = .ok (.aload_n 0, 1) := by decide +kernel
theorem d_U_costTogether_19 : decode c_U_costTogether 19 = .ok (.getfield 9, 3) := by decide +kernel
theorem d_U_costTogether_22 : decode c_U_costTogether 22 = .ok (.iload_n 1, 1) := by decide +kernel
theorem d_U_costTogether_23 : decode c_U_costTogether 23 = .ok (.iload_n 3, 1) := by decide +kernel
theorem d_U_costTogether_24 : decode c_U_costTogether 24 = .ok (.invokevirtual 81, 3) := by decide +kernel
theorem d_U_costTogether_27 : decode c_U_costTogether 27 = .ok (.aload_n 0, 1) := by decide +kernel
theorem d_U_costTogether_28 : decode c_U_costTogether 28 = .ok (.getfield 9, 3) := by decide +kernel
theorem d_U_costTogether_31 : decode c_U_costTogether 31 = .ok (.iload_n 1, 1) := by decide +kernel
theorem d_U_costTogether_32 : decode c_U_costTogether 32 = .ok (.iload_n 3, 1) := by decide +kernel
theorem d_U_costTogether_33 : decode c_U_costTogether 33 = .ok (.invokevirtual 75, 3) := by decide +kernel
theorem d_U_costTogether_36 : decode c_U_costTogether 36 = .ok (.invokevirtual 95, 3) := by decide +kernel
theorem d_U_costTogether_39 : decode c_U_costTogether 39 = .ok (.iadd, 1) := by decide +kernel
theorem d_U_costTogether_40 : decode c_U_costTogether 40 = .ok (.istore_n 2, 1) := by decide +kernel
theorem d_U_costTogether_41 : decode c_U_costTogether 41 = .ok (.iload_n 2, 1) := by decide +kernel
theorem d_U_costTogether_42 : decode c_U_costTogether 42 = .ok (.iload_n 3, 1) := by decide +kernel
theorem d_U_costTogether_43 : decode c_U_costTogether 43 = .ok (.ifCond .ne 7, 3) := by decide +kernel
theorem d_U_costTogether_46 : decode c_U_costTogether 46 = .ok (.iconst 0, 1) := by decide +kernel
theorem d_U_costTogether_47 : decode c_U_costTogether 47 = .ok (.goto 16, 3) := by decide +kernel
theorem d_U_costTogether_50 : decode c_U_costTogether 50 = .ok (.aload_n 0, 1) := by decide +kernel
theorem d_U_costTogether_51 : decode c_U_costTogether 51 = .ok (.getfield 9, 3) := by decide +kernel
theorem d_U_costTogether_54 : decode c_U_costTogether 54 = .ok (.aload_n 0, 1) := by decide +kernel
theorem d_U_costTogether_55 : decode c_U_costTogether 55 = .ok (.iload_n 1, 1) := by decide +kernel
theorem d_U_costTogether_56 : decode c_U_costTogether 56 = .ok (.iload_n 3, 1) := by decide +kernel
theorem d_U_costTogether_57 : decode c_U_costTogether 57 = .ok (.invokevirtual 98, 3) := by decide +kernel
theorem d_U_costTogether_60 : decode c_U_costTogether 60 = .ok (.invokevirtual 101, 3) := by decide +kernel
theorem d_U_costTogether_63 : decode c_U_costTogether 63 = .ok (.iadd, 1) := by decide +kernel
theorem d_U_costTogether_64 : decode c_U_costTogether 64 = .ok (.istore_n 2, 1) := by decide +kernel
theorem d_U_costTogether_65 : decode c_U_costTogether 65 = .ok (.iinc 3 1, 3) := by decide +kernel
theorem d_U_costTogether_68 : decode c_U_costTogether 68 = .ok (.goto (-64), 3) := by decide +kernel
theorem d_U_costTogether_71 : decode c_U_costTogether 71 = .ok (.iload_n 2, 1) := by decide +kernel
theorem d_U_costTogether_72 : decode c_U_costTogether 72 = .ok (.ireturn, 1) := by decide +kernel
theorem d_U_hairpins_0 : decode c_U_hairpins 0 = .ok (.iconst 0, 1) := by decide +kernel
theorem d_U_hairpins_1 : decode c_U_hairpins 1 = .ok (.istore_n 2, 1) := by decide +kernel
theorem d_U_hairpins_2 : decode c_U_hairpins 2 = .ok (.iconst 1, 1) := by decide +kernel
theorem d_U_hairpins_3 : decode c_U_hairpins 3 = .ok (.istore_n 3, 1) := by decide +kernel
theorem d_U_hairpins_4 : decode c_U_hairpins 4 = .ok (.iload_n 3, 1) := by decide +kernel
theorem d_U_hairpins_5 : decode c_U_hairpins 5 = .ok (.aload_n 0, 1) := by decide +kernel
theorem d_U_hairpins_6 : decode c_U_hairpins 6 = .ok (.iload_n 1, 1) := by decide +kernel
theorem d_U_hairpins_7 : decode c_U_hairpins 7 = .ok (.invokevirtual 72, 3) := by decide +kernel
theorem d_U_hairpins_10 : decode c_U_hairpins 10 = .ok (.if_icmp .ge 34, 3) := by decide +kernel
theorem d_U_hairpins_13 : decode c_U_hairpins 13 = .ok (.iload_n 2, 1) := by decide +kernel
theorem d_U_hairpins_14 : decode c_U_hairpins 14 = .ok (.aload_n 0, 1) := by decide +kernel
theorem d_U_hairpins_15 : decode c_U_hairpins 15 = .ok (.iload_n 1, 1) := by decide +kernel
theorem d_U_hairpins_16 : decode c_U_hairpins 16 = .ok (.iload_n 3, 1) := by decide +kernel
theorem d_U_hairpins_17 : decode c_U_hairpins 17 = .ok (.invokevirtual 98, 3) := by decide +kernel
theorem d_U_hairpins_20 : decode c_U_hairpins 20 = .ok (.aload_n 0, 1) := by decide +kernel
theorem d_U_hairpins_21 : decode c_U_hairpins 21 = .ok (.getfield 9, 3) := by decide +kernel
theorem d_U_hairpins_24 : decode c_U_hairpins 24 = .ok (.iconst 1, 1) := by decide +kernel
theorem d_U_hairpins_25 : decode c_U_hairpins 25 = .ok (.invokevirtual 104, 3) := by decide +kernel
theorem d_U_hairpins_28 : decode c_U_hairpins 28 = .ok (.if_icmp .le 7, 3) := by decide +kernel
theorem d_U_hairpins_31 : decode c_U_hairpins 31 = .ok (.iconst 1, 1) := by decide +kernel
theorem d_U_hairpins_32 : decode c_U_hairpins 32 = .ok (.goto 4, 3) := by decide +kernel
theorem d_U_hairpins_35 : decode c_U_hairpins 35 = .ok (.iconst 0, 1) := by decide +kernel
theorem d_U_hairpins_36 : decode c_U_hairpins 36 = .ok (.iadd, 1) := by decide +kernel
theorem d_U_hairpins_37 : decode c_U_hairpins 37 = .ok (.istore_n 2, 1) := by decide +kernel
theorem d_U_hairpins_38 : decode c_U_hairpins 38 = .ok (.iinc 3 1, 3) := by decide +kernel
theorem d_U_hairpins_41 : decode c_U_hairpins 41 = .ok (.goto (-37), 3) := by decide +kernel
theorem d_U_hairpins_44 : decode c_U_hairpins 44 = .ok (.iload_n 2, 1) := by decide +kernel
theorem d_U_hairpins_45 : decode c_U_hairpins 45 = .ok (.ireturn, 1) := by decide +kernel
theorem d_U_firstBrokenStep_0 : decode c_U_firstBrokenStep 0 = .ok (.iconst 0, 1) := by decide +kernel
theorem d_U_firstBrokenStep_1 : decode c_U_firstBrokenStep 1 = .ok (.istore_n 2, 1) := by decide +kernel
theorem d_U_firstBrokenStep_2 : decode c_U_firstBrokenStep 2 = .ok (.iload_n 2, 1) := by decide +kernel
theorem d_U_firstBrokenStep_3 : decode c_U_firstBrokenStep 3 = .ok (.aload_n 0, 1) := by decide +kernel
theorem d_U_firstBrokenStep_4 : decode c_U_firstBrokenStep 4 = .ok (.iload_n 1, 1) := by decide +kernel
theorem d_U_firstBrokenStep_5 : decode c_U_firstBrokenStep 5 = .ok (.invokevirtual 72, 3) := by decide +kernel
theorem d_U_firstBrokenStep_8 : decode c_U_firstBrokenStep 8 = .ok (.if_icmp .ge 39, 3) := by decide +kernel
theorem d_U_firstBrokenStep_11 : decode c_U_firstBrokenStep 11 = .ok (.aload_n 0, 1) := by decide +kernel
theorem d_U_firstBrokenStep_12 : decode c_U_firstBrokenStep 12 = .ok (.getfield 9, 3) := by decide +kernel
theorem d_U_firstBrokenStep_15 : decode c_U_firstBrokenStep 15 = .ok (.aload_n 0, 1) := by decide +kernel
theorem d_U_firstBrokenStep_16 : decode c_U_firstBrokenStep 16 = .ok (.getfield 9, 3) := by decide +kernel
theorem d_U_firstBrokenStep_19 : decode c_U_firstBrokenStep 19 = .ok (.iload_n 1, 1) := by decide +kernel
theorem d_U_firstBrokenStep_20 : decode c_U_firstBrokenStep 20 = .ok (.iload_n 2, 1) := by decide +kernel
theorem d_U_firstBrokenStep_21 : decode c_U_firstBrokenStep 21 = .ok (.invokevirtual 81, 3) := by decide +kernel
theorem d_U_firstBrokenStep_24 : decode c_U_firstBrokenStep 24 = .ok (.aload_n 0, 1) := by decide +kernel
theorem d_U_firstBrokenStep_25 : decode c_U_firstBrokenStep 25 = .ok (.getfield 9, 3) := by decide +kernel
theorem d_U_firstBrokenStep_28 : decode c_U_firstBrokenStep 28 = .ok (.iload_n 1, 1) := by decide +kernel
theorem d_U_firstBrokenStep_29 : decode c_U_firstBrokenStep 29 = .ok (.iload_n 2, 1) := by decide +kernel
theorem d_U_firstBrokenStep_30 : decode c_U_firstBrokenStep 30 = .ok (.invokevirtual 75, 3) := by decide +kernel
theorem d_U_firstBrokenStep_33 : decode c_U_firstBrokenStep 33 = .ok (.invokevirtual 107, 3) := by decide +kernel
theorem d_U_firstBrokenStep_36 : decode c_U_firstBrokenStep 36 = .ok (.ifCond .ne 5, 3) := by decide +kernel
theorem d_U_firstBrokenStep_39 : decode c_U_firstBrokenStep 39 = .ok (.iload_n 2, 1) := by decide +kernel
theorem d_U_firstBrokenStep_40 : decode c_U_firstBrokenStep 40 = .ok (.ireturn, 1) := by decide +kernel
theorem d_U_firstBrokenStep_41 : decode c_U_firstBrokenStep 41 = .ok (.iinc 2 1, 3) := by decide +kernel
theorem d_U_firstBrokenStep_44 : decode c_U_firstBrokenStep 44 = .ok (.goto (-42), 3) := by decide +kernel
theorem d_U_firstBrokenStep_47 : decode c_U_firstBrokenStep 47 = .ok (.iconst (-1), 1) := by decide +kernel
theorem d_U_firstBrokenStep_48 : decode c_U_firstBrokenStep 48 = .ok (.ireturn, 1) := by decide +kernel
theorem d_U_firstBrokenBend_0 : decode c_U_firstBrokenBend 0 = .ok (.iconst 1, 1) := by decide +kernel
theorem d_U_firstBrokenBend_1 : decode c_U_firstBrokenBend 1 = .ok (.istore_n 2, 1) := by decide +kernel
theorem d_U_firstBrokenBend_2 : decode c_U_firstBrokenBend 2 = .ok (.iload_n 2, 1) := by decide +kernel
theorem d_U_firstBrokenBend_3 : decode c_U_firstBrokenBend 3 = .ok (.aload_n 0, 1) := by decide +kernel
theorem d_U_firstBrokenBend_4 : decode c_U_firstBrokenBend 4 = .ok (.iload_n 1, 1) := by decide +kernel
theorem d_U_firstBrokenBend_5 : decode c_U_firstBrokenBend 5 = .ok (.invokevirtual 72, 3) := by decide +kernel
theorem d_U_firstBrokenBend_8 : decode c_U_firstBrokenBend 8 = .ok (.if_icmp .ge 47, 3) := by decide +kernel
theorem d_U_firstBrokenBend_11 : decode c_U_firstBrokenBend 11 = .ok (.aload_n 0, 1) := by decide +kernel
theorem d_U_firstBrokenBend_12 : decode c_U_firstBrokenBend 12 = .ok (.iload_n 1, 1) := by decide +kernel
theorem d_U_firstBrokenBend_13 : decode c_U_firstBrokenBend 13 = .ok (.iload_n 2, 1) := by decide +kernel
theorem d_U_firstBrokenBend_14 : decode c_U_firstBrokenBend 14 = .ok (.invokevirtual 98, 3) := by decide +kernel
theorem d_U_firstBrokenBend_17 : decode c_U_firstBrokenBend 17 = .ok (.aload_n 0, 1) := by decide +kernel
theorem d_U_firstBrokenBend_18 : decode c_U_firstBrokenBend 18 = .ok (.getfield 9, 3) := by decide +kernel
theorem d_U_firstBrokenBend_21 : decode c_U_firstBrokenBend 21 = .ok (.iconst 1, 1) := by decide +kernel
theorem d_U_firstBrokenBend_22 : decode c_U_firstBrokenBend 22 = .ok (.invokevirtual 104, 3) := by decide +kernel
theorem d_U_firstBrokenBend_25 : decode c_U_firstBrokenBend 25 = .ok (.if_icmp .le 24, 3) := by decide +kernel
theorem d_U_firstBrokenBend_28 : decode c_U_firstBrokenBend 28 = .ok (.aload_n 0, 1) := by decide +kernel
theorem d_U_firstBrokenBend_29 : decode c_U_firstBrokenBend 29 = .ok (.getfield 9, 3) := by decide +kernel
theorem d_U_firstBrokenBend_32 : decode c_U_firstBrokenBend 32 = .ok (.aload_n 0, 1) := by decide +kernel
theorem d_U_firstBrokenBend_33 : decode c_U_firstBrokenBend 33 = .ok (.getfield 9, 3) := by decide +kernel
theorem d_U_firstBrokenBend_36 : decode c_U_firstBrokenBend 36 = .ok (.iload_n 1, 1) := by decide +kernel
theorem d_U_firstBrokenBend_37 : decode c_U_firstBrokenBend 37 = .ok (.iload_n 2, 1) := by decide +kernel
theorem d_U_firstBrokenBend_38 : decode c_U_firstBrokenBend 38 = .ok (.invokevirtual 81, 3) := by decide +kernel
theorem d_U_firstBrokenBend_41 : decode c_U_firstBrokenBend 41 = .ok (.invokevirtual 111, 3) := by decide +kernel
theorem d_U_firstBrokenBend_44 : decode c_U_firstBrokenBend 44 = .ok (.ifCond .ne 5, 3) := by decide +kernel
theorem d_U_firstBrokenBend_47 : decode c_U_firstBrokenBend 47 = .ok (.iload_n 2, 1) := by decide +kernel
theorem d_U_firstBrokenBend_48 : decode c_U_firstBrokenBend 48 = .ok (.ireturn, 1) := by decide +kernel
theorem d_U_firstBrokenBend_49 : decode c_U_firstBrokenBend 49 = .ok (.iinc 2 1, 3) := by decide +kernel
theorem d_U_firstBrokenBend_52 : decode c_U_firstBrokenBend 52 = .ok (.goto (-50), 3) := by decide +kernel
theorem d_U_firstBrokenBend_55 : decode c_U_firstBrokenBend 55 = .ok (.iconst (-1), 1) := by decide +kernel
theorem d_U_firstBrokenBend_56 : decode c_U_firstBrokenBend 56 = .ok (.ireturn, 1) := by decide +kernel
theorem d_U_levelAt_0 : decode c_U_levelAt 0 = .ok (.aload_n 0, 1) := by decide +kernel
theorem d_U_levelAt_1 : decode c_U_levelAt 1 = .ok (.getfield 9, 3) := by decide +kernel
theorem d_U_levelAt_4 : decode c_U_levelAt 4 = .ok (.aload_n 0, 1) := by decide +kernel
theorem d_U_levelAt_5 : decode c_U_levelAt 5 = .ok (.getfield 9, 3) := by decide +kernel
theorem d_U_levelAt_8 : decode c_U_levelAt 8 = .ok (.iload_n 1, 1) := by decide +kernel
theorem d_U_levelAt_9 : decode c_U_levelAt 9 = .ok (.iload_n 2, 1) := by decide +kernel
theorem d_U_levelAt_10 : decode c_U_levelAt 10 = .ok (.invokevirtual 81, 3) := by decide +kernel
theorem d_U_levelAt_13 : decode c_U_levelAt 13 = .ok (.invokevirtual 84, 3) := by decide +kernel
theorem d_U_levelAt_16 : decode c_U_levelAt 16 = .ok (.aload_n 0, 1) := by decide +kernel
theorem d_U_levelAt_17 : decode c_U_levelAt 17 = .ok (.getfield 9, 3) := by decide +kernel
theorem d_U_levelAt_20 : decode c_U_levelAt 20 = .ok (.iload_n 1, 1) := by decide +kernel
theorem d_U_levelAt_21 : decode c_U_levelAt 21 = .ok (.iload_n 2, 1) := by decide +kernel
theorem d_U_levelAt_22 : decode c_U_levelAt 22 = .ok (.invokevirtual 115, 3) := by decide +kernel
theorem d_U_levelAt_25 : decode c_U_levelAt 25 = .ok (.iadd, 1) := by decide +kernel
theorem d_U_levelAt_26 : decode c_U_levelAt 26 = .ok (.ireturn, 1) := by decide +kernel
theorem d_U_steepest_0 : decode c_U_steepest 0 = .ok (.iconst 0, 1) := by decide +kernel
theorem d_U_steepest_1 : decode c_U_steepest 1 = .ok (.istore_n 2, 1) := by decide +kernel
theorem d_U_steepest_2 : decode c_U_steepest 2 = .ok (.iconst 0, 1) := by decide +kernel
theorem d_U_steepest_3 : decode c_U_steepest 3 = .ok (.istore_n 3, 1) := by decide +kernel
theorem d_U_steepest_4 : decode c_U_steepest 4 = .ok (.iconst 1, 1) := by decide +kernel
theorem d_U_steepest_5 : decode c_U_steepest 5 = .ok (.istore 4, 2) := by decide +kernel
theorem d_U_steepest_7 : decode c_U_steepest 7 = .ok (.iconst 0, 1) := by decide +kernel
theorem d_U_steepest_8 : decode c_U_steepest 8 = .ok (.istore 5, 2) := by decide +kernel
theorem d_U_steepest_10 : decode c_U_steepest 10 = .ok (.iload 5, 2) := by decide +kernel
theorem d_U_steepest_12 : decode c_U_steepest 12 = .ok (.aload_n 0, 1) := by decide +kernel
theorem d_U_steepest_13 : decode c_U_steepest 13 = .ok (.iload_n 1, 1) := by decide +kernel
theorem d_U_steepest_14 : decode c_U_steepest 14 = .ok (.invokevirtual 72, 3) := by decide +kernel
theorem d_U_steepest_17 : decode c_U_steepest 17 = .ok (.if_icmp .ge 68, 3) := by decide +kernel
theorem d_U_steepest_20 : decode c_U_steepest 20 = .ok (.aload_n 0, 1) := by decide +kernel
theorem d_U_steepest_21 : decode c_U_steepest 21 = .ok (.iload_n 1, 1) := by decide +kernel
theorem d_U_steepest_22 : decode c_U_steepest 22 = .ok (.iload 5, 2) := by decide +kernel
theorem d_U_steepest_24 : decode c_U_steepest 24 = .ok (.iconst 1, 1) := by decide +kernel
theorem d_U_steepest_25 : decode c_U_steepest 25 = .ok (.iadd, 1) := by decide +kernel
theorem d_U_steepest_26 : decode c_U_steepest 26 = .ok (.invokevirtual 118, 3) := by decide +kernel
theorem d_U_steepest_29 : decode c_U_steepest 29 = .ok (.aload_n 0, 1) := by decide +kernel
theorem d_U_steepest_30 : decode c_U_steepest 30 = .ok (.iload_n 1, 1) := by decide +kernel
theorem d_U_steepest_31 : decode c_U_steepest 31 = .ok (.iload 5, 2) := by decide +kernel
theorem d_U_steepest_33 : decode c_U_steepest 33 = .ok (.invokevirtual 118, 3) := by decide +kernel
theorem d_U_steepest_36 : decode c_U_steepest 36 = .ok (.isub, 1) := by decide +kernel
theorem d_U_steepest_37 : decode c_U_steepest 37 = .ok (.invokestatic 121, 3) := by decide +kernel
theorem d_U_steepest_40 : decode c_U_steepest 40 = .ok (.istore 6, 2) := by decide +kernel
theorem d_U_steepest_42 : decode c_U_steepest 42 = .ok (.aload_n 0, 1) := by decide +kernel
theorem d_U_steepest_43 : decode c_U_steepest 43 = .ok (.getfield 9, 3) := by decide +kernel
theorem d_U_steepest_46 : decode c_U_steepest 46 = .ok (.iload_n 1, 1) := by decide +kernel
theorem d_U_steepest_47 : decode c_U_steepest 47 = .ok (.iload 5, 2) := by decide +kernel
theorem d_U_steepest_49 : decode c_U_steepest 49 = .ok (.invokevirtual 75, 3) := by decide +kernel
theorem d_U_steepest_52 : decode c_U_steepest 52 = .ok (.invokestatic 78, 3) := by decide +kernel
theorem d_U_steepest_55 : decode c_U_steepest 55 = .ok (.istore 7, 2) := by decide +kernel
theorem d_U_steepest_57 : decode c_U_steepest 57 = .ok (.iload 6, 2) := by decide +kernel
theorem d_U_steepest_59 : decode c_U_steepest 59 = .ok (.iload 4, 2) := by decide +kernel
theorem d_U_steepest_61 : decode c_U_steepest 61 = .ok (.imul, 1) := by decide +kernel
theorem d_U_steepest_62 : decode c_U_steepest 62 = .ok (.iload_n 3, 1) := by decide +kernel
theorem d_U_steepest_63 : decode c_U_steepest 63 = .ok (.iload 7, 2) := by decide +kernel
theorem d_U_steepest_65 : decode c_U_steepest 65 = .ok (.imul, 1) := by decide +kernel
theorem d_U_steepest_66 : decode c_U_steepest 66 = .ok (.if_icmp .le 13, 3) := by decide +kernel
theorem d_U_steepest_69 : decode c_U_steepest 69 = .ok (.iload 5, 2) := by decide +kernel
theorem d_U_steepest_71 : decode c_U_steepest 71 = .ok (.istore_n 2, 1) := by decide +kernel
theorem d_U_steepest_72 : decode c_U_steepest 72 = .ok (.iload 6, 2) := by decide +kernel
theorem d_U_steepest_74 : decode c_U_steepest 74 = .ok (.istore_n 3, 1) := by decide +kernel
theorem d_U_steepest_75 : decode c_U_steepest 75 = .ok (.iload 7, 2) := by decide +kernel
theorem d_U_steepest_77 : decode c_U_steepest 77 = .ok (.istore 4, 2) := by decide +kernel
theorem d_U_steepest_79 : decode c_U_steepest 79 = .ok (.iinc 5 1, 3) := by decide +kernel
theorem d_U_steepest_82 : decode c_U_steepest 82 = .ok (.goto (-72), 3) := by decide +kernel
theorem d_U_steepest_85 : decode c_U_steepest 85 = .ok (.iload_n 2, 1) := by decide +kernel
theorem d_U_steepest_86 : decode c_U_steepest 86 = .ok (.ireturn, 1) := by decide +kernel
theorem d_U_earthTogether_0 : decode c_U_earthTogether 0 = .ok (.iconst 0, 1) := by decide +kernel
theorem d_U_earthTogether_1 : decode c_U_earthTogether 1 = .ok (.istore_n 2, 1) := by decide +kernel
theorem d_U_earthTogether_2 : decode c_U_earthTogether 2 = .ok (.iconst 0, 1) := by decide +kernel
theorem d_U_earthTogether_3 : decode c_U_earthTogether 3 = .ok (.istore_n 3, 1) := by decide +kernel
theorem d_U_earthTogether_4 : decode c_U_earthTogether 4 = .ok (.iload_n 3, 1) := by decide +kernel
theorem d_U_earthTogether_5 : decode c_U_earthTogether 5 = .ok (.aload_n 0, 1) := by decide +kernel
theorem d_U_earthTogether_6 : decode c_U_earthTogether 6 = .ok (.getfield 9, 3) := by decide +kernel
theorem d_U_earthTogether_9 : decode c_U_earthTogether 9 = .ok (.iload_n 1, 1) := by decide +kernel
theorem d_U_earthTogether_10 : decode c_U_earthTogether 10 = .ok (.invokevirtual 27, 3) := by decide +kernel
theorem d_U_earthTogether_13 : decode c_U_earthTogether 13 = .ok (.if_icmp .ge 28, 3) := by decide +kernel
theorem d_U_earthTogether_16 : decode c_U_earthTogether 16 = .ok (.iload_n 2, 1) := by decide +kernel
theorem d_U_earthTogether_17 : decode c_U_earthTogether 17 = .ok (.aload_n 0, 1) := by decide +kernel
theorem d_U_earthTogether_18 : decode c_U_earthTogether 18 = .ok (.getfield 15, 3) := by decide +kernel
theorem d_U_earthTogether_21 : decode c_U_earthTogether 21 = .ok (.aload_n 0, 1) := by decide +kernel
theorem d_U_earthTogether_22 : decode c_U_earthTogether 22 = .ok (.getfield 9, 3) := by decide +kernel
theorem d_U_earthTogether_25 : decode c_U_earthTogether 25 = .ok (.iload_n 1, 1) := by decide +kernel
theorem d_U_earthTogether_26 : decode c_U_earthTogether 26 = .ok (.iload_n 3, 1) := by decide +kernel
theorem d_U_earthTogether_27 : decode c_U_earthTogether 27 = .ok (.invokevirtual 115, 3) := by decide +kernel
theorem d_U_earthTogether_30 : decode c_U_earthTogether 30 = .ok (.invokevirtual 124, 3) := by decide +kernel
theorem d_U_earthTogether_33 : decode c_U_earthTogether 33 = .ok (.iadd, 1) := by decide +kernel
theorem d_U_earthTogether_34 : decode c_U_earthTogether 34 = .ok (.istore_n 2, 1) := by decide +kernel
theorem d_U_earthTogether_35 : decode c_U_earthTogether 35 = .ok (.iinc 3 1, 3) := by decide +kernel
theorem d_U_earthTogether_38 : decode c_U_earthTogether 38 = .ok (.goto (-34), 3) := by decide +kernel
theorem d_U_earthTogether_41 : decode c_U_earthTogether 41 = .ok (.iload_n 2, 1) := by decide +kernel
theorem d_U_earthTogether_42 : decode c_U_earthTogether 42 = .ok (.ireturn, 1) := by decide +kernel
theorem d_U_offsetsTogether_0 : decode c_U_offsetsTogether 0 = .ok (.iconst 0, 1) := by decide +kernel
theorem d_U_offsetsTogether_1 : decode c_U_offsetsTogether 1 = .ok (.istore_n 2, 1) := by decide +kernel
theorem d_U_offsetsTogether_2 : decode c_U_offsetsTogether 2 = .ok (.iconst 0, 1) := by decide +kernel
theorem d_U_offsetsTogether_3 : decode c_U_offsetsTogether 3 = .ok (.istore_n 3, 1) := by decide +kernel
theorem d_U_offsetsTogether_4 : decode c_U_offsetsTogether 4 = .ok (.iload_n 3, 1) := by decide +kernel
theorem d_U_offsetsTogether_5 : decode c_U_offsetsTogether 5 = .ok (.aload_n 0, 1) := by decide +kernel
theorem d_U_offsetsTogether_6 : decode c_U_offsetsTogether 6 = .ok (.getfield 9, 3) := by decide +kernel
theorem d_U_offsetsTogether_9 : decode c_U_offsetsTogether 9 = .ok (.iload_n 1, 1) := by decide +kernel
theorem d_U_offsetsTogether_10 : decode c_U_offsetsTogether 10 = .ok (.invokevirtual 27, 3) := by decide +kernel
theorem d_U_offsetsTogether_13 : decode c_U_offsetsTogether 13 = .ok (.if_icmp .ge 21, 3) := by decide +kernel
theorem d_U_offsetsTogether_16 : decode c_U_offsetsTogether 16 = .ok (.iload_n 2, 1) := by decide +kernel
theorem d_U_offsetsTogether_17 : decode c_U_offsetsTogether 17 = .ok (.aload_n 0, 1) := by decide +kernel
theorem d_U_offsetsTogether_18 : decode c_U_offsetsTogether 18 = .ok (.getfield 9, 3) := by decide +kernel
theorem d_U_offsetsTogether_21 : decode c_U_offsetsTogether 21 = .ok (.iload_n 1, 1) := by decide +kernel
theorem d_U_offsetsTogether_22 : decode c_U_offsetsTogether 22 = .ok (.iload_n 3, 1) := by decide +kernel
theorem d_U_offsetsTogether_23 : decode c_U_offsetsTogether 23 = .ok (.invokevirtual 115, 3) := by decide +kernel
theorem d_U_offsetsTogether_26 : decode c_U_offsetsTogether 26 = .ok (.iadd, 1) := by decide +kernel
theorem d_U_offsetsTogether_27 : decode c_U_offsetsTogether 27 = .ok (.istore_n 2, 1) := by decide +kernel
theorem d_U_offsetsTogether_28 : decode c_U_offsetsTogether 28 = .ok (.iinc 3 1, 3) := by decide +kernel
theorem d_U_offsetsTogether_31 : decode c_U_offsetsTogether 31 = .ok (.goto (-27), 3) := by decide +kernel
theorem d_U_offsetsTogether_34 : decode c_U_offsetsTogether 34 = .ok (.iload_n 2, 1) := by decide +kernel
theorem d_U_offsetsTogether_35 : decode c_U_offsetsTogether 35 = .ok (.ireturn, 1) := by decide +kernel
theorem d_U_greatestLevel_0 : decode c_U_greatestLevel 0 = .ok (.ldc 127, 2) := by decide +kernel
theorem d_U_greatestLevel_2 : decode c_U_greatestLevel 2 = .ok (.istore_n 3, 1) := by decide +kernel
theorem d_U_greatestLevel_3 : decode c_U_greatestLevel 3 = .ok (.iconst 0, 1) := by decide +kernel
theorem d_U_greatestLevel_4 : decode c_U_greatestLevel 4 = .ok (.istore 4, 2) := by decide +kernel
theorem d_U_greatestLevel_6 : decode c_U_greatestLevel 6 = .ok (.iload 4, 2) := by decide +kernel
theorem d_U_greatestLevel_8 : decode c_U_greatestLevel 8 = .ok (.aload_n 0, 1) := by decide +kernel
theorem d_U_greatestLevel_9 : decode c_U_greatestLevel 9 = .ok (.getfield 9, 3) := by decide +kernel
theorem d_U_greatestLevel_12 : decode c_U_greatestLevel 12 = .ok (.iload_n 1, 1) := by decide +kernel
theorem d_U_greatestLevel_13 : decode c_U_greatestLevel 13 = .ok (.invokevirtual 27, 3) := by decide +kernel
theorem d_U_greatestLevel_16 : decode c_U_greatestLevel 16 = .ok (.if_icmp .ge 23, 3) := by decide +kernel
theorem d_U_greatestLevel_19 : decode c_U_greatestLevel 19 = .ok (.iload_n 3, 1) := by decide +kernel
theorem d_U_greatestLevel_20 : decode c_U_greatestLevel 20 = .ok (.iload_n 2, 1) := by decide +kernel
theorem d_U_greatestLevel_21 : decode c_U_greatestLevel 21 = .ok (.aload_n 0, 1) := by decide +kernel
theorem d_U_greatestLevel_22 : decode c_U_greatestLevel 22 = .ok (.iload_n 1, 1) := by decide +kernel
theorem d_U_greatestLevel_23 : decode c_U_greatestLevel 23 = .ok (.iload 4, 2) := by decide +kernel
theorem d_U_greatestLevel_25 : decode c_U_greatestLevel 25 = .ok (.invokevirtual 118, 3) := by decide +kernel
theorem d_U_greatestLevel_28 : decode c_U_greatestLevel 28 = .ok (.imul, 1) := by decide +kernel
theorem d_U_greatestLevel_29 : decode c_U_greatestLevel 29 = .ok (.invokestatic 87, 3) := by decide +kernel
theorem d_U_greatestLevel_32 : decode c_U_greatestLevel 32 = .ok (.istore_n 3, 1) := by decide +kernel
theorem d_U_greatestLevel_33 : decode c_U_greatestLevel 33 = .ok (.iinc 4 1, 3) := by decide +kernel
theorem d_U_greatestLevel_36 : decode c_U_greatestLevel 36 = .ok (.goto (-30), 3) := by decide +kernel
theorem d_U_greatestLevel_39 : decode c_U_greatestLevel 39 = .ok (.iload_n 3, 1) := by decide +kernel
theorem d_U_greatestLevel_40 : decode c_U_greatestLevel 40 = .ok (.ireturn, 1) := by decide +kernel
theorem d_U_longestStraight_0 : decode c_U_longestStraight 0 = .ok (.iconst 0, 1) := by decide +kernel
theorem d_U_longestStraight_1 : decode c_U_longestStraight 1 = .ok (.istore_n 2, 1) := by decide +kernel
theorem d_U_longestStraight_2 : decode c_U_longestStraight 2 = .ok (.iconst 0, 1) := by decide +kernel
theorem d_U_longestStraight_3 : decode c_U_longestStraight 3 = .ok (.istore_n 3, 1) := by decide +kernel
theorem d_U_longestStraight_4 : decode c_U_longestStraight 4 = .ok (.iconst 0, 1) := by decide +kernel
theorem d_U_longestStraight_5 : decode c_U_longestStraight 5 = .ok (.istore 4, 2) := by decide +kernel
theorem d_U_longestStraight_7 : decode c_U_longestStraight 7 = .ok (.iload 4, 2) := by decide +kernel
theorem d_U_longestStraight_9 : decode c_U_longestStraight 9 = .ok (.aload_n 0, 1) := by decide +kernel
theorem d_U_longestStraight_10 : decode c_U_longestStraight 10 = .ok (.iload_n 1, 1) := by decide +kernel
theorem d_U_longestStraight_11 : decode c_U_longestStraight 11 = .ok (.invokevirtual 72, 3) := by decide +kernel
theorem d_U_longestStraight_14 : decode c_U_longestStraight 14 = .ok (.if_icmp .ge 38, 3) := by decide +kernel
theorem d_U_longestStraight_17 : decode c_U_longestStraight 17 = .ok (.iload 4, 2) := by decide +kernel
theorem d_U_longestStraight_19 : decode c_U_longestStraight 19 = .ok (.ifCond .le 19, 3) := by decide +kernel
theorem d_U_longestStraight_22 : decode c_U_longestStraight 22 = .ok (.aload_n 0, 1) := by decide +kernel
theorem d_U_longestStraight_23 : decode c_U_longestStraight 23 = .ok (.iload_n 1, 1) := by decide +kernel
theorem d_U_longestStraight_24 : decode c_U_longestStraight 24 = .ok (.iload 4, 2) := by decide +kernel
theorem d_U_longestStraight_26 : decode c_U_longestStraight 26 = .ok (.invokevirtual 98, 3) := by decide +kernel
theorem d_U_longestStraight_29 : decode c_U_longestStraight 29 = .ok (.ifCond .ne 9, 3) := by decide +kernel
theorem d_U_longestStraight_32 : decode c_U_longestStraight 32 = .ok (.iload_n 3, 1) := by decide +kernel
theorem d_U_longestStraight_33 : decode c_U_longestStraight 33 = .ok (.iconst 1, 1) := by decide +kernel
theorem d_U_longestStraight_34 : decode c_U_longestStraight 34 = .ok (.iadd, 1) := by decide +kernel
theorem d_U_longestStraight_35 : decode c_U_longestStraight 35 = .ok (.goto 4, 3) := by decide +kernel
theorem d_U_longestStraight_38 : decode c_U_longestStraight 38 = .ok (.iconst 1, 1) := by decide +kernel
theorem d_U_longestStraight_39 : decode c_U_longestStraight 39 = .ok (.istore_n 3, 1) := by decide +kernel
theorem d_U_longestStraight_40 : decode c_U_longestStraight 40 = .ok (.iload_n 2, 1) := by decide +kernel
theorem d_U_longestStraight_41 : decode c_U_longestStraight 41 = .ok (.iload_n 3, 1) := by decide +kernel
theorem d_U_longestStraight_42 : decode c_U_longestStraight 42 = .ok (.invokestatic 87, 3) := by decide +kernel
theorem d_U_longestStraight_45 : decode c_U_longestStraight 45 = .ok (.istore_n 2, 1) := by decide +kernel
theorem d_U_longestStraight_46 : decode c_U_longestStraight 46 = .ok (.iinc 4 1, 3) := by decide +kernel
theorem d_U_longestStraight_49 : decode c_U_longestStraight 49 = .ok (.goto (-42), 3) := by decide +kernel
theorem d_U_longestStraight_52 : decode c_U_longestStraight 52 = .ok (.iload_n 2, 1) := by decide +kernel
theorem d_U_longestStraight_53 : decode c_U_longestStraight 53 = .ok (.ireturn, 1) := by decide +kernel
theorem d_U_bridgesOver_0 : decode c_U_bridgesOver 0 = .ok (.iconst 0, 1) := by decide +kernel
theorem d_U_bridgesOver_1 : decode c_U_bridgesOver 1 = .ok (.istore_n 3, 1) := by decide +kernel
theorem d_U_bridgesOver_2 : decode c_U_bridgesOver 2 = .ok (.aload_n 0, 1) := by decide +kernel
theorem d_U_bridgesOver_3 : decode c_U_bridgesOver 3 = .ok (.getfield 19, 3) := by decide +kernel
theorem d_U_bridgesOver_6 : decode c_U_bridgesOver 6 = .ok (.invokevirtual 128, 3) := by decide +kernel
theorem d_U_bridgesOver_9 : decode c_U_bridgesOver 9 = .ok (.aload_n 0, 1) := by decide +kernel
theorem d_U_bridgesOver_10 : decode c_U_bridgesOver 10 = .ok (.getfield 23, 3) := by decide +kernel
theorem d_U_bridgesOver_13 : decode c_U_bridgesOver 13 = .ok (.iconst 0, 1) := by decide +kernel
theorem d_U_bridgesOver_14 : decode c_U_bridgesOver 14 = .ok (.invokestatic 133, 3) := by decide +kernel
theorem d_U_bridgesOver_17 : decode c_U_bridgesOver 17 = .ok (.iconst 0, 1) := by decide +kernel
theorem d_U_bridgesOver_18 : decode c_U_bridgesOver 18 = .ok (.istore 4, 2) := by decide +kernel
theorem d_U_bridgesOver_20 : decode c_U_bridgesOver 20 = .ok (.iload 4, 2) := by decide +kernel
theorem d_U_bridgesOver_22 : decode c_U_bridgesOver 22 = .ok (.aload_n 0, 1) := by decide +kernel
theorem d_U_bridgesOver_23 : decode c_U_bridgesOver 23 = .ok (.getfield 9, 3) := by decide +kernel
theorem d_U_bridgesOver_26 : decode c_U_bridgesOver 26 = .ok (.iload_n 1, 1) := by decide +kernel
theorem d_U_bridgesOver_27 : decode c_U_bridgesOver 27 = .ok (.invokevirtual 27, 3) := by decide +kernel
theorem d_U_bridgesOver_30 : decode c_U_bridgesOver 30 = .ok (.if_icmp .ge 55, 3) := by decide +kernel
theorem d_U_bridgesOver_33 : decode c_U_bridgesOver 33 = .ok (.aload_n 0, 1) := by decide +kernel
theorem d_U_bridgesOver_34 : decode c_U_bridgesOver 34 = .ok (.getfield 9, 3) := by decide +kernel
theorem d_U_bridgesOver_37 : decode c_U_bridgesOver 37 = .ok (.iload_n 1, 1) := by decide +kernel
theorem d_U_bridgesOver_38 : decode c_U_bridgesOver 38 = .ok (.iload 4, 2) := by decide +kernel
theorem d_U_bridgesOver_40 : decode c_U_bridgesOver 40 = .ok (.invokevirtual 81, 3) := by decide +kernel
theorem d_U_bridgesOver_43 : decode c_U_bridgesOver 43 = .ok (.istore 5, 2) := by decide +kernel
theorem d_U_bridgesOver_45 : decode c_U_bridgesOver 45 = .ok (.aload_n 0, 1) := by decide +kernel
theorem d_U_bridgesOver_46 : decode c_U_bridgesOver 46 = .ok (.getfield 23, 3) := by decide +kernel
theorem d_U_bridgesOver_49 : decode c_U_bridgesOver 49 = .ok (.iload 5, 2) := by decide +kernel
theorem d_U_bridgesOver_51 : decode c_U_bridgesOver 51 = .ok (.iaload, 1) := by decide +kernel
theorem d_U_bridgesOver_52 : decode c_U_bridgesOver 52 = .ok (.ifCond .ne 19, 3) := by decide +kernel
theorem d_U_bridgesOver_55 : decode c_U_bridgesOver 55 = .ok (.aload_n 0, 1) := by decide +kernel
theorem d_U_bridgesOver_56 : decode c_U_bridgesOver 56 = .ok (.getfield 19, 3) := by decide +kernel
theorem d_U_bridgesOver_59 : decode c_U_bridgesOver 59 = .ok (.iload 5, 2) := by decide +kernel
theorem d_U_bridgesOver_61 : decode c_U_bridgesOver 61 = .ok (.invokevirtual 139, 3) := by decide +kernel
theorem d_U_bridgesOver_64 : decode c_U_bridgesOver 64 = .ok (.iload_n 2, 1) := by decide +kernel
theorem d_U_bridgesOver_65 : decode c_U_bridgesOver 65 = .ok (.if_icmp .lt 6, 3) := by decide +kernel
theorem d_U_bridgesOver_68 : decode c_U_bridgesOver 68 = .ok (.iinc 3 1, 3) := by decide +kernel
theorem d_U_bridgesOver_71 : decode c_U_bridgesOver 71 = .ok (.aload_n 0, 1) := by decide +kernel
theorem d_U_bridgesOver_72 : decode c_U_bridgesOver 72 = .ok (.getfield 23, 3) := by decide +kernel
theorem d_U_bridgesOver_75 : decode c_U_bridgesOver 75 = .ok (.iload 5, 2) := by decide +kernel
theorem d_U_bridgesOver_77 : decode c_U_bridgesOver 77 = .ok (.iconst 1, 1) := by decide +kernel
theorem d_U_bridgesOver_78 : decode c_U_bridgesOver 78 = .ok (.iastore, 1) := by decide +kernel
theorem d_U_bridgesOver_79 : decode c_U_bridgesOver 79 = .ok (.iinc 4 1, 3) := by decide +kernel
theorem d_U_bridgesOver_82 : decode c_U_bridgesOver 82 = .ok (.goto (-62), 3) := by decide +kernel
theorem d_U_bridgesOver_85 : decode c_U_bridgesOver 85 = .ok (.iload_n 3, 1) := by decide +kernel
theorem d_U_bridgesOver_86 : decode c_U_bridgesOver 86 = .ok (.ireturn, 1) := by decide +kernel
theorem d_U_leastStage_0 : decode c_U_leastStage 0 = .ok (.aload_n 0, 1) := by decide +kernel
theorem d_U_leastStage_1 : decode c_U_leastStage 1 = .ok (.iload_n 1, 1) := by decide +kernel
theorem d_U_leastStage_2 : decode c_U_leastStage 2 = .ok (.invokevirtual 72, 3) := by decide +kernel
theorem d_U_leastStage_5 : decode c_U_leastStage 5 = .ok (.iload_n 2, 1) := by decide +kernel
theorem d_U_leastStage_6 : decode c_U_leastStage 6 = .ok (.if_icmp .ge 5, 3) := by decide +kernel
theorem d_U_leastStage_9 : decode c_U_leastStage 9 = .ok (.iconst (-1), 1) := by decide +kernel
theorem d_U_leastStage_10 : decode c_U_leastStage 10 = .ok (.ireturn, 1) := by decide +kernel
theorem d_U_leastStage_11 : decode c_U_leastStage 11 = .ok (.iconst 0, 1) := by decide +kernel
theorem d_U_leastStage_12 : decode c_U_leastStage 12 = .ok (.invokestatic 78, 3) := by decide +kernel
theorem d_U_leastStage_15 : decode c_U_leastStage 15 = .ok (.istore_n 3, 1) := by decide +kernel
theorem d_U_leastStage_16 : decode c_U_leastStage 16 = .ok (.aload_n 0, 1) := by decide +kernel
theorem d_U_leastStage_17 : decode c_U_leastStage 17 = .ok (.iload_n 1, 1) := by decide +kernel
theorem d_U_leastStage_18 : decode c_U_leastStage 18 = .ok (.invokevirtual 33, 3) := by decide +kernel
theorem d_U_leastStage_21 : decode c_U_leastStage 21 = .ok (.istore 4, 2) := by decide +kernel
theorem d_U_leastStage_23 : decode c_U_leastStage 23 = .ok (.iload_n 3, 1) := by decide +kernel
theorem d_U_leastStage_24 : decode c_U_leastStage 24 = .ok (.iload 4, 2) := by decide +kernel
theorem d_U_leastStage_26 : decode c_U_leastStage 26 = .ok (.if_icmp .ge 37, 3) := by decide +kernel
theorem d_U_leastStage_29 : decode c_U_leastStage 29 = .ok (.iload_n 3, 1) := by decide +kernel
theorem d_U_leastStage_30 : decode c_U_leastStage 30 = .ok (.iload 4, 2) := by decide +kernel
theorem d_U_leastStage_32 : decode c_U_leastStage 32 = .ok (.iadd, 1) := by decide +kernel
theorem d_U_leastStage_33 : decode c_U_leastStage 33 = .ok (.iconst 2, 1) := by decide +kernel
theorem d_U_leastStage_34 : decode c_U_leastStage 34 = .ok (.idiv, 1) := by decide +kernel
theorem d_U_leastStage_35 : decode c_U_leastStage 35 = .ok (.istore 5, 2) := by decide +kernel
theorem d_U_leastStage_37 : decode c_U_leastStage 37 = .ok (.aload_n 0, 1) := by decide +kernel
theorem d_U_leastStage_38 : decode c_U_leastStage 38 = .ok (.iload_n 1, 1) := by decide +kernel
theorem d_U_leastStage_39 : decode c_U_leastStage 39 = .ok (.iload 5, 2) := by decide +kernel
theorem d_U_leastStage_41 : decode c_U_leastStage 41 = .ok (.invokevirtual 142, 3) := by decide +kernel
theorem d_U_leastStage_44 : decode c_U_leastStage 44 = .ok (.iload_n 2, 1) := by decide +kernel
theorem d_U_leastStage_45 : decode c_U_leastStage 45 = .ok (.if_icmp .gt 10, 3) := by decide +kernel
theorem d_U_leastStage_48 : decode c_U_leastStage 48 = .ok (.iload 5, 2) := by decide +kernel
theorem d_U_leastStage_50 : decode c_U_leastStage 50 = .ok (.istore 4, 2) := by decide +kernel
theorem d_U_leastStage_52 : decode c_U_leastStage 52 = .ok (.goto 8, 3) := by decide +kernel
theorem d_U_leastStage_55 : decode c_U_leastStage 55 = .ok (.iload 5, 2) := by decide +kernel
theorem d_U_leastStage_57 : decode c_U_leastStage 57 = .ok (.iconst 1, 1) := by decide +kernel
theorem d_U_leastStage_58 : decode c_U_leastStage 58 = .ok (.iadd, 1) := by decide +kernel
theorem d_U_leastStage_59 : decode c_U_leastStage 59 = .ok (.istore_n 3, 1) := by decide +kernel
theorem d_U_leastStage_60 : decode c_U_leastStage 60 = .ok (.goto (-37), 3) := by decide +kernel
theorem d_U_leastStage_63 : decode c_U_leastStage 63 = .ok (.iload 4, 2) := by decide +kernel
theorem d_U_leastStage_65 : decode c_U_leastStage 65 = .ok (.ireturn, 1) := by decide +kernel
theorem d_U_partsWithin_0 : decode c_U_partsWithin 0 = .ok (.iconst 1, 1) := by decide +kernel
theorem d_U_partsWithin_1 : decode c_U_partsWithin 1 = .ok (.istore_n 3, 1) := by decide +kernel
theorem d_U_partsWithin_2 : decode c_U_partsWithin 2 = .ok (.iconst 0, 1) := by decide +kernel
theorem d_U_partsWithin_3 : decode c_U_partsWithin 3 = .ok (.istore 4, 2) := by decide +kernel
theorem d_U_partsWithin_5 : decode c_U_partsWithin 5 = .ok (.iconst 0, 1) := by decide +kernel
theorem d_U_partsWithin_6 : decode c_U_partsWithin 6 = .ok (.istore 5, 2) := by decide +kernel
theorem d_U_partsWithin_8 : decode c_U_partsWithin 8 = .ok (.iload 5, 2) := by decide +kernel
theorem d_U_partsWithin_10 : decode c_U_partsWithin 10 = .ok (.aload_n 0, 1) := by decide +kernel
theorem d_U_partsWithin_11 : decode c_U_partsWithin 11 = .ok (.iload_n 1, 1) := by decide +kernel
theorem d_U_partsWithin_12 : decode c_U_partsWithin 12 = .ok (.invokevirtual 72, 3) := by decide +kernel
theorem d_U_partsWithin_15 : decode c_U_partsWithin 15 = .ok (.if_icmp .ge 55, 3) := by decide +kernel
theorem d_U_partsWithin_18 : decode c_U_partsWithin 18 = .ok (.aload_n 0, 1) := by decide +kernel
theorem d_U_partsWithin_19 : decode c_U_partsWithin 19 = .ok (.getfield 9, 3) := by decide +kernel
theorem d_U_partsWithin_22 : decode c_U_partsWithin 22 = .ok (.iload_n 1, 1) := by decide +kernel
theorem d_U_partsWithin_23 : decode c_U_partsWithin 23 = .ok (.iload 5, 2) := by decide +kernel
theorem d_U_partsWithin_25 : decode c_U_partsWithin 25 = .ok (.invokevirtual 75, 3) := by decide +kernel
theorem d_U_partsWithin_28 : decode c_U_partsWithin 28 = .ok (.invokestatic 78, 3) := by decide +kernel
theorem d_U_partsWithin_31 : decode c_U_partsWithin 31 = .ok (.istore 6, 2) := by decide +kernel
theorem d_U_partsWithin_33 : decode c_U_partsWithin 33 = .ok (.iload 6, 2) := by decide +kernel
theorem d_U_partsWithin_35 : decode c_U_partsWithin 35 = .ok (.iload_n 2, 1) := by decide +kernel
theorem d_U_partsWithin_36 : decode c_U_partsWithin 36 = .ok (.if_icmp .le 6, 3) := by decide +kernel
theorem d_U_partsWithin_39 : decode c_U_partsWithin 39 = .ok (.bipush 40, 2) := by decide +kernel
theorem d_U_partsWithin_41 : decode c_U_partsWithin 41 = .ok (.ireturn, 1) := by decide +kernel
theorem d_U_partsWithin_42 : decode c_U_partsWithin 42 = .ok (.iload 4, 2) := by decide +kernel
theorem d_U_partsWithin_44 : decode c_U_partsWithin 44 = .ok (.iload 6, 2) := by decide +kernel
theorem d_U_partsWithin_46 : decode c_U_partsWithin 46 = .ok (.iadd, 1) := by decide +kernel
theorem d_U_partsWithin_47 : decode c_U_partsWithin 47 = .ok (.iload_n 2, 1) := by decide +kernel
theorem d_U_partsWithin_48 : decode c_U_partsWithin 48 = .ok (.if_icmp .le 9, 3) := by decide +kernel
theorem d_U_partsWithin_51 : decode c_U_partsWithin 51 = .ok (.iinc 3 1, 3) := by decide +kernel
theorem d_U_partsWithin_54 : decode c_U_partsWithin 54 = .ok (.iconst 0, 1) := by decide +kernel
theorem d_U_partsWithin_55 : decode c_U_partsWithin 55 = .ok (.istore 4, 2) := by decide +kernel
theorem d_U_partsWithin_57 : decode c_U_partsWithin 57 = .ok (.iload 4, 2) := by decide +kernel
theorem d_U_partsWithin_59 : decode c_U_partsWithin 59 = .ok (.iload 6, 2) := by decide +kernel
theorem d_U_partsWithin_61 : decode c_U_partsWithin 61 = .ok (.iadd, 1) := by decide +kernel
theorem d_U_partsWithin_62 : decode c_U_partsWithin 62 = .ok (.istore 4, 2) := by decide +kernel
theorem d_U_partsWithin_64 : decode c_U_partsWithin 64 = .ok (.iinc 5 1, 3) := by decide +kernel
theorem d_U_partsWithin_67 : decode c_U_partsWithin 67 = .ok (.goto (-59), 3) := by decide +kernel
theorem d_U_partsWithin_70 : decode c_U_partsWithin 70 = .ok (.iload_n 3, 1) := by decide +kernel
theorem d_U_partsWithin_71 : decode c_U_partsWithin 71 = .ok (.ireturn, 1) := by decide +kernel
theorem d_U_shared_0 : decode c_U_shared 0 = .ok (.aload_n 0, 1) := by decide +kernel
theorem d_U_shared_1 : decode c_U_shared 1 = .ok (.getfield 23, 3) := by decide +kernel
theorem d_U_shared_4 : decode c_U_shared 4 = .ok (.iconst 0, 1) := by decide +kernel
theorem d_U_shared_5 : decode c_U_shared 5 = .ok (.invokestatic 133, 3) := by decide +kernel
theorem d_U_shared_8 : decode c_U_shared 8 = .ok (.iconst 0, 1) := by decide +kernel
theorem d_U_shared_9 : decode c_U_shared 9 = .ok (.istore_n 3, 1) := by decide +kernel
theorem d_U_shared_10 : decode c_U_shared 10 = .ok (.iload_n 3, 1) := by decide +kernel
theorem d_U_shared_11 : decode c_U_shared 11 = .ok (.aload_n 0, 1) := by decide +kernel
theorem d_U_shared_12 : decode c_U_shared 12 = .ok (.iload_n 2, 1) := by decide +kernel
theorem d_U_shared_13 : decode c_U_shared 13 = .ok (.invokevirtual 72, 3) := by decide +kernel
theorem d_U_shared_16 : decode c_U_shared 16 = .ok (.if_icmp .ge 67, 3) := by decide +kernel
theorem d_U_shared_19 : decode c_U_shared 19 = .ok (.aload_n 0, 1) := by decide +kernel
theorem d_U_shared_20 : decode c_U_shared 20 = .ok (.getfield 9, 3) := by decide +kernel
theorem d_U_shared_23 : decode c_U_shared 23 = .ok (.iload_n 2, 1) := by decide +kernel
theorem d_U_shared_24 : decode c_U_shared 24 = .ok (.iload_n 3, 1) := by decide +kernel
theorem d_U_shared_25 : decode c_U_shared 25 = .ok (.invokevirtual 75, 3) := by decide +kernel
theorem d_U_shared_28 : decode c_U_shared 28 = .ok (.istore 4, 2) := by decide +kernel
theorem d_U_shared_30 : decode c_U_shared 30 = .ok (.aload_n 0, 1) := by decide +kernel
theorem d_U_shared_31 : decode c_U_shared 31 = .ok (.getfield 23, 3) := by decide +kernel
theorem d_U_shared_34 : decode c_U_shared 34 = .ok (.aload_n 0, 1) := by decide +kernel
theorem d_U_shared_35 : decode c_U_shared 35 = .ok (.getfield 9, 3) := by decide +kernel
theorem d_U_shared_38 : decode c_U_shared 38 = .ok (.iload_n 2, 1) := by decide +kernel
theorem d_U_shared_39 : decode c_U_shared 39 = .ok (.iload_n 3, 1) := by decide +kernel
theorem d_U_shared_40 : decode c_U_shared 40 = .ok (.invokevirtual 81, 3) := by decide +kernel
theorem d_U_shared_43 : decode c_U_shared 43 = .ok (.dup2, 1) := by decide +kernel
theorem d_U_shared_44 : decode c_U_shared 44 = .ok (.iaload, 1) := by decide +kernel
theorem d_U_shared_45 : decode c_U_shared 45 = .ok (.iconst 1, 1) := by decide +kernel
theorem d_U_shared_46 : decode c_U_shared 46 = .ok (.iload 4, 2) := by decide +kernel
theorem d_U_shared_48 : decode c_U_shared 48 = .ok (.ishl, 1) := by decide +kernel
theorem d_U_shared_49 : decode c_U_shared 49 = .ok (.ior, 1) := by decide +kernel
theorem d_U_shared_50 : decode c_U_shared 50 = .ok (.iastore, 1) := by decide +kernel
theorem d_U_shared_51 : decode c_U_shared 51 = .ok (.aload_n 0, 1) := by decide +kernel
theorem d_U_shared_52 : decode c_U_shared 52 = .ok (.getfield 23, 3) := by decide +kernel
theorem d_U_shared_55 : decode c_U_shared 55 = .ok (.aload_n 0, 1) := by decide +kernel
theorem d_U_shared_56 : decode c_U_shared 56 = .ok (.getfield 9, 3) := by decide +kernel
theorem d_U_shared_59 : decode c_U_shared 59 = .ok (.iload_n 2, 1) := by decide +kernel
theorem d_U_shared_60 : decode c_U_shared 60 = .ok (.iload_n 3, 1) := by decide +kernel
theorem d_U_shared_61 : decode c_U_shared 61 = .ok (.iconst 1, 1) := by decide +kernel
theorem d_U_shared_62 : decode c_U_shared 62 = .ok (.iadd, 1) := by decide +kernel
theorem d_U_shared_63 : decode c_U_shared 63 = .ok (.invokevirtual 81, 3) := by decide +kernel
theorem d_U_shared_66 : decode c_U_shared 66 = .ok (.dup2, 1) := by decide +kernel
theorem d_U_shared_67 : decode c_U_shared 67 = .ok (.iaload, 1) := by decide +kernel
theorem d_U_shared_68 : decode c_U_shared 68 = .ok (.iconst 1, 1) := by decide +kernel
theorem d_U_shared_69 : decode c_U_shared 69 = .ok (.iload 4, 2) := by decide +kernel
theorem d_U_shared_71 : decode c_U_shared 71 = .ok (.invokestatic 145, 3) := by decide +kernel
theorem d_U_shared_74 : decode c_U_shared 74 = .ok (.ishl, 1) := by decide +kernel
theorem d_U_shared_75 : decode c_U_shared 75 = .ok (.ior, 1) := by decide +kernel
theorem d_U_shared_76 : decode c_U_shared 76 = .ok (.iastore, 1) := by decide +kernel
theorem d_U_shared_77 : decode c_U_shared 77 = .ok (.iinc 3 1, 3) := by decide +kernel
theorem d_U_shared_80 : decode c_U_shared 80 = .ok (.goto (-70), 3) := by decide +kernel
theorem d_U_shared_83 : decode c_U_shared 83 = .ok (.iconst 0, 1) := by decide +kernel
theorem d_U_shared_84 : decode c_U_shared 84 = .ok (.istore_n 3, 1) := by decide +kernel
theorem d_U_shared_85 : decode c_U_shared 85 = .ok (.iconst 0, 1) := by decide +kernel
theorem d_U_shared_86 : decode c_U_shared 86 = .ok (.istore 4, 2) := by decide +kernel
theorem d_U_shared_88 : decode c_U_shared 88 = .ok (.iload 4, 2) := by decide +kernel
theorem d_U_shared_90 : decode c_U_shared 90 = .ok (.aload_n 0, 1) := by decide +kernel
theorem d_U_shared_91 : decode c_U_shared 91 = .ok (.iload_n 1, 1) := by decide +kernel
theorem d_U_shared_92 : decode c_U_shared 92 = .ok (.invokevirtual 72, 3) := by decide +kernel
theorem d_U_shared_95 : decode c_U_shared 95 = .ok (.if_icmp .ge 100, 3) := by decide +kernel
theorem d_U_shared_98 : decode c_U_shared 98 = .ok (.aload_n 0, 1) := by decide +kernel
theorem d_U_shared_99 : decode c_U_shared 99 = .ok (.getfield 9, 3) := by decide +kernel
theorem d_U_shared_102 : decode c_U_shared 102 = .ok (.iload_n 1, 1) := by decide +kernel
theorem d_U_shared_103 : decode c_U_shared 103 = .ok (.iload 4, 2) := by decide +kernel
theorem d_U_shared_105 : decode c_U_shared 105 = .ok (.invokevirtual 75, 3) := by decide +kernel
theorem d_U_shared_108 : decode c_U_shared 108 = .ok (.istore 5, 2) := by decide +kernel
theorem d_U_shared_110 : decode c_U_shared 110 = .ok (.aload_n 0, 1) := by decide +kernel
theorem d_U_shared_111 : decode c_U_shared 111 = .ok (.getfield 23, 3) := by decide +kernel
theorem d_U_shared_114 : decode c_U_shared 114 = .ok (.aload_n 0, 1) := by decide +kernel
theorem d_U_shared_115 : decode c_U_shared 115 = .ok (.getfield 9, 3) := by decide +kernel
theorem d_U_shared_118 : decode c_U_shared 118 = .ok (.iload_n 1, 1) := by decide +kernel
theorem d_U_shared_119 : decode c_U_shared 119 = .ok (.iload 4, 2) := by decide +kernel
theorem d_U_shared_121 : decode c_U_shared 121 = .ok (.invokevirtual 81, 3) := by decide +kernel
theorem d_U_shared_124 : decode c_U_shared 124 = .ok (.iaload, 1) := by decide +kernel
theorem d_U_shared_125 : decode c_U_shared 125 = .ok (.iconst 1, 1) := by decide +kernel
theorem d_U_shared_126 : decode c_U_shared 126 = .ok (.iload 5, 2) := by decide +kernel
theorem d_U_shared_128 : decode c_U_shared 128 = .ok (.ishl, 1) := by decide +kernel
theorem d_U_shared_129 : decode c_U_shared 129 = .ok (.iand, 1) := by decide +kernel
theorem d_U_shared_130 : decode c_U_shared 130 = .ok (.ifCond .eq 59, 3) := by decide +kernel
theorem d_U_shared_133 : decode c_U_shared 133 = .ok (.iinc 3 1, 3) := by decide +kernel
theorem d_U_shared_136 : decode c_U_shared 136 = .ok (.aload_n 0, 1) := by decide +kernel
theorem d_U_shared_137 : decode c_U_shared 137 = .ok (.getfield 23, 3) := by decide +kernel
theorem d_U_shared_140 : decode c_U_shared 140 = .ok (.aload_n 0, 1) := by decide +kernel
theorem d_U_shared_141 : decode c_U_shared 141 = .ok (.getfield 9, 3) := by decide +kernel
theorem d_U_shared_144 : decode c_U_shared 144 = .ok (.iload_n 1, 1) := by decide +kernel
theorem d_U_shared_145 : decode c_U_shared 145 = .ok (.iload 4, 2) := by decide +kernel
theorem d_U_shared_147 : decode c_U_shared 147 = .ok (.invokevirtual 81, 3) := by decide +kernel
theorem d_U_shared_150 : decode c_U_shared 150 = .ok (.dup2, 1) := by decide +kernel
theorem d_U_shared_151 : decode c_U_shared 151 = .ok (.iaload, 1) := by decide +kernel
theorem d_U_shared_152 : decode c_U_shared 152 = .ok (.iconst 1, 1) := by decide +kernel
theorem d_U_shared_153 : decode c_U_shared 153 = .ok (.iload 5, 2) := by decide +kernel
theorem d_U_shared_155 : decode c_U_shared 155 = .ok (.ishl, 1) := by decide +kernel
theorem d_U_shared_156 : decode c_U_shared 156 = .ok (.iconst (-1), 1) := by decide +kernel
theorem d_U_shared_157 : decode c_U_shared 157 = .ok (.ixor, 1) := by decide +kernel
theorem d_U_shared_158 : decode c_U_shared 158 = .ok (.iand, 1) := by decide +kernel
theorem d_U_shared_159 : decode c_U_shared 159 = .ok (.iastore, 1) := by decide +kernel
theorem d_U_shared_160 : decode c_U_shared 160 = .ok (.aload_n 0, 1) := by decide +kernel
theorem d_U_shared_161 : decode c_U_shared 161 = .ok (.getfield 23, 3) := by decide +kernel
theorem d_U_shared_164 : decode c_U_shared 164 = .ok (.aload_n 0, 1) := by decide +kernel
theorem d_U_shared_165 : decode c_U_shared 165 = .ok (.getfield 9, 3) := by decide +kernel
theorem d_U_shared_168 : decode c_U_shared 168 = .ok (.iload_n 1, 1) := by decide +kernel
theorem d_U_shared_169 : decode c_U_shared 169 = .ok (.iload 4, 2) := by decide +kernel
theorem d_U_shared_171 : decode c_U_shared 171 = .ok (.iconst 1, 1) := by decide +kernel
theorem d_U_shared_172 : decode c_U_shared 172 = .ok (.iadd, 1) := by decide +kernel
theorem d_U_shared_173 : decode c_U_shared 173 = .ok (.invokevirtual 81, 3) := by decide +kernel
theorem d_U_shared_176 : decode c_U_shared 176 = .ok (.dup2, 1) := by decide +kernel
theorem d_U_shared_177 : decode c_U_shared 177 = .ok (.iaload, 1) := by decide +kernel
theorem d_U_shared_178 : decode c_U_shared 178 = .ok (.iconst 1, 1) := by decide +kernel
theorem d_U_shared_179 : decode c_U_shared 179 = .ok (.iload 5, 2) := by decide +kernel
theorem d_U_shared_181 : decode c_U_shared 181 = .ok (.invokestatic 145, 3) := by decide +kernel
theorem d_U_shared_184 : decode c_U_shared 184 = .ok (.ishl, 1) := by decide +kernel
theorem d_U_shared_185 : decode c_U_shared 185 = .ok (.iconst (-1), 1) := by decide +kernel
theorem d_U_shared_186 : decode c_U_shared 186 = .ok (.ixor, 1) := by decide +kernel
theorem d_U_shared_187 : decode c_U_shared 187 = .ok (.iand, 1) := by decide +kernel
theorem d_U_shared_188 : decode c_U_shared 188 = .ok (.iastore, 1) := by decide +kernel
theorem d_U_shared_189 : decode c_U_shared 189 = .ok (.iinc 4 1, 3) := by decide +kernel
theorem d_U_shared_192 : decode c_U_shared 192 = .ok (.goto (-104), 3) := by decide +kernel
theorem d_U_shared_195 : decode c_U_shared 195 = .ok (.iload_n 3, 1) := by decide +kernel
theorem d_U_shared_196 : decode c_U_shared 196 = .ok (.ireturn, 1) := by decide +kernel
theorem d_R_init_0 : decode c_R_init 0 = .ok (.aload_n 0, 1) := by decide +kernel
theorem d_R_init_1 : decode c_R_init 1 = .ok (.invokespecial 3, 3) := by decide +kernel
theorem d_R_init_4 : decode c_R_init 4 = .ok (.aload_n 0, 1) := by decide +kernel
theorem d_R_init_5 : decode c_R_init 5 = .ok (.new 9, 3) := by decide +kernel
theorem d_R_init_8 : decode c_R_init 8 = .ok (.dup, 1) := by decide +kernel
theorem d_R_init_9 : decode c_R_init 9 = .ok (.invokespecial 11, 3) := by decide +kernel
theorem d_R_init_12 : decode c_R_init 12 = .ok (.putfield 12, 3) := by decide +kernel
theorem d_R_init_15 : decode c_R_init 15 = .ok (.aload_n 0, 1) := by decide +kernel
theorem d_R_init_16 : decode c_R_init 16 = .ok (.new 16, 3) := by decide +kernel
theorem d_R_init_19 : decode c_R_init 19 = .ok (.dup, 1) := by decide +kernel
theorem d_R_init_20 : decode c_R_init 20 = .ok (.invokespecial 18, 3) := by decide +kernel
theorem d_R_init_23 : decode c_R_init 23 = .ok (.putfield 19, 3) := by decide +kernel
theorem d_R_init_26 : decode c_R_init 26 = .ok (.aload_n 0, 1) := by decide +kernel
theorem d_R_init_27 : decode c_R_init 27 = .ok (.new 23, 3) := by decide +kernel
theorem d_R_init_30 : decode c_R_init 30 = .ok (.dup, 1) := by decide +kernel
theorem d_R_init_31 : decode c_R_init 31 = .ok (.aload_n 0, 1) := by decide +kernel
theorem d_R_init_32 : decode c_R_init 32 = .ok (.getfield 12, 3) := by decide +kernel
theorem d_R_init_35 : decode c_R_init 35 = .ok (.invokespecial 25, 3) := by decide +kernel
theorem d_R_init_38 : decode c_R_init 38 = .ok (.putfield 28, 3) := by decide +kernel
theorem d_R_init_41 : decode c_R_init 41 = .ok (.aload_n 0, 1) := by decide +kernel
theorem d_R_init_42 : decode c_R_init 42 = .ok (.new 32, 3) := by decide +kernel
theorem d_R_init_45 : decode c_R_init 45 = .ok (.dup, 1) := by decide +kernel
theorem d_R_init_46 : decode c_R_init 46 = .ok (.invokespecial 34, 3) := by decide +kernel
theorem d_R_init_49 : decode c_R_init 49 = .ok (.putfield 35, 3) := by decide +kernel
theorem d_R_init_52 : decode c_R_init 52 = .ok (.aload_n 0, 1) := by decide +kernel
theorem d_R_init_53 : decode c_R_init 53 = .ok (.new 39, 3) := by decide +kernel
theorem d_R_init_56 : decode c_R_init 56 = .ok (.dup, 1) := by decide +kernel
theorem d_R_init_57 : decode c_R_init 57 = .ok (.aload_n 0, 1) := by decide +kernel
theorem d_R_init_58 : decode c_R_init 58 = .ok (.getfield 19, 3) := by decide +kernel
theorem d_R_init_61 : decode c_R_init 61 = .ok (.invokespecial 41, 3) := by decide +kernel
theorem d_R_init_64 : decode c_R_init 64 = .ok (.putfield 44, 3) := by decide +kernel
theorem d_R_init_67 : decode c_R_init 67 = .ok (.aload_n 0, 1) := by decide +kernel
theorem d_R_init_68 : decode c_R_init 68 = .ok (.new 48, 3) := by decide +kernel
theorem d_R_init_71 : decode c_R_init 71 = .ok (.dup, 1) := by decide +kernel
theorem d_R_init_72 : decode c_R_init 72 = .ok (.aload_n 0, 1) := by decide +kernel
theorem d_R_init_73 : decode c_R_init 73 = .ok (.getfield 19, 3) := by decide +kernel
theorem d_R_init_76 : decode c_R_init 76 = .ok (.aload_n 0, 1) := by decide +kernel
theorem d_R_init_77 : decode c_R_init 77 = .ok (.getfield 44, 3) := by decide +kernel
theorem d_R_init_80 : decode c_R_init 80 = .ok (.invokespecial 50, 3) := by decide +kernel
theorem d_R_init_83 : decode c_R_init 83 = .ok (.putfield 53, 3) := by decide +kernel
theorem d_R_init_86 : decode c_R_init 86 = .ok (.aload_n 0, 1) := by decide +kernel
theorem d_R_init_87 : decode c_R_init 87 = .ok (.new 57, 3) := by decide +kernel
theorem d_R_init_90 : decode c_R_init 90 = .ok (.dup, 1) := by decide +kernel
theorem d_R_init_91 : decode c_R_init 91 = .ok (.aload_n 0, 1) := by decide +kernel
theorem d_R_init_92 : decode c_R_init 92 = .ok (.getfield 19, 3) := by decide +kernel
theorem d_R_init_95 : decode c_R_init 95 = .ok (.aload_n 0, 1) := by decide +kernel
theorem d_R_init_96 : decode c_R_init 96 = .ok (.getfield 53, 3) := by decide +kernel
theorem d_R_init_99 : decode c_R_init 99 = .ok (.invokespecial 59, 3) := by decide +kernel
theorem d_R_init_102 : decode c_R_init 102 = .ok (.putfield 62, 3) := by decide +kernel
theorem d_R_init_105 : decode c_R_init 105 = .ok (.aload_n 0, 1) := by decide +kernel
theorem d_R_init_106 : decode c_R_init 106 = .ok (.new 66, 3) := by decide +kernel
theorem d_R_init_109 : decode c_R_init 109 = .ok (.dup, 1) := by decide +kernel
theorem d_R_init_110 : decode c_R_init 110 = .ok (.aload_n 0, 1) := by decide +kernel
theorem d_R_init_111 : decode c_R_init 111 = .ok (.getfield 19, 3) := by decide +kernel
theorem d_R_init_114 : decode c_R_init 114 = .ok (.invokespecial 68, 3) := by decide +kernel
theorem d_R_init_117 : decode c_R_init 117 = .ok (.putfield 69, 3) := by decide +kernel
theorem d_R_init_120 : decode c_R_init 120 = .ok (.aload_n 0, 1) := by decide +kernel
theorem d_R_init_121 : decode c_R_init 121 = .ok (.new 73, 3) := by decide +kernel
theorem d_R_init_124 : decode c_R_init 124 = .ok (.dup, 1) := by decide +kernel
theorem d_R_init_125 : decode c_R_init 125 = .ok (.aload_n 0, 1) := by decide +kernel
theorem d_R_init_126 : decode c_R_init 126 = .ok (.getfield 19, 3) := by decide +kernel
theorem d_R_init_129 : decode c_R_init 129 = .ok (.aload_n 0, 1) := by decide +kernel
theorem d_R_init_130 : decode c_R_init 130 = .ok (.getfield 69, 3) := by decide +kernel
theorem d_R_init_133 : decode c_R_init 133 = .ok (.aload_n 0, 1) := by decide +kernel
theorem d_R_init_134 : decode c_R_init 134 = .ok (.getfield 44, 3) := by decide +kernel
theorem d_R_init_137 : decode c_R_init 137 = .ok (.invokespecial 75, 3) := by decide +kernel
theorem d_R_init_140 : decode c_R_init 140 = .ok (.putfield 78, 3) := by decide +kernel
theorem d_R_init_143 : decode c_R_init 143 = .ok (.aload_n 0, 1) := by decide +kernel
theorem d_R_init_144 : decode c_R_init 144 = .ok (.sipush 499, 3) := by decide +kernel
theorem d_R_init_147 : decode c_R_init 147 = .ok (.newarray .int, 2) := by decide +kernel
theorem d_R_init_149 : decode c_R_init 149 = .ok (.putfield 82, 3) := by decide +kernel
theorem d_R_init_152 : decode c_R_init 152 = .ok (.aload_n 0, 1) := by decide +kernel
theorem d_R_init_153 : decode c_R_init 153 = .ok (.iconst 0, 1) := by decide +kernel
theorem d_R_init_154 : decode c_R_init 154 = .ok (.putfield 86, 3) := by decide +kernel
theorem d_R_init_157 : decode c_R_init 157 = .ok (.aload_n 0, 1) := by decide +kernel
theorem d_R_init_158 : decode c_R_init 158 = .ok (.iconst (-1), 1) := by decide +kernel
theorem d_R_init_159 : decode c_R_init 159 = .ok (.putfield 90, 3) := by decide +kernel
theorem d_R_init_162 : decode c_R_init 162 = .ok (.return_, 1) := by decide +kernel
theorem d_R_feed_0 : decode c_R_feed 0 = .ok (.aload_n 0, 1) := by decide +kernel
theorem d_R_feed_1 : decode c_R_feed 1 = .ok (.getfield 12, 3) := by decide +kernel
theorem d_R_feed_4 : decode c_R_feed 4 = .ok (.invokevirtual 94, 3) := by decide +kernel
theorem d_R_feed_7 : decode c_R_feed 7 = .ok (.ifCond .ne 5, 3) := by decide +kernel
theorem d_R_feed_10 : decode c_R_feed 10 = .ok (.iconst (-1), 1) := by decide +kernel
theorem d_R_feed_11 : decode c_R_feed 11 = .ok (.ireturn, 1) := by decide +kernel
theorem d_R_feed_12 : decode c_R_feed 12 = .ok (.aload_n 0, 1) := by decide +kernel
theorem d_R_feed_13 : decode c_R_feed 13 = .ok (.getfield 12, 3) := by decide +kernel
theorem d_R_feed_16 : decode c_R_feed 16 = .ok (.iload_n 1, 1) := by decide +kernel
theorem d_R_feed_17 : decode c_R_feed 17 = .ok (.invokevirtual 98, 3) := by decide +kernel
theorem d_R_feed_20 : decode c_R_feed 20 = .ok (.aload_n 0, 1) := by decide +kernel
theorem d_R_feed_21 : decode c_R_feed 21 = .ok (.getfield 12, 3) := by decide +kernel
theorem d_R_feed_24 : decode c_R_feed 24 = .ok (.iload_n 2, 1) := by decide +kernel
theorem d_R_feed_25 : decode c_R_feed 25 = .ok (.invokevirtual 98, 3) := by decide +kernel
theorem d_R_feed_28 : decode c_R_feed 28 = .ok (.aload_n 0, 1) := by decide +kernel
theorem d_R_feed_29 : decode c_R_feed 29 = .ok (.getfield 12, 3) := by decide +kernel
theorem d_R_feed_32 : decode c_R_feed 32 = .ok (.iload_n 3, 1) := by decide +kernel
theorem d_R_feed_33 : decode c_R_feed 33 = .ok (.invokevirtual 98, 3) := by decide +kernel
theorem d_R_feed_36 : decode c_R_feed 36 = .ok (.aload_n 0, 1) := by decide +kernel
theorem d_R_feed_37 : decode c_R_feed 37 = .ok (.getfield 12, 3) := by decide +kernel
theorem d_R_feed_40 : decode c_R_feed 40 = .ok (.iload 4, 2) := by decide +kernel
theorem d_R_feed_42 : decode c_R_feed 42 = .ok (.invokevirtual 98, 3) := by decide +kernel
theorem d_R_feed_45 : decode c_R_feed 45 = .ok (.aload_n 0, 1) := by decide +kernel
theorem d_R_feed_46 : decode c_R_feed 46 = .ok (.getfield 12, 3) := by decide +kernel
theorem d_R_feed_49 : decode c_R_feed 49 = .ok (.iload 5, 2) := by decide +kernel
theorem d_R_feed_51 : decode c_R_feed 51 = .ok (.invokevirtual 98, 3) := by decide +kernel
theorem d_R_feed_54 : decode c_R_feed 54 = .ok (.aload_n 0, 1) := by decide +kernel
theorem d_R_feed_55 : decode c_R_feed 55 = .ok (.getfield 12, 3) := by decide +kernel
theorem d_R_feed_58 : decode c_R_feed 58 = .ok (.invokevirtual 102, 3) := by decide +kernel
theorem d_R_feed_61 : decode c_R_feed 61 = .ok (.ireturn, 1) := by decide +kernel
theorem d_R_end_0 : decode c_R_end 0 = .ok (.aload_n 0, 1) := by decide +kernel
theorem d_R_end_1 : decode c_R_end 1 = .ok (.getfield 12, 3) := by decide +kernel
theorem d_R_end_4 : decode c_R_end 4 = .ok (.iload_n 1, 1) := by decide +kernel
theorem d_R_end_5 : decode c_R_end 5 = .ok (.invokevirtual 106, 3) := by decide +kernel
theorem d_R_end_8 : decode c_R_end 8 = .ok (.ireturn, 1) := by decide +kernel
theorem d_R_land_0 : decode c_R_land 0 = .ok (.aload_n 0, 1) := by decide +kernel
theorem d_R_land_1 : decode c_R_land 1 = .ok (.aload_n 0, 1) := by decide +kernel
theorem d_R_land_2 : decode c_R_land 2 = .ok (.getfield 28, 3) := by decide +kernel
theorem d_R_land_5 : decode c_R_land 5 = .ok (.invokevirtual 110, 3) := by decide +kernel
theorem d_R_land_8 : decode c_R_land 8 = .ok (.putfield 90, 3) := by decide +kernel
theorem d_R_land_11 : decode c_R_land 11 = .ok (.aload_n 0, 1) := by decide +kernel
theorem d_R_land_12 : decode c_R_land 12 = .ok (.getfield 12, 3) := by decide +kernel
theorem d_R_land_15 : decode c_R_land 15 = .ok (.iconst 0, 1) := by decide +kernel
theorem d_R_land_16 : decode c_R_land 16 = .ok (.invokevirtual 106, 3) := by decide +kernel
theorem d_R_land_19 : decode c_R_land 19 = .ok (.pop, 1) := by decide +kernel
theorem d_R_land_20 : decode c_R_land 20 = .ok (.aload_n 0, 1) := by decide +kernel
theorem d_R_land_21 : decode c_R_land 21 = .ok (.getfield 90, 3) := by decide +kernel
theorem d_R_land_24 : decode c_R_land 24 = .ok (.iconst (-1), 1) := by decide +kernel
theorem d_R_land_25 : decode c_R_land 25 = .ok (.if_icmp .eq 13, 3) := by decide +kernel
theorem d_R_land_28 : decode c_R_land 28 = .ok (.new 113, 3) := by decide +kernel
theorem d_R_land_31 : decode c_R_land 31 = .ok (.dup, 1) := by decide +kernel
theorem d_R_land_32 : decode c_R_land 32 = .ok (.ldc 115, 2) := by decide +kernel
theorem d_R_land_34 : decode c_R_land 34 = .ok (.invokespecial 117, 3) := by decide +kernel
theorem d_R_land_37 : decode c_R_land 37 = .ok (.athrow, 1) := by decide +kernel
theorem d_R_land_38 : decode c_R_land 38 = .ok (.aload_n 0, 1) := by decide +kernel
theorem d_R_land_39 : decode c_R_land 39 = .ok (.getfield 19, 3) := by decide +kernel
theorem d_R_land_42 : decode c_R_land 42 = .ok (.aload_n 0, 1) := by decide +kernel
theorem d_R_land_43 : decode c_R_land 43 = .ok (.getfield 28, 3) := by decide +kernel
theorem d_R_land_46 : decode c_R_land 46 = .ok (.invokevirtual 120, 3) := by decide +kernel
theorem d_R_land_49 : decode c_R_land 49 = .ok (.iconst 0, 1) := by decide +kernel
theorem d_R_land_50 : decode c_R_land 50 = .ok (.invokevirtual 124, 3) := by decide +kernel
theorem d_R_land_53 : decode c_R_land 53 = .ok (.aload_n 0, 1) := by decide +kernel
theorem d_R_land_54 : decode c_R_land 54 = .ok (.getfield 35, 3) := by decide +kernel
theorem d_R_land_57 : decode c_R_land 57 = .ok (.invokevirtual 128, 3) := by decide +kernel
theorem d_R_land_60 : decode c_R_land 60 = .ok (.aload_n 0, 1) := by decide +kernel
theorem d_R_land_61 : decode c_R_land 61 = .ok (.getfield 19, 3) := by decide +kernel
theorem d_R_land_64 : decode c_R_land 64 = .ok (.invokevirtual 131, 3) := by decide +kernel
theorem d_R_land_67 : decode c_R_land 67 = .ok (.ireturn, 1) := by decide +kernel
theorem d_R_fault_0 : decode c_R_fault 0 = .ok (.aload_n 0, 1) := by decide +kernel
theorem d_R_fault_1 : decode c_R_fault 1 = .ok (.getfield 90, 3) := by decide +kernel
theorem d_R_fault_4 : decode c_R_fault 4 = .ok (.ireturn, 1) := by decide +kernel
theorem d_R_place_0 : decode c_R_place 0 = .ok (.aload_n 0, 1) := by decide +kernel
theorem d_R_place_1 : decode c_R_place 1 = .ok (.iload_n 1, 1) := by decide +kernel
theorem d_R_place_2 : decode c_R_place 2 = .ok (.invokevirtual 134, 3) := by decide +kernel
theorem d_R_place_5 : decode c_R_place 5 = .ok (.aload_n 0, 1) := by decide +kernel
theorem d_R_place_6 : decode c_R_place 6 = .ok (.iload_n 2, 1) := by decide +kernel
theorem d_R_place_7 : decode c_R_place 7 = .ok (.iconst 4, 1) := by decide +kernel
theorem d_R_place_8 : decode c_R_place 8 = .ok (.invokevirtual 137, 3) := by decide +kernel
theorem d_R_place_11 : decode c_R_place 11 = .ok (.iload_n 2, 1) := by decide +kernel
theorem d_R_place_12 : decode c_R_place 12 = .ok (.tableswitch 71 0 2 #[28, 37, 54], 28) := by decide +kernel
theorem d_R_place_40 : decode c_R_place 40 = .ok (.aload_n 0, 1) := by decide +kernel
theorem d_R_place_41 : decode c_R_place 41 = .ok (.getfield 19, 3) := by decide +kernel
theorem d_R_place_44 : decode c_R_place 44 = .ok (.iload_n 1, 1) := by decide +kernel
theorem d_R_place_45 : decode c_R_place 45 = .ok (.invokevirtual 141, 3) := by decide +kernel
theorem d_R_place_48 : decode c_R_place 48 = .ok (.ireturn, 1) := by decide +kernel
theorem d_R_place_49 : decode c_R_place 49 = .ok (.aload_n 0, 1) := by decide +kernel
theorem d_R_place_50 : decode c_R_place 50 = .ok (.getfield 19, 3) := by decide +kernel
theorem d_R_place_53 : decode c_R_place 53 = .ok (.iload_n 1, 1) := by decide +kernel
theorem d_R_place_54 : decode c_R_place 54 = .ok (.invokevirtual 145, 3) := by decide +kernel
theorem d_R_place_57 : decode c_R_place 57 = .ok (.ifCond .eq 7, 3) := by decide +kernel
theorem d_R_place_60 : decode c_R_place 60 = .ok (.iconst 1, 1) := by decide +kernel
theorem d_R_place_61 : decode c_R_place 61 = .ok (.goto 4, 3) := by decide +kernel
theorem d_R_place_64 : decode c_R_place 64 = .ok (.iconst 0, 1) := by decide +kernel
theorem d_R_place_65 : decode c_R_place 65 = .ok (.ireturn, 1) := by decide +kernel
theorem d_R_place_66 : decode c_R_place 66 = .ok (.aload_n 0, 1) := by decide +kernel
theorem d_R_place_67 : decode c_R_place 67 = .ok (.getfield 19, 3) := by decide +kernel
theorem d_R_place_70 : decode c_R_place 70 = .ok (.iload_n 1, 1) := by decide +kernel
theorem d_R_place_71 : decode c_R_place 71 = .ok (.invokevirtual 148, 3) := by decide +kernel
theorem d_R_place_74 : decode c_R_place 74 = .ok (.ifCond .eq 7, 3) := by decide +kernel
theorem d_R_place_77 : decode c_R_place 77 = .ok (.iconst 1, 1) := by decide +kernel
theorem d_R_place_78 : decode c_R_place 78 = .ok (.goto 4, 3) := by decide +kernel
theorem d_R_place_81 : decode c_R_place 81 = .ok (.iconst 0, 1) := by decide +kernel
theorem d_R_place_82 : decode c_R_place 82 = .ok (.ireturn, 1) := by decide +kernel
theorem d_R_place_83 : decode c_R_place 83 = .ok (.aload_n 0, 1) := by decide +kernel
theorem d_R_place_84 : decode c_R_place 84 = .ok (.getfield 19, 3) := by decide +kernel
theorem d_R_place_87 : decode c_R_place 87 = .ok (.iload_n 1, 1) := by decide +kernel
theorem d_R_place_88 : decode c_R_place 88 = .ok (.invokevirtual 151, 3) := by decide +kernel
theorem d_R_place_91 : decode c_R_place 91 = .ok (.ireturn, 1) := by decide +kernel
theorem d_R_term_0 : decode c_R_term 0 = .ok (.aload_n 0, 1) := by decide +kernel
theorem d_R_term_1 : decode c_R_term 1 = .ok (.iload_n 1, 1) := by decide +kernel
theorem d_R_term_2 : decode c_R_term 2 = .ok (.bipush 11, 2) := by decide +kernel
theorem d_R_term_4 : decode c_R_term 4 = .ok (.invokevirtual 137, 3) := by decide +kernel
theorem d_R_term_7 : decode c_R_term 7 = .ok (.aload_n 0, 1) := by decide +kernel
theorem d_R_term_8 : decode c_R_term 8 = .ok (.getfield 19, 3) := by decide +kernel
theorem d_R_term_11 : decode c_R_term 11 = .ok (.iload_n 1, 1) := by decide +kernel
theorem d_R_term_12 : decode c_R_term 12 = .ok (.invokevirtual 154, 3) := by decide +kernel
theorem d_R_term_15 : decode c_R_term 15 = .ok (.ireturn, 1) := by decide +kernel
theorem d_R_tune_0 : decode c_R_tune 0 = .ok (.aload_n 0, 1) := by decide +kernel
theorem d_R_tune_1 : decode c_R_tune 1 = .ok (.iload_n 1, 1) := by decide +kernel
theorem d_R_tune_2 : decode c_R_tune 2 = .ok (.bipush 11, 2) := by decide +kernel
theorem d_R_tune_4 : decode c_R_tune 4 = .ok (.invokevirtual 137, 3) := by decide +kernel
theorem d_R_tune_7 : decode c_R_tune 7 = .ok (.aload_n 0, 1) := by decide +kernel
theorem d_R_tune_8 : decode c_R_tune 8 = .ok (.iload_n 2, 1) := by decide +kernel
theorem d_R_tune_9 : decode c_R_tune 9 = .ok (.getstatic 157, 3) := by decide +kernel
theorem d_R_tune_12 : decode c_R_tune 12 = .ok (.iload_n 1, 1) := by decide +kernel
theorem d_R_tune_13 : decode c_R_tune 13 = .ok (.iaload, 1) := by decide +kernel
theorem d_R_tune_14 : decode c_R_tune 14 = .ok (.getstatic 160, 3) := by decide +kernel
theorem d_R_tune_17 : decode c_R_tune 17 = .ok (.iload_n 1, 1) := by decide +kernel
theorem d_R_tune_18 : decode c_R_tune 18 = .ok (.iaload, 1) := by decide +kernel
theorem d_R_tune_19 : decode c_R_tune 19 = .ok (.invokevirtual 163, 3) := by decide +kernel
theorem d_R_tune_22 : decode c_R_tune 22 = .ok (.aload_n 0, 1) := by decide +kernel
theorem d_R_tune_23 : decode c_R_tune 23 = .ok (.getfield 19, 3) := by decide +kernel
theorem d_R_tune_26 : decode c_R_tune 26 = .ok (.iload_n 1, 1) := by decide +kernel
theorem d_R_tune_27 : decode c_R_tune 27 = .ok (.invokevirtual 154, 3) := by decide +kernel
theorem d_R_tune_30 : decode c_R_tune 30 = .ok (.istore_n 3, 1) := by decide +kernel
theorem d_R_tune_31 : decode c_R_tune 31 = .ok (.aload_n 0, 1) := by decide +kernel
theorem d_R_tune_32 : decode c_R_tune 32 = .ok (.invokevirtual 167, 3) := by decide +kernel
theorem d_R_tune_35 : decode c_R_tune 35 = .ok (.aload_n 0, 1) := by decide +kernel
theorem d_R_tune_36 : decode c_R_tune 36 = .ok (.getfield 19, 3) := by decide +kernel
theorem d_R_tune_39 : decode c_R_tune 39 = .ok (.iload_n 1, 1) := by decide +kernel
theorem d_R_tune_40 : decode c_R_tune 40 = .ok (.iload_n 2, 1) := by decide +kernel
theorem d_R_tune_41 : decode c_R_tune 41 = .ok (.invokevirtual 170, 3) := by decide +kernel
theorem d_R_tune_44 : decode c_R_tune 44 = .ok (.iload_n 3, 1) := by decide +kernel
theorem d_R_tune_45 : decode c_R_tune 45 = .ok (.ireturn, 1) := by decide +kernel
theorem d_R_raise_0 : decode c_R_raise 0 = .ok (.aload_n 0, 1) := by decide +kernel
theorem d_R_raise_1 : decode c_R_raise 1 = .ok (.iload_n 1, 1) := by decide +kernel
theorem d_R_raise_2 : decode c_R_raise 2 = .ok (.invokevirtual 134, 3) := by decide +kernel
theorem d_R_raise_5 : decode c_R_raise 5 = .ok (.aload_n 0, 1) := by decide +kernel
theorem d_R_raise_6 : decode c_R_raise 6 = .ok (.iload_n 2, 1) := by decide +kernel
theorem d_R_raise_7 : decode c_R_raise 7 = .ok (.bipush (-99), 2) := by decide +kernel
theorem d_R_raise_9 : decode c_R_raise 9 = .ok (.bipush 99, 2) := by decide +kernel
theorem d_R_raise_11 : decode c_R_raise 11 = .ok (.invokevirtual 163, 3) := by decide +kernel
theorem d_R_raise_14 : decode c_R_raise 14 = .ok (.aload_n 0, 1) := by decide +kernel
theorem d_R_raise_15 : decode c_R_raise 15 = .ok (.getfield 19, 3) := by decide +kernel
theorem d_R_raise_18 : decode c_R_raise 18 = .ok (.iload_n 1, 1) := by decide +kernel
theorem d_R_raise_19 : decode c_R_raise 19 = .ok (.invokevirtual 141, 3) := by decide +kernel
theorem d_R_raise_22 : decode c_R_raise 22 = .ok (.iload_n 2, 1) := by decide +kernel
theorem d_R_raise_23 : decode c_R_raise 23 = .ok (.iadd, 1) := by decide +kernel
theorem d_R_raise_24 : decode c_R_raise 24 = .ok (.istore_n 3, 1) := by decide +kernel
theorem d_R_raise_25 : decode c_R_raise 25 = .ok (.aload_n 0, 1) := by decide +kernel
theorem d_R_raise_26 : decode c_R_raise 26 = .ok (.iload_n 3, 1) := by decide +kernel
theorem d_R_raise_27 : decode c_R_raise 27 = .ok (.iconst 0, 1) := by decide +kernel
theorem d_R_raise_28 : decode c_R_raise 28 = .ok (.bipush 99, 2) := by decide +kernel
theorem d_R_raise_30 : decode c_R_raise 30 = .ok (.invokevirtual 163, 3) := by decide +kernel
theorem d_R_raise_33 : decode c_R_raise 33 = .ok (.aload_n 0, 1) := by decide +kernel
theorem d_R_raise_34 : decode c_R_raise 34 = .ok (.invokevirtual 167, 3) := by decide +kernel
theorem d_R_raise_37 : decode c_R_raise 37 = .ok (.aload_n 0, 1) := by decide +kernel
theorem d_R_raise_38 : decode c_R_raise 38 = .ok (.getfield 19, 3) := by decide +kernel
theorem d_R_raise_41 : decode c_R_raise 41 = .ok (.iload_n 1, 1) := by decide +kernel
theorem d_R_raise_42 : decode c_R_raise 42 = .ok (.iload_n 3, 1) := by decide +kernel
theorem d_R_raise_43 : decode c_R_raise 43 = .ok (.invokevirtual 173, 3) := by decide +kernel
theorem d_R_raise_46 : decode c_R_raise 46 = .ok (.iload_n 3, 1) := by decide +kernel
theorem d_R_raise_47 : decode c_R_raise 47 = .ok (.ireturn, 1) := by decide +kernel
theorem d_R_flood_0 : decode c_R_flood 0 = .ok (.aload_n 0, 1) := by decide +kernel
theorem d_R_flood_1 : decode c_R_flood 1 = .ok (.iload_n 1, 1) := by decide +kernel
theorem d_R_flood_2 : decode c_R_flood 2 = .ok (.invokevirtual 134, 3) := by decide +kernel
theorem d_R_flood_5 : decode c_R_flood 5 = .ok (.aload_n 0, 1) := by decide +kernel
theorem d_R_flood_6 : decode c_R_flood 6 = .ok (.getfield 19, 3) := by decide +kernel
theorem d_R_flood_9 : decode c_R_flood 9 = .ok (.iload_n 1, 1) := by decide +kernel
theorem d_R_flood_10 : decode c_R_flood 10 = .ok (.invokevirtual 145, 3) := by decide +kernel
theorem d_R_flood_13 : decode c_R_flood 13 = .ok (.iload_n 2, 1) := by decide +kernel
theorem d_R_flood_14 : decode c_R_flood 14 = .ok (.if_icmp .eq 7, 3) := by decide +kernel
theorem d_R_flood_17 : decode c_R_flood 17 = .ok (.iconst 1, 1) := by decide +kernel
theorem d_R_flood_18 : decode c_R_flood 18 = .ok (.goto 4, 3) := by decide +kernel
theorem d_R_flood_21 : decode c_R_flood 21 = .ok (.iconst 0, 1) := by decide +kernel
theorem d_R_flood_22 : decode c_R_flood 22 = .ok (.istore_n 3, 1) := by decide +kernel
theorem d_R_flood_23 : decode c_R_flood 23 = .ok (.aload_n 0, 1) := by decide +kernel
theorem d_R_flood_24 : decode c_R_flood 24 = .ok (.invokevirtual 167, 3) := by decide +kernel
theorem d_R_flood_27 : decode c_R_flood 27 = .ok (.aload_n 0, 1) := by decide +kernel
theorem d_R_flood_28 : decode c_R_flood 28 = .ok (.getfield 19, 3) := by decide +kernel
theorem d_R_flood_31 : decode c_R_flood 31 = .ok (.iload_n 1, 1) := by decide +kernel
theorem d_R_flood_32 : decode c_R_flood 32 = .ok (.iload_n 2, 1) := by decide +kernel
theorem d_R_flood_33 : decode c_R_flood 33 = .ok (.invokevirtual 176, 3) := by decide +kernel
theorem d_R_flood_36 : decode c_R_flood 36 = .ok (.iload_n 3, 1) := by decide +kernel
theorem d_R_flood_37 : decode c_R_flood 37 = .ok (.ireturn, 1) := by decide +kernel
theorem d_R_build_0 : decode c_R_build 0 = .ok (.aload_n 0, 1) := by decide +kernel
theorem d_R_build_1 : decode c_R_build 1 = .ok (.iload_n 1, 1) := by decide +kernel
theorem d_R_build_2 : decode c_R_build 2 = .ok (.invokevirtual 180, 3) := by decide +kernel
theorem d_R_build_5 : decode c_R_build 5 = .ok (.aload_n 0, 1) := by decide +kernel
theorem d_R_build_6 : decode c_R_build 6 = .ok (.iload_n 2, 1) := by decide +kernel
theorem d_R_build_7 : decode c_R_build 7 = .ok (.iload_n 3, 1) := by decide +kernel
theorem d_R_build_8 : decode c_R_build 8 = .ok (.invokevirtual 183, 3) := by decide +kernel
theorem d_R_build_11 : decode c_R_build 11 = .ok (.aload_n 0, 1) := by decide +kernel
theorem d_R_build_12 : decode c_R_build 12 = .ok (.iload_n 2, 1) := by decide +kernel
theorem d_R_build_13 : decode c_R_build 13 = .ok (.iload_n 3, 1) := by decide +kernel
theorem d_R_build_14 : decode c_R_build 14 = .ok (.invokevirtual 186, 3) := by decide +kernel
theorem d_R_build_17 : decode c_R_build 17 = .ok (.aload_n 0, 1) := by decide +kernel
theorem d_R_build_18 : decode c_R_build 18 = .ok (.getfield 53, 3) := by decide +kernel
theorem d_R_build_21 : decode c_R_build 21 = .ok (.iload_n 2, 1) := by decide +kernel
theorem d_R_build_22 : decode c_R_build 22 = .ok (.iload_n 3, 1) := by decide +kernel
theorem d_R_build_23 : decode c_R_build 23 = .ok (.iconst 0, 1) := by decide +kernel
theorem d_R_build_24 : decode c_R_build 24 = .ok (.invokevirtual 189, 3) := by decide +kernel
theorem d_R_build_27 : decode c_R_build 27 = .ok (.istore 4, 2) := by decide +kernel
theorem d_R_build_29 : decode c_R_build 29 = .ok (.iload 4, 2) := by decide +kernel
theorem d_R_build_31 : decode c_R_build 31 = .ok (.iconst (-1), 1) := by decide +kernel
theorem d_R_build_32 : decode c_R_build 32 = .ok (.if_icmp .eq 15, 3) := by decide +kernel
theorem d_R_build_35 : decode c_R_build 35 = .ok (.aload_n 0, 1) := by decide +kernel
theorem d_R_build_36 : decode c_R_build 36 = .ok (.getfield 53, 3) := by decide +kernel
theorem d_R_build_39 : decode c_R_build 39 = .ok (.invokevirtual 193, 3) := by decide +kernel
theorem d_R_build_42 : decode c_R_build 42 = .ok (.bipush 40, 2) := by decide +kernel
theorem d_R_build_44 : decode c_R_build 44 = .ok (.if_icmp .le 13, 3) := by decide +kernel
theorem d_R_build_47 : decode c_R_build 47 = .ok (.new 196, 3) := by decide +kernel
theorem d_R_build_50 : decode c_R_build 50 = .ok (.dup, 1) := by decide +kernel
theorem d_R_build_51 : decode c_R_build 51 = .ok (.ldc 198, 2) := by decide +kernel
theorem d_R_build_53 : decode c_R_build 53 = .ok (.invokespecial 200, 3) := by decide +kernel
theorem d_R_build_56 : decode c_R_build 56 = .ok (.athrow, 1) := by decide +kernel
theorem d_R_build_57 : decode c_R_build 57 = .ok (.aload_n 0, 1) := by decide +kernel
theorem d_R_build_58 : decode c_R_build 58 = .ok (.invokevirtual 167, 3) := by decide +kernel
theorem d_R_build_61 : decode c_R_build 61 = .ok (.aload_n 0, 1) := by decide +kernel
theorem d_R_build_62 : decode c_R_build 62 = .ok (.getfield 19, 3) := by decide +kernel
theorem d_R_build_65 : decode c_R_build 65 = .ok (.iload_n 1, 1) := by decide +kernel
theorem d_R_build_66 : decode c_R_build 66 = .ok (.aload_n 0, 1) := by decide +kernel
theorem d_R_build_67 : decode c_R_build 67 = .ok (.getfield 53, 3) := by decide +kernel
theorem d_R_build_70 : decode c_R_build 70 = .ok (.invokevirtual 201, 3) := by decide +kernel
theorem d_R_build_73 : decode c_R_build 73 = .ok (.aload_n 0, 1) := by decide +kernel
theorem d_R_build_74 : decode c_R_build 74 = .ok (.getfield 53, 3) := by decide +kernel
theorem d_R_build_77 : decode c_R_build 77 = .ok (.invokevirtual 193, 3) := by decide +kernel
theorem d_R_build_80 : decode c_R_build 80 = .ok (.invokevirtual 204, 3) := by decide +kernel
theorem d_R_build_83 : decode c_R_build 83 = .ok (.iload 4, 2) := by decide +kernel
theorem d_R_build_85 : decode c_R_build 85 = .ok (.ireturn, 1) := by decide +kernel
theorem d_R_drop_0 : decode c_R_drop 0 = .ok (.aload_n 0, 1) := by decide +kernel
theorem d_R_drop_1 : decode c_R_drop 1 = .ok (.iload_n 1, 1) := by decide +kernel
theorem d_R_drop_2 : decode c_R_drop 2 = .ok (.invokevirtual 180, 3) := by decide +kernel
theorem d_R_drop_5 : decode c_R_drop 5 = .ok (.aload_n 0, 1) := by decide +kernel
theorem d_R_drop_6 : decode c_R_drop 6 = .ok (.iload_n 1, 1) := by decide +kernel
theorem d_R_drop_7 : decode c_R_drop 7 = .ok (.invokevirtual 208, 3) := by decide +kernel
theorem d_R_drop_10 : decode c_R_drop 10 = .ok (.aload_n 0, 1) := by decide +kernel
theorem d_R_drop_11 : decode c_R_drop 11 = .ok (.getfield 19, 3) := by decide +kernel
theorem d_R_drop_14 : decode c_R_drop 14 = .ok (.iload_n 1, 1) := by decide +kernel
theorem d_R_drop_15 : decode c_R_drop 15 = .ok (.invokevirtual 211, 3) := by decide +kernel
theorem d_R_drop_18 : decode c_R_drop 18 = .ok (.istore_n 2, 1) := by decide +kernel
theorem d_R_drop_19 : decode c_R_drop 19 = .ok (.aload_n 0, 1) := by decide +kernel
theorem d_R_drop_20 : decode c_R_drop 20 = .ok (.invokevirtual 167, 3) := by decide +kernel
theorem d_R_drop_23 : decode c_R_drop 23 = .ok (.aload_n 0, 1) := by decide +kernel
theorem d_R_drop_24 : decode c_R_drop 24 = .ok (.getfield 19, 3) := by decide +kernel
theorem d_R_drop_27 : decode c_R_drop 27 = .ok (.iload_n 1, 1) := by decide +kernel
theorem d_R_drop_28 : decode c_R_drop 28 = .ok (.invokevirtual 214, 3) := by decide +kernel
theorem d_R_drop_31 : decode c_R_drop 31 = .ok (.iload_n 2, 1) := by decide +kernel
theorem d_R_drop_32 : decode c_R_drop 32 = .ok (.ireturn, 1) := by decide +kernel
theorem d_R_level_0 : decode c_R_level 0 = .ok (.aload_n 0, 1) := by decide +kernel
theorem d_R_level_1 : decode c_R_level 1 = .ok (.iload_n 1, 1) := by decide +kernel
theorem d_R_level_2 : decode c_R_level 2 = .ok (.invokevirtual 180, 3) := by decide +kernel
theorem d_R_level_5 : decode c_R_level 5 = .ok (.aload_n 0, 1) := by decide +kernel
theorem d_R_level_6 : decode c_R_level 6 = .ok (.iload_n 2, 1) := by decide +kernel
theorem d_R_level_7 : decode c_R_level 7 = .ok (.iconst 0, 1) := by decide +kernel
theorem d_R_level_8 : decode c_R_level 8 = .ok (.bipush 99, 2) := by decide +kernel
theorem d_R_level_10 : decode c_R_level 10 = .ok (.invokevirtual 163, 3) := by decide +kernel
theorem d_R_level_13 : decode c_R_level 13 = .ok (.aload_n 0, 1) := by decide +kernel
theorem d_R_level_14 : decode c_R_level 14 = .ok (.iload_n 1, 1) := by decide +kernel
theorem d_R_level_15 : decode c_R_level 15 = .ok (.invokevirtual 208, 3) := by decide +kernel
theorem d_R_level_18 : decode c_R_level 18 = .ok (.aload_n 0, 1) := by decide +kernel
theorem d_R_level_19 : decode c_R_level 19 = .ok (.getfield 69, 3) := by decide +kernel
theorem d_R_level_22 : decode c_R_level 22 = .ok (.iload_n 1, 1) := by decide +kernel
theorem d_R_level_23 : decode c_R_level 23 = .ok (.iload_n 2, 1) := by decide +kernel
theorem d_R_level_24 : decode c_R_level 24 = .ok (.invokevirtual 217, 3) := by decide +kernel
theorem d_R_level_27 : decode c_R_level 27 = .ok (.istore_n 3, 1) := by decide +kernel
theorem d_R_level_28 : decode c_R_level 28 = .ok (.iload_n 3, 1) := by decide +kernel
theorem d_R_level_29 : decode c_R_level 29 = .ok (.iconst (-1), 1) := by decide +kernel
theorem d_R_level_30 : decode c_R_level 30 = .ok (.if_icmp .ne 13, 3) := by decide +kernel
theorem d_R_level_33 : decode c_R_level 33 = .ok (.new 196, 3) := by decide +kernel
theorem d_R_level_36 : decode c_R_level 36 = .ok (.dup, 1) := by decide +kernel
theorem d_R_level_37 : decode c_R_level 37 = .ok (.ldc 221, 2) := by decide +kernel
theorem d_R_level_39 : decode c_R_level 39 = .ok (.invokespecial 200, 3) := by decide +kernel
theorem d_R_level_42 : decode c_R_level 42 = .ok (.athrow, 1) := by decide +kernel
theorem d_R_level_43 : decode c_R_level 43 = .ok (.aload_n 0, 1) := by decide +kernel
theorem d_R_level_44 : decode c_R_level 44 = .ok (.invokevirtual 167, 3) := by decide +kernel
theorem d_R_level_47 : decode c_R_level 47 = .ok (.aload_n 0, 1) := by decide +kernel
theorem d_R_level_48 : decode c_R_level 48 = .ok (.getfield 69, 3) := by decide +kernel
theorem d_R_level_51 : decode c_R_level 51 = .ok (.iload_n 1, 1) := by decide +kernel
theorem d_R_level_52 : decode c_R_level 52 = .ok (.invokevirtual 223, 3) := by decide +kernel
theorem d_R_level_55 : decode c_R_level 55 = .ok (.iload_n 3, 1) := by decide +kernel
theorem d_R_level_56 : decode c_R_level 56 = .ok (.ireturn, 1) := by decide +kernel
theorem d_R_undo_0 : decode c_R_undo 0 = .ok (.aload_n 0, 1) := by decide +kernel
theorem d_R_undo_1 : decode c_R_undo 1 = .ok (.getfield 35, 3) := by decide +kernel
theorem d_R_undo_4 : decode c_R_undo 4 = .ok (.invokevirtual 226, 3) := by decide +kernel
theorem d_R_undo_7 : decode c_R_undo 7 = .ok (.ifCond .ne 13, 3) := by decide +kernel
theorem d_R_undo_10 : decode c_R_undo 10 = .ok (.new 196, 3) := by decide +kernel
theorem d_R_undo_13 : decode c_R_undo 13 = .ok (.dup, 1) := by decide +kernel
theorem d_R_undo_14 : decode c_R_undo 14 = .ok (.ldc 227, 2) := by decide +kernel
theorem d_R_undo_16 : decode c_R_undo 16 = .ok (.invokespecial 200, 3) := by decide +kernel
theorem d_R_undo_19 : decode c_R_undo 19 = .ok (.athrow, 1) := by decide +kernel
theorem d_R_undo_20 : decode c_R_undo 20 = .ok (.aload_n 0, 1) := by decide +kernel
theorem d_R_undo_21 : decode c_R_undo 21 = .ok (.getfield 35, 3) := by decide +kernel
theorem d_R_undo_24 : decode c_R_undo 24 = .ok (.aload_n 0, 1) := by decide +kernel
theorem d_R_undo_25 : decode c_R_undo 25 = .ok (.getfield 19, 3) := by decide +kernel
theorem d_R_undo_28 : decode c_R_undo 28 = .ok (.invokevirtual 229, 3) := by decide +kernel
theorem d_R_undo_31 : decode c_R_undo 31 = .ok (.aload_n 0, 1) := by decide +kernel
theorem d_R_undo_32 : decode c_R_undo 32 = .ok (.getfield 35, 3) := by decide +kernel
theorem d_R_undo_35 : decode c_R_undo 35 = .ok (.invokevirtual 226, 3) := by decide +kernel
theorem d_R_undo_38 : decode c_R_undo 38 = .ok (.ireturn, 1) := by decide +kernel
theorem d_R_best_0 : decode c_R_best 0 = .ok (.aload_n 0, 1) := by decide +kernel
theorem d_R_best_1 : decode c_R_best 1 = .ok (.iload_n 1, 1) := by decide +kernel
theorem d_R_best_2 : decode c_R_best 2 = .ok (.iload_n 2, 1) := by decide +kernel
theorem d_R_best_3 : decode c_R_best 3 = .ok (.invokevirtual 183, 3) := by decide +kernel
theorem d_R_best_6 : decode c_R_best 6 = .ok (.aload_n 0, 1) := by decide +kernel
theorem d_R_best_7 : decode c_R_best 7 = .ok (.iload_n 3, 1) := by decide +kernel
theorem d_R_best_8 : decode c_R_best 8 = .ok (.bipush 6, 2) := by decide +kernel
theorem d_R_best_10 : decode c_R_best 10 = .ok (.invokevirtual 137, 3) := by decide +kernel
theorem d_R_best_13 : decode c_R_best 13 = .ok (.aload_n 0, 1) := by decide +kernel
theorem d_R_best_14 : decode c_R_best 14 = .ok (.iload_n 1, 1) := by decide +kernel
theorem d_R_best_15 : decode c_R_best 15 = .ok (.iload_n 2, 1) := by decide +kernel
theorem d_R_best_16 : decode c_R_best 16 = .ok (.invokevirtual 186, 3) := by decide +kernel
theorem d_R_best_19 : decode c_R_best 19 = .ok (.aload_n 0, 1) := by decide +kernel
theorem d_R_best_20 : decode c_R_best 20 = .ok (.getfield 53, 3) := by decide +kernel
theorem d_R_best_23 : decode c_R_best 23 = .ok (.iload_n 1, 1) := by decide +kernel
theorem d_R_best_24 : decode c_R_best 24 = .ok (.iload_n 2, 1) := by decide +kernel
theorem d_R_best_25 : decode c_R_best 25 = .ok (.iload_n 3, 1) := by decide +kernel
theorem d_R_best_26 : decode c_R_best 26 = .ok (.invokevirtual 232, 3) := by decide +kernel
theorem d_R_best_29 : decode c_R_best 29 = .ok (.ireturn, 1) := by decide +kernel
theorem d_R_along_0 : decode c_R_along 0 = .ok (.aload_n 0, 1) := by decide +kernel
theorem d_R_along_1 : decode c_R_along 1 = .ok (.iload_n 1, 1) := by decide +kernel
theorem d_R_along_2 : decode c_R_along 2 = .ok (.iload_n 2, 1) := by decide +kernel
theorem d_R_along_3 : decode c_R_along 3 = .ok (.invokevirtual 183, 3) := by decide +kernel
theorem d_R_along_6 : decode c_R_along 6 = .ok (.aload_n 0, 1) := by decide +kernel
theorem d_R_along_7 : decode c_R_along 7 = .ok (.iload_n 3, 1) := by decide +kernel
theorem d_R_along_8 : decode c_R_along 8 = .ok (.bipush 6, 2) := by decide +kernel
theorem d_R_along_10 : decode c_R_along 10 = .ok (.invokevirtual 137, 3) := by decide +kernel
theorem d_R_along_13 : decode c_R_along 13 = .ok (.aload_n 0, 1) := by decide +kernel
theorem d_R_along_14 : decode c_R_along 14 = .ok (.iload_n 1, 1) := by decide +kernel
theorem d_R_along_15 : decode c_R_along 15 = .ok (.iload_n 2, 1) := by decide +kernel
theorem d_R_along_16 : decode c_R_along 16 = .ok (.invokevirtual 186, 3) := by decide +kernel
theorem d_R_along_19 : decode c_R_along 19 = .ok (.aload_n 0, 1) := by decide +kernel
theorem d_R_along_20 : decode c_R_along 20 = .ok (.getfield 53, 3) := by decide +kernel
theorem d_R_along_23 : decode c_R_along 23 = .ok (.iload_n 1, 1) := by decide +kernel
theorem d_R_along_24 : decode c_R_along 24 = .ok (.iload_n 2, 1) := by decide +kernel
theorem d_R_along_25 : decode c_R_along 25 = .ok (.iload_n 3, 1) := by decide +kernel
theorem d_R_along_26 : decode c_R_along 26 = .ok (.invokevirtual 189, 3) := by decide +kernel
theorem d_R_along_29 : decode c_R_along 29 = .ok (.pop, 1) := by decide +kernel
theorem d_R_along_30 : decode c_R_along 30 = .ok (.iload 4, 2) := by decide +kernel
theorem d_R_along_32 : decode c_R_along 32 = .ok (.ifCond .lt 28, 3) := by decide +kernel
theorem d_R_along_35 : decode c_R_along 35 = .ok (.iload 4, 2) := by decide +kernel
theorem d_R_along_37 : decode c_R_along 37 = .ok (.aload_n 0, 1) := by decide +kernel
theorem d_R_along_38 : decode c_R_along 38 = .ok (.getfield 53, 3) := by decide +kernel
theorem d_R_along_41 : decode c_R_along 41 = .ok (.invokevirtual 193, 3) := by decide +kernel
theorem d_R_along_44 : decode c_R_along 44 = .ok (.if_icmp .ge 16, 3) := by decide +kernel
theorem d_R_along_47 : decode c_R_along 47 = .ok (.aload_n 0, 1) := by decide +kernel
theorem d_R_along_48 : decode c_R_along 48 = .ok (.getfield 53, 3) := by decide +kernel
theorem d_R_along_51 : decode c_R_along 51 = .ok (.invokevirtual 201, 3) := by decide +kernel
theorem d_R_along_54 : decode c_R_along 54 = .ok (.iload 4, 2) := by decide +kernel
theorem d_R_along_56 : decode c_R_along 56 = .ok (.iaload, 1) := by decide +kernel
theorem d_R_along_57 : decode c_R_along 57 = .ok (.goto 4, 3) := by decide +kernel
theorem d_R_along_60 : decode c_R_along 60 = .ok (.iconst (-1), 1) := by decide +kernel
theorem d_R_along_61 : decode c_R_along 61 = .ok (.ireturn, 1) := by decide +kernel
theorem d_R_reach_0 : decode c_R_reach 0 = .ok (.aload_n 0, 1) := by decide +kernel
theorem d_R_reach_1 : decode c_R_reach 1 = .ok (.iload_n 1, 1) := by decide +kernel
theorem d_R_reach_2 : decode c_R_reach 2 = .ok (.invokevirtual 134, 3) := by decide +kernel
theorem d_R_reach_5 : decode c_R_reach 5 = .ok (.aload_n 0, 1) := by decide +kernel
theorem d_R_reach_6 : decode c_R_reach 6 = .ok (.getfield 62, 3) := by decide +kernel
theorem d_R_reach_9 : decode c_R_reach 9 = .ok (.iload_n 1, 1) := by decide +kernel
theorem d_R_reach_10 : decode c_R_reach 10 = .ok (.invokevirtual 235, 3) := by decide +kernel
theorem d_R_reach_13 : decode c_R_reach 13 = .ok (.ireturn, 1) := by decide +kernel
theorem d_R_grade_0 : decode c_R_grade 0 = .ok (.aload_n 0, 1) := by decide +kernel
theorem d_R_grade_1 : decode c_R_grade 1 = .ok (.iload_n 1, 1) := by decide +kernel
theorem d_R_grade_2 : decode c_R_grade 2 = .ok (.iload_n 2, 1) := by decide +kernel
theorem d_R_grade_3 : decode c_R_grade 3 = .ok (.invokevirtual 183, 3) := by decide +kernel
theorem d_R_grade_6 : decode c_R_grade 6 = .ok (.aload_n 0, 1) := by decide +kernel
theorem d_R_grade_7 : decode c_R_grade 7 = .ok (.iload_n 1, 1) := by decide +kernel
theorem d_R_grade_8 : decode c_R_grade 8 = .ok (.iload_n 2, 1) := by decide +kernel
theorem d_R_grade_9 : decode c_R_grade 9 = .ok (.invokevirtual 186, 3) := by decide +kernel
theorem d_R_grade_12 : decode c_R_grade 12 = .ok (.aload_n 0, 1) := by decide +kernel
theorem d_R_grade_13 : decode c_R_grade 13 = .ok (.getfield 62, 3) := by decide +kernel
theorem d_R_grade_16 : decode c_R_grade 16 = .ok (.iload_n 1, 1) := by decide +kernel
theorem d_R_grade_17 : decode c_R_grade 17 = .ok (.iload_n 2, 1) := by decide +kernel
theorem d_R_grade_18 : decode c_R_grade 18 = .ok (.invokevirtual 238, 3) := by decide +kernel
theorem d_R_grade_21 : decode c_R_grade 21 = .ok (.ireturn, 1) := by decide +kernel
theorem d_R_gate_0 : decode c_R_gate 0 = .ok (.aload_n 0, 1) := by decide +kernel
theorem d_R_gate_1 : decode c_R_gate 1 = .ok (.iload_n 1, 1) := by decide +kernel
theorem d_R_gate_2 : decode c_R_gate 2 = .ok (.iload_n 2, 1) := by decide +kernel
theorem d_R_gate_3 : decode c_R_gate 3 = .ok (.invokevirtual 183, 3) := by decide +kernel
theorem d_R_gate_6 : decode c_R_gate 6 = .ok (.aload_n 0, 1) := by decide +kernel
theorem d_R_gate_7 : decode c_R_gate 7 = .ok (.iload_n 1, 1) := by decide +kernel
theorem d_R_gate_8 : decode c_R_gate 8 = .ok (.iload_n 2, 1) := by decide +kernel
theorem d_R_gate_9 : decode c_R_gate 9 = .ok (.invokevirtual 186, 3) := by decide +kernel
theorem d_R_gate_12 : decode c_R_gate 12 = .ok (.aload_n 0, 1) := by decide +kernel
theorem d_R_gate_13 : decode c_R_gate 13 = .ok (.getfield 62, 3) := by decide +kernel
theorem d_R_gate_16 : decode c_R_gate 16 = .ok (.iload_n 1, 1) := by decide +kernel
theorem d_R_gate_17 : decode c_R_gate 17 = .ok (.iload_n 2, 1) := by decide +kernel
theorem d_R_gate_18 : decode c_R_gate 18 = .ok (.invokevirtual 241, 3) := by decide +kernel
theorem d_R_gate_21 : decode c_R_gate 21 = .ok (.ireturn, 1) := by decide +kernel
theorem d_R_bored_0 : decode c_R_bored 0 = .ok (.aload_n 0, 1) := by decide +kernel
theorem d_R_bored_1 : decode c_R_bored 1 = .ok (.iload_n 1, 1) := by decide +kernel
theorem d_R_bored_2 : decode c_R_bored 2 = .ok (.iload_n 2, 1) := by decide +kernel
theorem d_R_bored_3 : decode c_R_bored 3 = .ok (.invokevirtual 183, 3) := by decide +kernel
theorem d_R_bored_6 : decode c_R_bored 6 = .ok (.aload_n 0, 1) := by decide +kernel
theorem d_R_bored_7 : decode c_R_bored 7 = .ok (.iload_n 1, 1) := by decide +kernel
theorem d_R_bored_8 : decode c_R_bored 8 = .ok (.iload_n 2, 1) := by decide +kernel
theorem d_R_bored_9 : decode c_R_bored 9 = .ok (.invokevirtual 186, 3) := by decide +kernel
theorem d_R_bored_12 : decode c_R_bored 12 = .ok (.aload_n 0, 1) := by decide +kernel
theorem d_R_bored_13 : decode c_R_bored 13 = .ok (.iload_n 3, 1) := by decide +kernel
theorem d_R_bored_14 : decode c_R_bored 14 = .ok (.iconst 0, 1) := by decide +kernel
theorem d_R_bored_15 : decode c_R_bored 15 = .ok (.iconst 3, 1) := by decide +kernel
theorem d_R_bored_16 : decode c_R_bored 16 = .ok (.invokevirtual 163, 3) := by decide +kernel
theorem d_R_bored_19 : decode c_R_bored 19 = .ok (.aload_n 0, 1) := by decide +kernel
theorem d_R_bored_20 : decode c_R_bored 20 = .ok (.getfield 53, 3) := by decide +kernel
theorem d_R_bored_23 : decode c_R_bored 23 = .ok (.iload_n 1, 1) := by decide +kernel
theorem d_R_bored_24 : decode c_R_bored 24 = .ok (.iload_n 2, 1) := by decide +kernel
theorem d_R_bored_25 : decode c_R_bored 25 = .ok (.iload_n 3, 1) := by decide +kernel
theorem d_R_bored_26 : decode c_R_bored 26 = .ok (.invokevirtual 244, 3) := by decide +kernel
theorem d_R_bored_29 : decode c_R_bored 29 = .ok (.ireturn, 1) := by decide +kernel
theorem d_R_meet_0 : decode c_R_meet 0 = .ok (.aload_n 0, 1) := by decide +kernel
theorem d_R_meet_1 : decode c_R_meet 1 = .ok (.iload_n 1, 1) := by decide +kernel
theorem d_R_meet_2 : decode c_R_meet 2 = .ok (.iload_n 2, 1) := by decide +kernel
theorem d_R_meet_3 : decode c_R_meet 3 = .ok (.invokevirtual 183, 3) := by decide +kernel
theorem d_R_meet_6 : decode c_R_meet 6 = .ok (.aload_n 0, 1) := by decide +kernel
theorem d_R_meet_7 : decode c_R_meet 7 = .ok (.iload_n 3, 1) := by decide +kernel
theorem d_R_meet_8 : decode c_R_meet 8 = .ok (.invokevirtual 134, 3) := by decide +kernel
theorem d_R_meet_11 : decode c_R_meet 11 = .ok (.aload_n 0, 1) := by decide +kernel
theorem d_R_meet_12 : decode c_R_meet 12 = .ok (.iload 4, 2) := by decide +kernel
theorem d_R_meet_14 : decode c_R_meet 14 = .ok (.iconst 2, 1) := by decide +kernel
theorem d_R_meet_15 : decode c_R_meet 15 = .ok (.invokevirtual 137, 3) := by decide +kernel
theorem d_R_meet_18 : decode c_R_meet 18 = .ok (.aload_n 0, 1) := by decide +kernel
theorem d_R_meet_19 : decode c_R_meet 19 = .ok (.iload_n 1, 1) := by decide +kernel
theorem d_R_meet_20 : decode c_R_meet 20 = .ok (.iload_n 2, 1) := by decide +kernel
theorem d_R_meet_21 : decode c_R_meet 21 = .ok (.invokevirtual 186, 3) := by decide +kernel
theorem d_R_meet_24 : decode c_R_meet 24 = .ok (.aload_n 0, 1) := by decide +kernel
theorem d_R_meet_25 : decode c_R_meet 25 = .ok (.iload_n 2, 1) := by decide +kernel
theorem d_R_meet_26 : decode c_R_meet 26 = .ok (.iload_n 3, 1) := by decide +kernel
theorem d_R_meet_27 : decode c_R_meet 27 = .ok (.invokevirtual 186, 3) := by decide +kernel
theorem d_R_meet_30 : decode c_R_meet 30 = .ok (.aload_n 0, 1) := by decide +kernel
theorem d_R_meet_31 : decode c_R_meet 31 = .ok (.iload_n 1, 1) := by decide +kernel
theorem d_R_meet_32 : decode c_R_meet 32 = .ok (.iload_n 3, 1) := by decide +kernel
theorem d_R_meet_33 : decode c_R_meet 33 = .ok (.invokevirtual 186, 3) := by decide +kernel
theorem d_R_meet_36 : decode c_R_meet 36 = .ok (.aload_n 0, 1) := by decide +kernel
theorem d_R_meet_37 : decode c_R_meet 37 = .ok (.getfield 62, 3) := by decide +kernel
theorem d_R_meet_40 : decode c_R_meet 40 = .ok (.invokevirtual 247, 3) := by decide +kernel
theorem d_R_meet_43 : decode c_R_meet 43 = .ok (.aload_n 0, 1) := by decide +kernel
theorem d_R_meet_44 : decode c_R_meet 44 = .ok (.getfield 62, 3) := by decide +kernel
theorem d_R_meet_47 : decode c_R_meet 47 = .ok (.iload_n 1, 1) := by decide +kernel
theorem d_R_meet_48 : decode c_R_meet 48 = .ok (.invokevirtual 250, 3) := by decide +kernel
theorem d_R_meet_51 : decode c_R_meet 51 = .ok (.aload_n 0, 1) := by decide +kernel
theorem d_R_meet_52 : decode c_R_meet 52 = .ok (.getfield 62, 3) := by decide +kernel
theorem d_R_meet_55 : decode c_R_meet 55 = .ok (.iload_n 2, 1) := by decide +kernel
theorem d_R_meet_56 : decode c_R_meet 56 = .ok (.invokevirtual 250, 3) := by decide +kernel
theorem d_R_meet_59 : decode c_R_meet 59 = .ok (.aload_n 0, 1) := by decide +kernel
theorem d_R_meet_60 : decode c_R_meet 60 = .ok (.getfield 62, 3) := by decide +kernel
theorem d_R_meet_63 : decode c_R_meet 63 = .ok (.iload_n 3, 1) := by decide +kernel
theorem d_R_meet_64 : decode c_R_meet 64 = .ok (.invokevirtual 250, 3) := by decide +kernel
theorem d_R_meet_67 : decode c_R_meet 67 = .ok (.aload_n 0, 1) := by decide +kernel
theorem d_R_meet_68 : decode c_R_meet 68 = .ok (.getfield 62, 3) := by decide +kernel
theorem d_R_meet_71 : decode c_R_meet 71 = .ok (.invokevirtual 253, 3) := by decide +kernel
theorem d_R_meet_74 : decode c_R_meet 74 = .ok (.istore 5, 2) := by decide +kernel
theorem d_R_meet_76 : decode c_R_meet 76 = .ok (.iload 5, 2) := by decide +kernel
theorem d_R_meet_78 : decode c_R_meet 78 = .ok (.iconst (-1), 1) := by decide +kernel
theorem d_R_meet_79 : decode c_R_meet 79 = .ok (.if_icmp .eq 8, 3) := by decide +kernel
theorem d_R_meet_82 : decode c_R_meet 82 = .ok (.iload 4, 2) := by decide +kernel
theorem d_R_meet_84 : decode c_R_meet 84 = .ok (.ifCond .ne 8, 3) := by decide +kernel
theorem d_R_meet_87 : decode c_R_meet 87 = .ok (.iload 5, 2) := by decide +kernel
theorem d_R_meet_89 : decode c_R_meet 89 = .ok (.goto 12, 3) := by decide +kernel
theorem d_R_meet_92 : decode c_R_meet 92 = .ok (.aload_n 0, 1) := by decide +kernel
theorem d_R_meet_93 : decode c_R_meet 93 = .ok (.getfield 62, 3) := by decide +kernel
theorem d_R_meet_96 : decode c_R_meet 96 = .ok (.iload 5, 2) := by decide +kernel
theorem d_R_meet_98 : decode c_R_meet 98 = .ok (.invokevirtual 256, 3) := by decide +kernel
theorem d_R_meet_101 : decode c_R_meet 101 = .ok (.ireturn, 1) := by decide +kernel
theorem d_R_round_0 : decode c_R_round 0 = .ok (.aload_n 0, 1) := by decide +kernel
theorem d_R_round_1 : decode c_R_round 1 = .ok (.getfield 12, 3) := by decide +kernel
theorem d_R_round_4 : decode c_R_round 4 = .ok (.invokevirtual 102, 3) := by decide +kernel
theorem d_R_round_7 : decode c_R_round 7 = .ok (.istore_n 1, 1) := by decide +kernel
theorem d_R_round_8 : decode c_R_round 8 = .ok (.aload_n 0, 1) := by decide +kernel
theorem d_R_round_9 : decode c_R_round 9 = .ok (.getfield 12, 3) := by decide +kernel
theorem d_R_round_12 : decode c_R_round 12 = .ok (.iconst 0, 1) := by decide +kernel
theorem d_R_round_13 : decode c_R_round 13 = .ok (.invokevirtual 106, 3) := by decide +kernel
theorem d_R_round_16 : decode c_R_round 16 = .ok (.pop, 1) := by decide +kernel
theorem d_R_round_17 : decode c_R_round 17 = .ok (.aload_n 0, 1) := by decide +kernel
theorem d_R_round_18 : decode c_R_round 18 = .ok (.getfield 62, 3) := by decide +kernel
theorem d_R_round_21 : decode c_R_round 21 = .ok (.aload_n 0, 1) := by decide +kernel
theorem d_R_round_22 : decode c_R_round 22 = .ok (.getfield 12, 3) := by decide +kernel
theorem d_R_round_25 : decode c_R_round 25 = .ok (.iload_n 1, 1) := by decide +kernel
theorem d_R_round_26 : decode c_R_round 26 = .ok (.invokevirtual 259, 3) := by decide +kernel
theorem d_R_round_29 : decode c_R_round 29 = .ok (.ifCond .ne 14, 3) := by decide +kernel
theorem d_R_round_32 : decode c_R_round 32 = .ok (.new 113, 3) := by decide +kernel
theorem d_R_round_35 : decode c_R_round 35 = .ok (.dup, 1) := by decide +kernel
theorem d_R_round_36 : decode c_R_round 36 = .ok (.ldc_w 263, 3) := by decide +kernel
theorem d_R_round_39 : decode c_R_round 39 = .ok (.invokespecial 117, 3) := by decide +kernel
theorem d_R_round_42 : decode c_R_round 42 = .ok (.athrow, 1) := by decide +kernel
theorem d_R_round_43 : decode c_R_round 43 = .ok (.aload_n 0, 1) := by decide +kernel
theorem d_R_round_44 : decode c_R_round 44 = .ok (.getfield 62, 3) := by decide +kernel
theorem d_R_round_47 : decode c_R_round 47 = .ok (.invokevirtual 265, 3) := by decide +kernel
theorem d_R_round_50 : decode c_R_round 50 = .ok (.ireturn, 1) := by decide +kernel
theorem d_R_road_0 : decode c_R_road 0 = .ok (.aload_n 0, 1) := by decide +kernel
theorem d_R_road_1 : decode c_R_road 1 = .ok (.iload_n 1, 1) := by decide +kernel
theorem d_R_road_2 : decode c_R_road 2 = .ok (.invokevirtual 180, 3) := by decide +kernel
theorem d_R_road_5 : decode c_R_road 5 = .ok (.aload_n 0, 1) := by decide +kernel
theorem d_R_road_6 : decode c_R_road 6 = .ok (.iload_n 2, 1) := by decide +kernel
theorem d_R_road_7 : decode c_R_road 7 = .ok (.bipush 15, 2) := by decide +kernel
theorem d_R_road_9 : decode c_R_road 9 = .ok (.invokevirtual 137, 3) := by decide +kernel
theorem d_R_road_12 : decode c_R_road 12 = .ok (.aload_n 0, 1) := by decide +kernel
theorem d_R_road_13 : decode c_R_road 13 = .ok (.iload_n 1, 1) := by decide +kernel
theorem d_R_road_14 : decode c_R_road 14 = .ok (.invokevirtual 208, 3) := by decide +kernel
theorem d_R_road_17 : decode c_R_road 17 = .ok (.aload_n 0, 1) := by decide +kernel
theorem d_R_road_18 : decode c_R_road 18 = .ok (.getfield 78, 3) := by decide +kernel
theorem d_R_road_21 : decode c_R_road 21 = .ok (.iload_n 1, 1) := by decide +kernel
theorem d_R_road_22 : decode c_R_road 22 = .ok (.iload_n 2, 1) := by decide +kernel
theorem d_R_road_23 : decode c_R_road 23 = .ok (.invokevirtual 268, 3) := by decide +kernel
theorem d_R_road_26 : decode c_R_road 26 = .ok (.ireturn, 1) := by decide +kernel
theorem d_R_at_0 : decode c_R_at 0 = .ok (.aload_n 0, 1) := by decide +kernel
theorem d_R_at_1 : decode c_R_at 1 = .ok (.iload_n 1, 1) := by decide +kernel
theorem d_R_at_2 : decode c_R_at 2 = .ok (.invokevirtual 180, 3) := by decide +kernel
theorem d_R_at_5 : decode c_R_at 5 = .ok (.aload_n 0, 1) := by decide +kernel
theorem d_R_at_6 : decode c_R_at 6 = .ok (.iload_n 1, 1) := by decide +kernel
theorem d_R_at_7 : decode c_R_at 7 = .ok (.invokevirtual 208, 3) := by decide +kernel
theorem d_R_at_10 : decode c_R_at 10 = .ok (.iload_n 2, 1) := by decide +kernel
theorem d_R_at_11 : decode c_R_at 11 = .ok (.ifCond .lt 15, 3) := by decide +kernel
theorem d_R_at_14 : decode c_R_at 14 = .ok (.iload_n 2, 1) := by decide +kernel
theorem d_R_at_15 : decode c_R_at 15 = .ok (.aload_n 0, 1) := by decide +kernel
theorem d_R_at_16 : decode c_R_at 16 = .ok (.getfield 19, 3) := by decide +kernel
theorem d_R_at_19 : decode c_R_at 19 = .ok (.iload_n 1, 1) := by decide +kernel
theorem d_R_at_20 : decode c_R_at 20 = .ok (.invokevirtual 211, 3) := by decide +kernel
theorem d_R_at_23 : decode c_R_at 23 = .ok (.if_icmp .lt 14, 3) := by decide +kernel
theorem d_R_at_26 : decode c_R_at 26 = .ok (.iload_n 3, 1) := by decide +kernel
theorem d_R_at_27 : decode c_R_at 27 = .ok (.ifCond .eq 8, 3) := by decide +kernel
theorem d_R_at_30 : decode c_R_at 30 = .ok (.bipush 100, 2) := by decide +kernel
theorem d_R_at_32 : decode c_R_at 32 = .ok (.goto 4, 3) := by decide +kernel
theorem d_R_at_35 : decode c_R_at 35 = .ok (.iconst (-1), 1) := by decide +kernel
theorem d_R_at_36 : decode c_R_at 36 = .ok (.ireturn, 1) := by decide +kernel
theorem d_R_at_37 : decode c_R_at 37 = .ok (.iload_n 3, 1) := by decide +kernel
theorem d_R_at_38 : decode c_R_at 38 = .ok (.ifCond .eq 15, 3) := by decide +kernel
theorem d_R_at_41 : decode c_R_at 41 = .ok (.aload_n 0, 1) := by decide +kernel
theorem d_R_at_42 : decode c_R_at 42 = .ok (.getfield 19, 3) := by decide +kernel
theorem d_R_at_45 : decode c_R_at 45 = .ok (.iload_n 1, 1) := by decide +kernel
theorem d_R_at_46 : decode c_R_at 46 = .ok (.iload_n 2, 1) := by decide +kernel
theorem d_R_at_47 : decode c_R_at 47 = .ok (.invokevirtual 271, 3) := by decide +kernel
theorem d_R_at_50 : decode c_R_at 50 = .ok (.goto 12, 3) := by decide +kernel
theorem d_R_at_53 : decode c_R_at 53 = .ok (.aload_n 0, 1) := by decide +kernel
theorem d_R_at_54 : decode c_R_at 54 = .ok (.getfield 19, 3) := by decide +kernel
theorem d_R_at_57 : decode c_R_at 57 = .ok (.iload_n 1, 1) := by decide +kernel
theorem d_R_at_58 : decode c_R_at 58 = .ok (.iload_n 2, 1) := by decide +kernel
theorem d_R_at_59 : decode c_R_at 59 = .ok (.invokevirtual 274, 3) := by decide +kernel
theorem d_R_at_62 : decode c_R_at 62 = .ok (.ireturn, 1) := by decide +kernel
theorem d_R_earth_0 : decode c_R_earth 0 = .ok (.aload_n 0, 1) := by decide +kernel
theorem d_R_earth_1 : decode c_R_earth 1 = .ok (.iload_n 1, 1) := by decide +kernel
theorem d_R_earth_2 : decode c_R_earth 2 = .ok (.invokevirtual 180, 3) := by decide +kernel
theorem d_R_earth_5 : decode c_R_earth 5 = .ok (.aload_n 0, 1) := by decide +kernel
theorem d_R_earth_6 : decode c_R_earth 6 = .ok (.iload_n 2, 1) := by decide +kernel
theorem d_R_earth_7 : decode c_R_earth 7 = .ok (.iconst 0, 1) := by decide +kernel
theorem d_R_earth_8 : decode c_R_earth 8 = .ok (.bipush 99, 2) := by decide +kernel
theorem d_R_earth_10 : decode c_R_earth 10 = .ok (.invokevirtual 163, 3) := by decide +kernel
theorem d_R_earth_13 : decode c_R_earth 13 = .ok (.aload_n 0, 1) := by decide +kernel
theorem d_R_earth_14 : decode c_R_earth 14 = .ok (.iload_n 1, 1) := by decide +kernel
theorem d_R_earth_15 : decode c_R_earth 15 = .ok (.invokevirtual 208, 3) := by decide +kernel
theorem d_R_earth_18 : decode c_R_earth 18 = .ok (.aload_n 0, 1) := by decide +kernel
theorem d_R_earth_19 : decode c_R_earth 19 = .ok (.getfield 69, 3) := by decide +kernel
theorem d_R_earth_22 : decode c_R_earth 22 = .ok (.iload_n 1, 1) := by decide +kernel
theorem d_R_earth_23 : decode c_R_earth 23 = .ok (.iload_n 2, 1) := by decide +kernel
theorem d_R_earth_24 : decode c_R_earth 24 = .ok (.invokevirtual 217, 3) := by decide +kernel
theorem d_R_earth_27 : decode c_R_earth 27 = .ok (.ireturn, 1) := by decide +kernel
theorem d_R_water_0 : decode c_R_water 0 = .ok (.aload_n 0, 1) := by decide +kernel
theorem d_R_water_1 : decode c_R_water 1 = .ok (.iload_n 1, 1) := by decide +kernel
theorem d_R_water_2 : decode c_R_water 2 = .ok (.invokevirtual 134, 3) := by decide +kernel
theorem d_R_water_5 : decode c_R_water 5 = .ok (.aload_n 0, 1) := by decide +kernel
theorem d_R_water_6 : decode c_R_water 6 = .ok (.iload_n 2, 1) := by decide +kernel
theorem d_R_water_7 : decode c_R_water 7 = .ok (.iconst 3, 1) := by decide +kernel
theorem d_R_water_8 : decode c_R_water 8 = .ok (.invokevirtual 137, 3) := by decide +kernel
theorem d_R_water_11 : decode c_R_water 11 = .ok (.iload_n 2, 1) := by decide +kernel
theorem d_R_water_12 : decode c_R_water 12 = .ok (.lookupswitch 53 #[(0, 28), (1, 37)], 28) := by decide +kernel
theorem d_R_water_40 : decode c_R_water 40 = .ok (.aload_n 0, 1) := by decide +kernel
theorem d_R_water_41 : decode c_R_water 41 = .ok (.getfield 44, 3) := by decide +kernel
theorem d_R_water_44 : decode c_R_water 44 = .ok (.iload_n 1, 1) := by decide +kernel
theorem d_R_water_45 : decode c_R_water 45 = .ok (.invokevirtual 277, 3) := by decide +kernel
theorem d_R_water_48 : decode c_R_water 48 = .ok (.ireturn, 1) := by decide +kernel
theorem d_R_water_49 : decode c_R_water 49 = .ok (.aload_n 0, 1) := by decide +kernel
theorem d_R_water_50 : decode c_R_water 50 = .ok (.getfield 44, 3) := by decide +kernel
theorem d_R_water_53 : decode c_R_water 53 = .ok (.invokevirtual 280, 3) := by decide +kernel
theorem d_R_water_56 : decode c_R_water 56 = .ok (.aload_n 0, 1) := by decide +kernel
theorem d_R_water_57 : decode c_R_water 57 = .ok (.getfield 44, 3) := by decide +kernel
theorem d_R_water_60 : decode c_R_water 60 = .ok (.iload_n 1, 1) := by decide +kernel
theorem d_R_water_61 : decode c_R_water 61 = .ok (.invokevirtual 283, 3) := by decide +kernel
theorem d_R_water_64 : decode c_R_water 64 = .ok (.ireturn, 1) := by decide +kernel
theorem d_R_water_65 : decode c_R_water 65 = .ok (.aload_n 0, 1) := by decide +kernel
theorem d_R_water_66 : decode c_R_water 66 = .ok (.getfield 44, 3) := by decide +kernel
theorem d_R_water_69 : decode c_R_water 69 = .ok (.iload_n 1, 1) := by decide +kernel
theorem d_R_water_70 : decode c_R_water 70 = .ok (.invokevirtual 286, 3) := by decide +kernel
theorem d_R_water_73 : decode c_R_water 73 = .ok (.ireturn, 1) := by decide +kernel
theorem d_R_bridges_0 : decode c_R_bridges 0 = .ok (.aload_n 0, 1) := by decide +kernel
theorem d_R_bridges_1 : decode c_R_bridges 1 = .ok (.iload_n 1, 1) := by decide +kernel
theorem d_R_bridges_2 : decode c_R_bridges 2 = .ok (.invokevirtual 180, 3) := by decide +kernel
theorem d_R_bridges_5 : decode c_R_bridges 5 = .ok (.aload_n 0, 1) := by decide +kernel
theorem d_R_bridges_6 : decode c_R_bridges 6 = .ok (.iload_n 2, 1) := by decide +kernel
theorem d_R_bridges_7 : decode c_R_bridges 7 = .ok (.iconst 1, 1) := by decide +kernel
theorem d_R_bridges_8 : decode c_R_bridges 8 = .ok (.bipush 81, 2) := by decide +kernel
theorem d_R_bridges_10 : decode c_R_bridges 10 = .ok (.invokevirtual 163, 3) := by decide +kernel
theorem d_R_bridges_13 : decode c_R_bridges 13 = .ok (.aload_n 0, 1) := by decide +kernel
theorem d_R_bridges_14 : decode c_R_bridges 14 = .ok (.iload_n 1, 1) := by decide +kernel
theorem d_R_bridges_15 : decode c_R_bridges 15 = .ok (.invokevirtual 208, 3) := by decide +kernel
theorem d_R_bridges_18 : decode c_R_bridges 18 = .ok (.aload_n 0, 1) := by decide +kernel
theorem d_R_bridges_19 : decode c_R_bridges 19 = .ok (.getfield 78, 3) := by decide +kernel
theorem d_R_bridges_22 : decode c_R_bridges 22 = .ok (.iload_n 1, 1) := by decide +kernel
theorem d_R_bridges_23 : decode c_R_bridges 23 = .ok (.iload_n 2, 1) := by decide +kernel
theorem d_R_bridges_24 : decode c_R_bridges 24 = .ok (.invokevirtual 289, 3) := by decide +kernel
theorem d_R_bridges_27 : decode c_R_bridges 27 = .ok (.ireturn, 1) := by decide +kernel
theorem d_R_joins_0 : decode c_R_joins 0 = .ok (.aload_n 0, 1) := by decide +kernel
theorem d_R_joins_1 : decode c_R_joins 1 = .ok (.iload_n 1, 1) := by decide +kernel
theorem d_R_joins_2 : decode c_R_joins 2 = .ok (.invokevirtual 134, 3) := by decide +kernel
theorem d_R_joins_5 : decode c_R_joins 5 = .ok (.aload_n 0, 1) := by decide +kernel
theorem d_R_joins_6 : decode c_R_joins 6 = .ok (.iload_n 2, 1) := by decide +kernel
theorem d_R_joins_7 : decode c_R_joins 7 = .ok (.invokevirtual 180, 3) := by decide +kernel
theorem d_R_joins_10 : decode c_R_joins 10 = .ok (.aload_n 0, 1) := by decide +kernel
theorem d_R_joins_11 : decode c_R_joins 11 = .ok (.iload_n 3, 1) := by decide +kernel
theorem d_R_joins_12 : decode c_R_joins 12 = .ok (.iconst 2, 1) := by decide +kernel
theorem d_R_joins_13 : decode c_R_joins 13 = .ok (.invokevirtual 137, 3) := by decide +kernel
theorem d_R_joins_16 : decode c_R_joins 16 = .ok (.aload_n 0, 1) := by decide +kernel
theorem d_R_joins_17 : decode c_R_joins 17 = .ok (.iload_n 2, 1) := by decide +kernel
theorem d_R_joins_18 : decode c_R_joins 18 = .ok (.invokevirtual 208, 3) := by decide +kernel
theorem d_R_joins_21 : decode c_R_joins 21 = .ok (.aload_n 0, 1) := by decide +kernel
theorem d_R_joins_22 : decode c_R_joins 22 = .ok (.getfield 62, 3) := by decide +kernel
theorem d_R_joins_25 : decode c_R_joins 25 = .ok (.iload_n 1, 1) := by decide +kernel
theorem d_R_joins_26 : decode c_R_joins 26 = .ok (.iload_n 2, 1) := by decide +kernel
theorem d_R_joins_27 : decode c_R_joins 27 = .ok (.invokevirtual 292, 3) := by decide +kernel
theorem d_R_joins_30 : decode c_R_joins 30 = .ok (.istore 4, 2) := by decide +kernel
theorem d_R_joins_32 : decode c_R_joins 32 = .ok (.iload 4, 2) := by decide +kernel
theorem d_R_joins_34 : decode c_R_joins 34 = .ok (.iconst (-1), 1) := by decide +kernel
theorem d_R_joins_35 : decode c_R_joins 35 = .ok (.if_icmp .ne 5, 3) := by decide +kernel
theorem d_R_joins_38 : decode c_R_joins 38 = .ok (.iconst (-1), 1) := by decide +kernel
theorem d_R_joins_39 : decode c_R_joins 39 = .ok (.ireturn, 1) := by decide +kernel
theorem d_R_joins_40 : decode c_R_joins 40 = .ok (.aload_n 0, 1) := by decide +kernel
theorem d_R_joins_41 : decode c_R_joins 41 = .ok (.getfield 19, 3) := by decide +kernel
theorem d_R_joins_44 : decode c_R_joins 44 = .ok (.iload_n 2, 1) := by decide +kernel
theorem d_R_joins_45 : decode c_R_joins 45 = .ok (.iload 4, 2) := by decide +kernel
theorem d_R_joins_47 : decode c_R_joins 47 = .ok (.invokevirtual 274, 3) := by decide +kernel
theorem d_R_joins_50 : decode c_R_joins 50 = .ok (.istore 5, 2) := by decide +kernel
theorem d_R_joins_52 : decode c_R_joins 52 = .ok (.iload_n 3, 1) := by decide +kernel
theorem d_R_joins_53 : decode c_R_joins 53 = .ok (.ifCond .ne 8, 3) := by decide +kernel
theorem d_R_joins_56 : decode c_R_joins 56 = .ok (.iload 5, 2) := by decide +kernel
theorem d_R_joins_58 : decode c_R_joins 58 = .ok (.goto 13, 3) := by decide +kernel
theorem d_R_joins_61 : decode c_R_joins 61 = .ok (.aload_n 0, 1) := by decide +kernel
theorem d_R_joins_62 : decode c_R_joins 62 = .ok (.getfield 53, 3) := by decide +kernel
theorem d_R_joins_65 : decode c_R_joins 65 = .ok (.iload 5, 2) := by decide +kernel
theorem d_R_joins_67 : decode c_R_joins 67 = .ok (.iload_n 1, 1) := by decide +kernel
theorem d_R_joins_68 : decode c_R_joins 68 = .ok (.invokevirtual 295, 3) := by decide +kernel
theorem d_R_joins_71 : decode c_R_joins 71 = .ok (.ireturn, 1) := by decide +kernel
theorem d_R_spare_0 : decode c_R_spare 0 = .ok (.aload_n 0, 1) := by decide +kernel
theorem d_R_spare_1 : decode c_R_spare 1 = .ok (.iload_n 1, 1) := by decide +kernel
theorem d_R_spare_2 : decode c_R_spare 2 = .ok (.iload_n 2, 1) := by decide +kernel
theorem d_R_spare_3 : decode c_R_spare 3 = .ok (.invokevirtual 183, 3) := by decide +kernel
theorem d_R_spare_6 : decode c_R_spare 6 = .ok (.aload_n 0, 1) := by decide +kernel
theorem d_R_spare_7 : decode c_R_spare 7 = .ok (.iload_n 3, 1) := by decide +kernel
theorem d_R_spare_8 : decode c_R_spare 8 = .ok (.iconst 2, 1) := by decide +kernel
theorem d_R_spare_9 : decode c_R_spare 9 = .ok (.invokevirtual 137, 3) := by decide +kernel
theorem d_R_spare_12 : decode c_R_spare 12 = .ok (.aload_n 0, 1) := by decide +kernel
theorem d_R_spare_13 : decode c_R_spare 13 = .ok (.iload_n 1, 1) := by decide +kernel
theorem d_R_spare_14 : decode c_R_spare 14 = .ok (.iload_n 2, 1) := by decide +kernel
theorem d_R_spare_15 : decode c_R_spare 15 = .ok (.invokevirtual 186, 3) := by decide +kernel
theorem d_R_spare_18 : decode c_R_spare 18 = .ok (.aload_n 0, 1) := by decide +kernel
theorem d_R_spare_19 : decode c_R_spare 19 = .ok (.getfield 62, 3) := by decide +kernel
theorem d_R_spare_22 : decode c_R_spare 22 = .ok (.iload_n 1, 1) := by decide +kernel
theorem d_R_spare_23 : decode c_R_spare 23 = .ok (.iload_n 2, 1) := by decide +kernel
theorem d_R_spare_24 : decode c_R_spare 24 = .ok (.invokevirtual 298, 3) := by decide +kernel
theorem d_R_spare_27 : decode c_R_spare 27 = .ok (.istore 4, 2) := by decide +kernel
theorem d_R_spare_29 : decode c_R_spare 29 = .ok (.iload_n 3, 1) := by decide +kernel
theorem d_R_spare_30 : decode c_R_spare 30 = .ok (.ifCond .ne 8, 3) := by decide +kernel
theorem d_R_spare_33 : decode c_R_spare 33 = .ok (.iload 4, 2) := by decide +kernel
theorem d_R_spare_35 : decode c_R_spare 35 = .ok (.goto 10, 3) := by decide +kernel
theorem d_R_spare_38 : decode c_R_spare 38 = .ok (.aload_n 0, 1) := by decide +kernel
theorem d_R_spare_39 : decode c_R_spare 39 = .ok (.getfield 62, 3) := by decide +kernel
theorem d_R_spare_42 : decode c_R_spare 42 = .ok (.invokevirtual 301, 3) := by decide +kernel
theorem d_R_spare_45 : decode c_R_spare 45 = .ok (.ireturn, 1) := by decide +kernel
theorem d_R_stages_0 : decode c_R_stages 0 = .ok (.aload_n 0, 1) := by decide +kernel
theorem d_R_stages_1 : decode c_R_stages 1 = .ok (.iload_n 1, 1) := by decide +kernel
theorem d_R_stages_2 : decode c_R_stages 2 = .ok (.invokevirtual 180, 3) := by decide +kernel
theorem d_R_stages_5 : decode c_R_stages 5 = .ok (.aload_n 0, 1) := by decide +kernel
theorem d_R_stages_6 : decode c_R_stages 6 = .ok (.iload_n 2, 1) := by decide +kernel
theorem d_R_stages_7 : decode c_R_stages 7 = .ok (.iconst 1, 1) := by decide +kernel
theorem d_R_stages_8 : decode c_R_stages 8 = .ok (.bipush 6, 2) := by decide +kernel
theorem d_R_stages_10 : decode c_R_stages 10 = .ok (.invokevirtual 163, 3) := by decide +kernel
theorem d_R_stages_13 : decode c_R_stages 13 = .ok (.aload_n 0, 1) := by decide +kernel
theorem d_R_stages_14 : decode c_R_stages 14 = .ok (.iload_n 1, 1) := by decide +kernel
theorem d_R_stages_15 : decode c_R_stages 15 = .ok (.invokevirtual 208, 3) := by decide +kernel
theorem d_R_stages_18 : decode c_R_stages 18 = .ok (.aload_n 0, 1) := by decide +kernel
theorem d_R_stages_19 : decode c_R_stages 19 = .ok (.getfield 78, 3) := by decide +kernel
theorem d_R_stages_22 : decode c_R_stages 22 = .ok (.iload_n 1, 1) := by decide +kernel
theorem d_R_stages_23 : decode c_R_stages 23 = .ok (.iload_n 2, 1) := by decide +kernel
theorem d_R_stages_24 : decode c_R_stages 24 = .ok (.invokevirtual 304, 3) := by decide +kernel
theorem d_R_stages_27 : decode c_R_stages 27 = .ok (.ireturn, 1) := by decide +kernel
theorem d_R_common_0 : decode c_R_common 0 = .ok (.aload_n 0, 1) := by decide +kernel
theorem d_R_common_1 : decode c_R_common 1 = .ok (.iload_n 1, 1) := by decide +kernel
theorem d_R_common_2 : decode c_R_common 2 = .ok (.invokevirtual 180, 3) := by decide +kernel
theorem d_R_common_5 : decode c_R_common 5 = .ok (.aload_n 0, 1) := by decide +kernel
theorem d_R_common_6 : decode c_R_common 6 = .ok (.iload_n 2, 1) := by decide +kernel
theorem d_R_common_7 : decode c_R_common 7 = .ok (.invokevirtual 180, 3) := by decide +kernel
theorem d_R_common_10 : decode c_R_common 10 = .ok (.aload_n 0, 1) := by decide +kernel
theorem d_R_common_11 : decode c_R_common 11 = .ok (.iload_n 1, 1) := by decide +kernel
theorem d_R_common_12 : decode c_R_common 12 = .ok (.iload_n 2, 1) := by decide +kernel
theorem d_R_common_13 : decode c_R_common 13 = .ok (.invokevirtual 186, 3) := by decide +kernel
theorem d_R_common_16 : decode c_R_common 16 = .ok (.aload_n 0, 1) := by decide +kernel
theorem d_R_common_17 : decode c_R_common 17 = .ok (.iload_n 1, 1) := by decide +kernel
theorem d_R_common_18 : decode c_R_common 18 = .ok (.invokevirtual 208, 3) := by decide +kernel
theorem d_R_common_21 : decode c_R_common 21 = .ok (.aload_n 0, 1) := by decide +kernel
theorem d_R_common_22 : decode c_R_common 22 = .ok (.iload_n 2, 1) := by decide +kernel
theorem d_R_common_23 : decode c_R_common 23 = .ok (.invokevirtual 208, 3) := by decide +kernel
theorem d_R_common_26 : decode c_R_common 26 = .ok (.aload_n 0, 1) := by decide +kernel
theorem d_R_common_27 : decode c_R_common 27 = .ok (.getfield 78, 3) := by decide +kernel
theorem d_R_common_30 : decode c_R_common 30 = .ok (.iload_n 1, 1) := by decide +kernel
theorem d_R_common_31 : decode c_R_common 31 = .ok (.iload_n 2, 1) := by decide +kernel
theorem d_R_common_32 : decode c_R_common 32 = .ok (.invokevirtual 307, 3) := by decide +kernel
theorem d_R_common_35 : decode c_R_common 35 = .ok (.ireturn, 1) := by decide +kernel
theorem d_R_image_0 : decode c_R_image 0 = .ok (.aload_n 0, 1) := by decide +kernel
theorem d_R_image_1 : decode c_R_image 1 = .ok (.getfield 19, 3) := by decide +kernel
theorem d_R_image_4 : decode c_R_image 4 = .ok (.aload_n 0, 1) := by decide +kernel
theorem d_R_image_5 : decode c_R_image 5 = .ok (.getfield 82, 3) := by decide +kernel
theorem d_R_image_8 : decode c_R_image 8 = .ok (.iconst 0, 1) := by decide +kernel
theorem d_R_image_9 : decode c_R_image 9 = .ok (.invokevirtual 310, 3) := by decide +kernel
theorem d_R_image_12 : decode c_R_image 12 = .ok (.aload_n 0, 1) := by decide +kernel
theorem d_R_image_13 : decode c_R_image 13 = .ok (.iconst 1, 1) := by decide +kernel
theorem d_R_image_14 : decode c_R_image 14 = .ok (.putfield 86, 3) := by decide +kernel
theorem d_R_image_17 : decode c_R_image 17 = .ok (.return_, 1) := by decide +kernel
theorem d_R_back_0 : decode c_R_back 0 = .ok (.aload_n 0, 1) := by decide +kernel
theorem d_R_back_1 : decode c_R_back 1 = .ok (.getfield 86, 3) := by decide +kernel
theorem d_R_back_4 : decode c_R_back 4 = .ok (.ifCond .ne 5, 3) := by decide +kernel
theorem d_R_back_7 : decode c_R_back 7 = .ok (.iconst 0, 1) := by decide +kernel
theorem d_R_back_8 : decode c_R_back 8 = .ok (.ireturn, 1) := by decide +kernel
theorem d_R_back_9 : decode c_R_back 9 = .ok (.aload_n 0, 1) := by decide +kernel
theorem d_R_back_10 : decode c_R_back 10 = .ok (.getfield 19, 3) := by decide +kernel
theorem d_R_back_13 : decode c_R_back 13 = .ok (.aload_n 0, 1) := by decide +kernel
theorem d_R_back_14 : decode c_R_back 14 = .ok (.getfield 82, 3) := by decide +kernel
theorem d_R_back_17 : decode c_R_back 17 = .ok (.iconst 0, 1) := by decide +kernel
theorem d_R_back_18 : decode c_R_back 18 = .ok (.invokevirtual 124, 3) := by decide +kernel
theorem d_R_back_21 : decode c_R_back 21 = .ok (.aload_n 0, 1) := by decide +kernel
theorem d_R_back_22 : decode c_R_back 22 = .ok (.getfield 35, 3) := by decide +kernel
theorem d_R_back_25 : decode c_R_back 25 = .ok (.invokevirtual 128, 3) := by decide +kernel
theorem d_R_back_28 : decode c_R_back 28 = .ok (.iconst 1, 1) := by decide +kernel
theorem d_R_back_29 : decode c_R_back 29 = .ok (.ireturn, 1) := by decide +kernel
theorem d_R_count_0 : decode c_R_count 0 = .ok (.iload_n 1, 1) := by decide +kernel
theorem d_R_count_1 : decode c_R_count 1 = .ok (.tableswitch 87 0 5 #[39, 47, 55, 63, 71, 79], 39) := by decide +kernel
theorem d_R_count_40 : decode c_R_count 40 = .ok (.aload_n 0, 1) := by decide +kernel
theorem d_R_count_41 : decode c_R_count 41 = .ok (.getfield 19, 3) := by decide +kernel
theorem d_R_count_44 : decode c_R_count 44 = .ok (.invokevirtual 313, 3) := by decide +kernel
theorem d_R_count_47 : decode c_R_count 47 = .ok (.ireturn, 1) := by decide +kernel
theorem d_R_count_48 : decode c_R_count 48 = .ok (.aload_n 0, 1) := by decide +kernel
theorem d_R_count_49 : decode c_R_count 49 = .ok (.getfield 19, 3) := by decide +kernel
theorem d_R_count_52 : decode c_R_count 52 = .ok (.invokevirtual 316, 3) := by decide +kernel
theorem d_R_count_55 : decode c_R_count 55 = .ok (.ireturn, 1) := by decide +kernel
theorem d_R_count_56 : decode c_R_count 56 = .ok (.aload_n 0, 1) := by decide +kernel
theorem d_R_count_57 : decode c_R_count 57 = .ok (.getfield 19, 3) := by decide +kernel
theorem d_R_count_60 : decode c_R_count 60 = .ok (.invokevirtual 319, 3) := by decide +kernel
theorem d_R_count_63 : decode c_R_count 63 = .ok (.ireturn, 1) := by decide +kernel
theorem d_R_count_64 : decode c_R_count 64 = .ok (.aload_n 0, 1) := by decide +kernel
theorem d_R_count_65 : decode c_R_count 65 = .ok (.getfield 19, 3) := by decide +kernel
theorem d_R_count_68 : decode c_R_count 68 = .ok (.invokevirtual 322, 3) := by decide +kernel
theorem d_R_count_71 : decode c_R_count 71 = .ok (.ireturn, 1) := by decide +kernel
theorem d_R_count_72 : decode c_R_count 72 = .ok (.aload_n 0, 1) := by decide +kernel
theorem d_R_count_73 : decode c_R_count 73 = .ok (.getfield 35, 3) := by decide +kernel
theorem d_R_count_76 : decode c_R_count 76 = .ok (.invokevirtual 226, 3) := by decide +kernel
theorem d_R_count_79 : decode c_R_count 79 = .ok (.ireturn, 1) := by decide +kernel
theorem d_R_count_80 : decode c_R_count 80 = .ok (.aload_n 0, 1) := by decide +kernel
theorem d_R_count_81 : decode c_R_count 81 = .ok (.getfield 44, 3) := by decide +kernel
theorem d_R_count_84 : decode c_R_count 84 = .ok (.invokevirtual 325, 3) := by decide +kernel
theorem d_R_count_87 : decode c_R_count 87 = .ok (.ireturn, 1) := by decide +kernel
theorem d_R_count_88 : decode c_R_count 88 = .ok (.iconst (-1), 1) := by decide +kernel
theorem d_R_count_89 : decode c_R_count 89 = .ok (.ireturn, 1) := by decide +kernel
theorem d_R_remember_0 : decode c_R_remember 0 = .ok (.aload_n 0, 1) := by decide +kernel
theorem d_R_remember_1 : decode c_R_remember 1 = .ok (.getfield 35, 3) := by decide +kernel
theorem d_R_remember_4 : decode c_R_remember 4 = .ok (.aload_n 0, 1) := by decide +kernel
theorem d_R_remember_5 : decode c_R_remember 5 = .ok (.getfield 19, 3) := by decide +kernel
theorem d_R_remember_8 : decode c_R_remember 8 = .ok (.invokevirtual 328, 3) := by decide +kernel
theorem d_R_remember_11 : decode c_R_remember 11 = .ok (.return_, 1) := by decide +kernel
theorem d_R_needPlace_0 : decode c_R_needPlace 0 = .ok (.iload_n 1, 1) := by decide +kernel
theorem d_R_needPlace_1 : decode c_R_needPlace 1 = .ok (.ifCond .lt 14, 3) := by decide +kernel
theorem d_R_needPlace_4 : decode c_R_needPlace 4 = .ok (.iload_n 1, 1) := by decide +kernel
theorem d_R_needPlace_5 : decode c_R_needPlace 5 = .ok (.aload_n 0, 1) := by decide +kernel
theorem d_R_needPlace_6 : decode c_R_needPlace 6 = .ok (.getfield 19, 3) := by decide +kernel
theorem d_R_needPlace_9 : decode c_R_needPlace 9 = .ok (.invokevirtual 131, 3) := by decide +kernel
theorem d_R_needPlace_12 : decode c_R_needPlace 12 = .ok (.if_icmp .lt 14, 3) := by decide +kernel
theorem d_R_needPlace_15 : decode c_R_needPlace 15 = .ok (.new 330, 3) := by decide +kernel
theorem d_R_needPlace_18 : decode c_R_needPlace 18 = .ok (.dup, 1) := by decide +kernel
theorem d_R_needPlace_19 : decode c_R_needPlace 19 = .ok (.ldc_w 332, 3) := by decide +kernel
theorem d_R_needPlace_22 : decode c_R_needPlace 22 = .ok (.invokespecial 334, 3) := by decide +kernel
theorem d_R_needPlace_25 : decode c_R_needPlace 25 = .ok (.athrow, 1) := by decide +kernel
theorem d_R_needPlace_26 : decode c_R_needPlace 26 = .ok (.return_, 1) := by decide +kernel
theorem d_R_needPair_0 : decode c_R_needPair 0 = .ok (.aload_n 0, 1) := by decide +kernel
theorem d_R_needPair_1 : decode c_R_needPair 1 = .ok (.iload_n 1, 1) := by decide +kernel
theorem d_R_needPair_2 : decode c_R_needPair 2 = .ok (.invokevirtual 134, 3) := by decide +kernel
theorem d_R_needPair_5 : decode c_R_needPair 5 = .ok (.aload_n 0, 1) := by decide +kernel
theorem d_R_needPair_6 : decode c_R_needPair 6 = .ok (.iload_n 2, 1) := by decide +kernel
theorem d_R_needPair_7 : decode c_R_needPair 7 = .ok (.invokevirtual 134, 3) := by decide +kernel
theorem d_R_needPair_10 : decode c_R_needPair 10 = .ok (.return_, 1) := by decide +kernel
theorem d_R_needRoad_0 : decode c_R_needRoad 0 = .ok (.iload_n 1, 1) := by decide +kernel
theorem d_R_needRoad_1 : decode c_R_needRoad 1 = .ok (.ifCond .lt 8, 3) := by decide +kernel
theorem d_R_needRoad_4 : decode c_R_needRoad 4 = .ok (.iload_n 1, 1) := by decide +kernel
theorem d_R_needRoad_5 : decode c_R_needRoad 5 = .ok (.iconst 4, 1) := by decide +kernel
theorem d_R_needRoad_6 : decode c_R_needRoad 6 = .ok (.if_icmp .lt 13, 3) := by decide +kernel
theorem d_R_needRoad_9 : decode c_R_needRoad 9 = .ok (.new 330, 3) := by decide +kernel
theorem d_R_needRoad_12 : decode c_R_needRoad 12 = .ok (.dup, 1) := by decide +kernel
theorem d_R_needRoad_13 : decode c_R_needRoad 13 = .ok (.ldc 198, 2) := by decide +kernel
theorem d_R_needRoad_15 : decode c_R_needRoad 15 = .ok (.invokespecial 334, 3) := by decide +kernel
theorem d_R_needRoad_18 : decode c_R_needRoad 18 = .ok (.athrow, 1) := by decide +kernel
theorem d_R_needRoad_19 : decode c_R_needRoad 19 = .ok (.return_, 1) := by decide +kernel
theorem d_R_needAnswer_0 : decode c_R_needAnswer 0 = .ok (.iload_n 1, 1) := by decide +kernel
theorem d_R_needAnswer_1 : decode c_R_needAnswer 1 = .ok (.ifCond .lt 8, 3) := by decide +kernel
theorem d_R_needAnswer_4 : decode c_R_needAnswer 4 = .ok (.iload_n 1, 1) := by decide +kernel
theorem d_R_needAnswer_5 : decode c_R_needAnswer 5 = .ok (.iload_n 2, 1) := by decide +kernel
theorem d_R_needAnswer_6 : decode c_R_needAnswer 6 = .ok (.if_icmp .lt 14, 3) := by decide +kernel
theorem d_R_needAnswer_9 : decode c_R_needAnswer 9 = .ok (.new 335, 3) := by decide +kernel
theorem d_R_needAnswer_12 : decode c_R_needAnswer 12 = .ok (.dup, 1) := by decide +kernel
theorem d_R_needAnswer_13 : decode c_R_needAnswer 13 = .ok (.ldc_w 337, 3) := by decide +kernel
theorem d_R_needAnswer_16 : decode c_R_needAnswer 16 = .ok (.invokespecial 339, 3) := by decide +kernel
theorem d_R_needAnswer_19 : decode c_R_needAnswer 19 = .ok (.athrow, 1) := by decide +kernel
theorem d_R_needAnswer_20 : decode c_R_needAnswer 20 = .ok (.return_, 1) := by decide +kernel
theorem d_R_needNumber_0 : decode c_R_needNumber 0 = .ok (.iload_n 1, 1) := by decide +kernel
theorem d_R_needNumber_1 : decode c_R_needNumber 1 = .ok (.iload_n 2, 1) := by decide +kernel
theorem d_R_needNumber_2 : decode c_R_needNumber 2 = .ok (.if_icmp .lt 8, 3) := by decide +kernel
theorem d_R_needNumber_5 : decode c_R_needNumber 5 = .ok (.iload_n 1, 1) := by decide +kernel
theorem d_R_needNumber_6 : decode c_R_needNumber 6 = .ok (.iload_n 3, 1) := by decide +kernel
theorem d_R_needNumber_7 : decode c_R_needNumber 7 = .ok (.if_icmp .le 14, 3) := by decide +kernel
theorem d_R_needNumber_10 : decode c_R_needNumber 10 = .ok (.new 113, 3) := by decide +kernel
theorem d_R_needNumber_13 : decode c_R_needNumber 13 = .ok (.dup, 1) := by decide +kernel
theorem d_R_needNumber_14 : decode c_R_needNumber 14 = .ok (.ldc_w 340, 3) := by decide +kernel
theorem d_R_needNumber_17 : decode c_R_needNumber 17 = .ok (.invokespecial 117, 3) := by decide +kernel
theorem d_R_needNumber_20 : decode c_R_needNumber 20 = .ok (.athrow, 1) := by decide +kernel
theorem d_R_needNumber_21 : decode c_R_needNumber 21 = .ok (.return_, 1) := by decide +kernel
theorem d_R_needUnlike_0 : decode c_R_needUnlike 0 = .ok (.iload_n 1, 1) := by decide +kernel
theorem d_R_needUnlike_1 : decode c_R_needUnlike 1 = .ok (.iload_n 2, 1) := by decide +kernel
theorem d_R_needUnlike_2 : decode c_R_needUnlike 2 = .ok (.if_icmp .ne 14, 3) := by decide +kernel
theorem d_R_needUnlike_5 : decode c_R_needUnlike 5 = .ok (.new 113, 3) := by decide +kernel
theorem d_R_needUnlike_8 : decode c_R_needUnlike 8 = .ok (.dup, 1) := by decide +kernel
theorem d_R_needUnlike_9 : decode c_R_needUnlike 9 = .ok (.ldc_w 342, 3) := by decide +kernel
theorem d_R_needUnlike_12 : decode c_R_needUnlike 12 = .ok (.invokespecial 117, 3) := by decide +kernel
theorem d_R_needUnlike_15 : decode c_R_needUnlike 15 = .ok (.athrow, 1) := by decide +kernel
theorem d_R_needUnlike_16 : decode c_R_needUnlike 16 = .ok (.return_, 1) := by decide +kernel
theorem d_R_needBuilt_0 : decode c_R_needBuilt 0 = .ok (.aload_n 0, 1) := by decide +kernel
theorem d_R_needBuilt_1 : decode c_R_needBuilt 1 = .ok (.getfield 19, 3) := by decide +kernel
theorem d_R_needBuilt_4 : decode c_R_needBuilt 4 = .ok (.iload_n 1, 1) := by decide +kernel
theorem d_R_needBuilt_5 : decode c_R_needBuilt 5 = .ok (.invokevirtual 344, 3) := by decide +kernel
theorem d_R_needBuilt_8 : decode c_R_needBuilt 8 = .ok (.ifCond .ne 14, 3) := by decide +kernel
theorem d_R_needBuilt_11 : decode c_R_needBuilt 11 = .ok (.new 196, 3) := by decide +kernel
theorem d_R_needBuilt_14 : decode c_R_needBuilt 14 = .ok (.dup, 1) := by decide +kernel
theorem d_R_needBuilt_15 : decode c_R_needBuilt 15 = .ok (.ldc_w 347, 3) := by decide +kernel
theorem d_R_needBuilt_18 : decode c_R_needBuilt 18 = .ok (.invokespecial 200, 3) := by decide +kernel
theorem d_R_needBuilt_21 : decode c_R_needBuilt 21 = .ok (.athrow, 1) := by decide +kernel
theorem d_R_needBuilt_22 : decode c_R_needBuilt 22 = .ok (.return_, 1) := by decide +kernel
theorem d_R_longOf_0 : decode c_R_longOf 0 = .ok (.iload_n 0, 1) := by decide +kernel
theorem d_R_longOf_1 : decode c_R_longOf 1 = .ok (.iconst 1, 1) := by decide +kernel
theorem d_R_longOf_2 : decode c_R_longOf 2 = .ok (.iand, 1) := by decide +kernel
theorem d_R_longOf_3 : decode c_R_longOf 3 = .ok (.ifCond .ne 8, 3) := by decide +kernel
theorem d_R_longOf_6 : decode c_R_longOf 6 = .ok (.bipush 10, 2) := by decide +kernel
theorem d_R_longOf_8 : decode c_R_longOf 8 = .ok (.goto 5, 3) := by decide +kernel
theorem d_R_longOf_11 : decode c_R_longOf 11 = .ok (.bipush 14, 2) := by decide +kernel
theorem d_R_longOf_13 : decode c_R_longOf 13 = .ok (.ireturn, 1) := by decide +kernel
theorem d_R_opposite_0 : decode c_R_opposite 0 = .ok (.iload_n 0, 1) := by decide +kernel
theorem d_R_opposite_1 : decode c_R_opposite 1 = .ok (.iconst 4, 1) := by decide +kernel
theorem d_R_opposite_2 : decode c_R_opposite 2 = .ok (.iadd, 1) := by decide +kernel
theorem d_R_opposite_3 : decode c_R_opposite 3 = .ok (.bipush 7, 2) := by decide +kernel
theorem d_R_opposite_5 : decode c_R_opposite 5 = .ok (.iand, 1) := by decide +kernel
theorem d_R_opposite_6 : decode c_R_opposite 6 = .ok (.ireturn, 1) := by decide +kernel
theorem d_R_eighths_0 : decode c_R_eighths 0 = .ok (.iload_n 0, 1) := by decide +kernel
theorem d_R_eighths_1 : decode c_R_eighths 1 = .ok (.iload_n 1, 1) := by decide +kernel
theorem d_R_eighths_2 : decode c_R_eighths 2 = .ok (.isub, 1) := by decide +kernel
theorem d_R_eighths_3 : decode c_R_eighths 3 = .ok (.bipush 7, 2) := by decide +kernel
theorem d_R_eighths_5 : decode c_R_eighths 5 = .ok (.iand, 1) := by decide +kernel
theorem d_R_eighths_6 : decode c_R_eighths 6 = .ok (.istore_n 2, 1) := by decide +kernel
theorem d_R_eighths_7 : decode c_R_eighths 7 = .ok (.iload_n 2, 1) := by decide +kernel
theorem d_R_eighths_8 : decode c_R_eighths 8 = .ok (.iconst 4, 1) := by decide +kernel
theorem d_R_eighths_9 : decode c_R_eighths 9 = .ok (.if_icmp .le 10, 3) := by decide +kernel
theorem d_R_eighths_12 : decode c_R_eighths 12 = .ok (.bipush 8, 2) := by decide +kernel
theorem d_R_eighths_14 : decode c_R_eighths 14 = .ok (.iload_n 2, 1) := by decide +kernel
theorem d_R_eighths_15 : decode c_R_eighths 15 = .ok (.isub, 1) := by decide +kernel
theorem d_R_eighths_16 : decode c_R_eighths 16 = .ok (.goto 4, 3) := by decide +kernel
theorem d_R_eighths_19 : decode c_R_eighths 19 = .ok (.iload_n 2, 1) := by decide +kernel
theorem d_R_eighths_20 : decode c_R_eighths 20 = .ok (.ireturn, 1) := by decide +kernel
