theorem dX0_init_0 : decode prog_2_method_1_code 0 = .ok (.aload_n 0, 1) := by decide +kernel
theorem dX0_init_1 : decode prog_2_method_1_code 1 = .ok (.invokespecial 1, 3) := by decide +kernel
theorem dX0_init_4 : decode prog_2_method_1_code 4 = .ok (.aload_n 0, 1) := by decide +kernel
theorem dX0_init_5 : decode prog_2_method_1_code 5 = .ok (.iconst 5, 1) := by decide +kernel
theorem dX0_init_6 : decode prog_2_method_1_code 6 = .ok (.newarray .int, 2) := by decide +kernel
theorem dX0_init_8 : decode prog_2_method_1_code 8 = .ok (.putfield 9, 3) := by decide +kernel
theorem dX0_init_11 : decode prog_2_method_1_code 11 = .ok (.aload_n 0, 1) := by decide +kernel
theorem dX0_init_12 : decode prog_2_method_1_code 12 = .ok (.iconst 5, 1) := by decide +kernel
theorem dX0_init_13 : decode prog_2_method_1_code 13 = .ok (.newarray .int, 2) := by decide +kernel
theorem dX0_init_15 : decode prog_2_method_1_code 15 = .ok (.putfield 13, 3) := by decide +kernel
theorem dX0_init_18 : decode prog_2_method_1_code 18 = .ok (.return_, 1) := by decide +kernel
theorem dX0_add_0 : decode prog_2_method_2_code 0 = .ok (.aload_n 0, 1) := by decide +kernel
theorem dX0_add_1 : decode prog_2_method_2_code 1 = .ok (.getfield 16, 3) := by decide +kernel
theorem dX0_add_4 : decode prog_2_method_2_code 4 = .ok (.iconst 5, 1) := by decide +kernel
theorem dX0_add_5 : decode prog_2_method_2_code 5 = .ok (.if_icmp .lt 5, 3) := by decide +kernel
theorem dX0_add_8 : decode prog_2_method_2_code 8 = .ok (.iconst 0, 1) := by decide +kernel
theorem dX0_add_9 : decode prog_2_method_2_code 9 = .ok (.ireturn, 1) := by decide +kernel
theorem dX0_add_10 : decode prog_2_method_2_code 10 = .ok (.aload_n 0, 1) := by decide +kernel
theorem dX0_add_11 : decode prog_2_method_2_code 11 = .ok (.getfield 9, 3) := by decide +kernel
theorem dX0_add_14 : decode prog_2_method_2_code 14 = .ok (.aload_n 0, 1) := by decide +kernel
theorem dX0_add_15 : decode prog_2_method_2_code 15 = .ok (.getfield 16, 3) := by decide +kernel
theorem dX0_add_18 : decode prog_2_method_2_code 18 = .ok (.iload_n 1, 1) := by decide +kernel
theorem dX0_add_19 : decode prog_2_method_2_code 19 = .ok (.iastore, 1) := by decide +kernel
theorem dX0_add_20 : decode prog_2_method_2_code 20 = .ok (.aload_n 0, 1) := by decide +kernel
theorem dX0_add_21 : decode prog_2_method_2_code 21 = .ok (.getfield 13, 3) := by decide +kernel
theorem dX0_add_24 : decode prog_2_method_2_code 24 = .ok (.aload_n 0, 1) := by decide +kernel
theorem dX0_add_25 : decode prog_2_method_2_code 25 = .ok (.getfield 16, 3) := by decide +kernel
theorem dX0_add_28 : decode prog_2_method_2_code 28 = .ok (.iload_n 2, 1) := by decide +kernel
theorem dX0_add_29 : decode prog_2_method_2_code 29 = .ok (.iastore, 1) := by decide +kernel
theorem dX0_add_30 : decode prog_2_method_2_code 30 = .ok (.aload_n 0, 1) := by decide +kernel
theorem dX0_add_31 : decode prog_2_method_2_code 31 = .ok (.dup, 1) := by decide +kernel
theorem dX0_add_32 : decode prog_2_method_2_code 32 = .ok (.getfield 16, 3) := by decide +kernel
theorem dX0_add_35 : decode prog_2_method_2_code 35 = .ok (.iconst 1, 1) := by decide +kernel
theorem dX0_add_36 : decode prog_2_method_2_code 36 = .ok (.iadd, 1) := by decide +kernel
theorem dX0_add_37 : decode prog_2_method_2_code 37 = .ok (.putfield 16, 3) := by decide +kernel
theorem dX0_add_40 : decode prog_2_method_2_code 40 = .ok (.iconst 1, 1) := by decide +kernel
theorem dX0_add_41 : decode prog_2_method_2_code 41 = .ok (.ireturn, 1) := by decide +kernel
theorem dX0_choose_0 : decode prog_2_method_3_code 0 = .ok (.aload_n 0, 1) := by decide +kernel
theorem dX0_choose_1 : decode prog_2_method_3_code 1 = .ok (.iconst 0, 1) := by decide +kernel
theorem dX0_choose_2 : decode prog_2_method_3_code 2 = .ok (.putfield 20, 3) := by decide +kernel
theorem dX0_choose_5 : decode prog_2_method_3_code 5 = .ok (.aload_n 0, 1) := by decide +kernel
theorem dX0_choose_6 : decode prog_2_method_3_code 6 = .ok (.iconst 0, 1) := by decide +kernel
theorem dX0_choose_7 : decode prog_2_method_3_code 7 = .ok (.putfield 23, 3) := by decide +kernel
theorem dX0_choose_10 : decode prog_2_method_3_code 10 = .ok (.iconst 1, 1) := by decide +kernel
theorem dX0_choose_11 : decode prog_2_method_3_code 11 = .ok (.istore_n 3, 1) := by decide +kernel
theorem dX0_choose_12 : decode prog_2_method_3_code 12 = .ok (.iload_n 3, 1) := by decide +kernel
theorem dX0_choose_13 : decode prog_2_method_3_code 13 = .ok (.iconst 1, 1) := by decide +kernel
theorem dX0_choose_14 : decode prog_2_method_3_code 14 = .ok (.aload_n 0, 1) := by decide +kernel
theorem dX0_choose_15 : decode prog_2_method_3_code 15 = .ok (.getfield 16, 3) := by decide +kernel
theorem dX0_choose_18 : decode prog_2_method_3_code 18 = .ok (.ishl, 1) := by decide +kernel
theorem dX0_choose_19 : decode prog_2_method_3_code 19 = .ok (.if_icmp .ge 37, 3) := by decide +kernel
theorem dX0_choose_22 : decode prog_2_method_3_code 22 = .ok (.aload_n 0, 1) := by decide +kernel
theorem dX0_choose_23 : decode prog_2_method_3_code 23 = .ok (.iload_n 3, 1) := by decide +kernel
theorem dX0_choose_24 : decode prog_2_method_3_code 24 = .ok (.lload_n 1, 1) := by decide +kernel
theorem dX0_choose_25 : decode prog_2_method_3_code 25 = .ok (.invokevirtual 26, 3) := by decide +kernel
theorem dX0_choose_28 : decode prog_2_method_3_code 28 = .ok (.istore 4, 2) := by decide +kernel
theorem dX0_choose_30 : decode prog_2_method_3_code 30 = .ok (.iload 4, 2) := by decide +kernel
theorem dX0_choose_32 : decode prog_2_method_3_code 32 = .ok (.aload_n 0, 1) := by decide +kernel
theorem dX0_choose_33 : decode prog_2_method_3_code 33 = .ok (.getfield 23, 3) := by decide +kernel
theorem dX0_choose_36 : decode prog_2_method_3_code 36 = .ok (.if_icmp .le 14, 3) := by decide +kernel
theorem dX0_choose_39 : decode prog_2_method_3_code 39 = .ok (.aload_n 0, 1) := by decide +kernel
theorem dX0_choose_40 : decode prog_2_method_3_code 40 = .ok (.iload 4, 2) := by decide +kernel
theorem dX0_choose_42 : decode prog_2_method_3_code 42 = .ok (.putfield 23, 3) := by decide +kernel
theorem dX0_choose_45 : decode prog_2_method_3_code 45 = .ok (.aload_n 0, 1) := by decide +kernel
theorem dX0_choose_46 : decode prog_2_method_3_code 46 = .ok (.iload_n 3, 1) := by decide +kernel
theorem dX0_choose_47 : decode prog_2_method_3_code 47 = .ok (.putfield 20, 3) := by decide +kernel
theorem dX0_choose_50 : decode prog_2_method_3_code 50 = .ok (.iinc 3 1, 3) := by decide +kernel
theorem dX0_choose_53 : decode prog_2_method_3_code 53 = .ok (.goto (-41), 3) := by decide +kernel
theorem dX0_choose_56 : decode prog_2_method_3_code 56 = .ok (.return_, 1) := by decide +kernel
theorem dX0_worstOf_0 : decode prog_2_method_4_code 0 = .ok (.sipush 500, 3) := by decide +kernel
theorem dX0_worstOf_3 : decode prog_2_method_4_code 3 = .ok (.istore 4, 2) := by decide +kernel
theorem dX0_worstOf_5 : decode prog_2_method_4_code 5 = .ok (.iconst 0, 1) := by decide +kernel
theorem dX0_worstOf_6 : decode prog_2_method_4_code 6 = .ok (.istore 5, 2) := by decide +kernel
theorem dX0_worstOf_8 : decode prog_2_method_4_code 8 = .ok (.iload 5, 2) := by decide +kernel
theorem dX0_worstOf_10 : decode prog_2_method_4_code 10 = .ok (.bipush 64, 2) := by decide +kernel
theorem dX0_worstOf_12 : decode prog_2_method_4_code 12 = .ok (.if_icmp .ge 34, 3) := by decide +kernel
theorem dX0_worstOf_15 : decode prog_2_method_4_code 15 = .ok (.lload_n 2, 1) := by decide +kernel
theorem dX0_worstOf_16 : decode prog_2_method_4_code 16 = .ok (.iload 5, 2) := by decide +kernel
theorem dX0_worstOf_18 : decode prog_2_method_4_code 18 = .ok (.lushr, 1) := by decide +kernel
theorem dX0_worstOf_19 : decode prog_2_method_4_code 19 = .ok (.lconst 1, 1) := by decide +kernel
theorem dX0_worstOf_20 : decode prog_2_method_4_code 20 = .ok (.land, 1) := by decide +kernel
theorem dX0_worstOf_21 : decode prog_2_method_4_code 21 = .ok (.lconst 1, 1) := by decide +kernel
theorem dX0_worstOf_22 : decode prog_2_method_4_code 22 = .ok (.lcmp, 1) := by decide +kernel
theorem dX0_worstOf_23 : decode prog_2_method_4_code 23 = .ok (.ifCond .ne 17, 3) := by decide +kernel
theorem dX0_worstOf_26 : decode prog_2_method_4_code 26 = .ok (.iload 4, 2) := by decide +kernel
theorem dX0_worstOf_28 : decode prog_2_method_4_code 28 = .ok (.aload_n 0, 1) := by decide +kernel
theorem dX0_worstOf_29 : decode prog_2_method_4_code 29 = .ok (.iload_n 1, 1) := by decide +kernel
theorem dX0_worstOf_30 : decode prog_2_method_4_code 30 = .ok (.iload 5, 2) := by decide +kernel
theorem dX0_worstOf_32 : decode prog_2_method_4_code 32 = .ok (.invokevirtual 30, 3) := by decide +kernel
theorem dX0_worstOf_35 : decode prog_2_method_4_code 35 = .ok (.invokestatic 34, 3) := by decide +kernel
theorem dX0_worstOf_38 : decode prog_2_method_4_code 38 = .ok (.istore 4, 2) := by decide +kernel
theorem dX0_worstOf_40 : decode prog_2_method_4_code 40 = .ok (.iinc 5 1, 3) := by decide +kernel
theorem dX0_worstOf_43 : decode prog_2_method_4_code 43 = .ok (.goto (-35), 3) := by decide +kernel
theorem dX0_worstOf_46 : decode prog_2_method_4_code 46 = .ok (.iload 4, 2) := by decide +kernel
theorem dX0_worstOf_48 : decode prog_2_method_4_code 48 = .ok (.ireturn, 1) := by decide +kernel
theorem dX0_winOf_0 : decode prog_2_method_5_code 0 = .ok (.iconst 0, 1) := by decide +kernel
theorem dX0_winOf_1 : decode prog_2_method_5_code 1 = .ok (.istore_n 3, 1) := by decide +kernel
theorem dX0_winOf_2 : decode prog_2_method_5_code 2 = .ok (.iconst 0, 1) := by decide +kernel
theorem dX0_winOf_3 : decode prog_2_method_5_code 3 = .ok (.istore 4, 2) := by decide +kernel
theorem dX0_winOf_5 : decode prog_2_method_5_code 5 = .ok (.iload 4, 2) := by decide +kernel
theorem dX0_winOf_7 : decode prog_2_method_5_code 7 = .ok (.aload_n 0, 1) := by decide +kernel
theorem dX0_winOf_8 : decode prog_2_method_5_code 8 = .ok (.getfield 16, 3) := by decide +kernel
theorem dX0_winOf_11 : decode prog_2_method_5_code 11 = .ok (.if_icmp .ge 44, 3) := by decide +kernel
theorem dX0_winOf_14 : decode prog_2_method_5_code 14 = .ok (.iload_n 1, 1) := by decide +kernel
theorem dX0_winOf_15 : decode prog_2_method_5_code 15 = .ok (.iload 4, 2) := by decide +kernel
theorem dX0_winOf_17 : decode prog_2_method_5_code 17 = .ok (.ishr, 1) := by decide +kernel
theorem dX0_winOf_18 : decode prog_2_method_5_code 18 = .ok (.iconst 1, 1) := by decide +kernel
theorem dX0_winOf_19 : decode prog_2_method_5_code 19 = .ok (.iand, 1) := by decide +kernel
theorem dX0_winOf_20 : decode prog_2_method_5_code 20 = .ok (.iconst 1, 1) := by decide +kernel
theorem dX0_winOf_21 : decode prog_2_method_5_code 21 = .ok (.if_icmp .ne 28, 3) := by decide +kernel
theorem dX0_winOf_24 : decode prog_2_method_5_code 24 = .ok (.iload_n 3, 1) := by decide +kernel
theorem dX0_winOf_25 : decode prog_2_method_5_code 25 = .ok (.bipush 100, 2) := by decide +kernel
theorem dX0_winOf_27 : decode prog_2_method_5_code 27 = .ok (.iload_n 2, 1) := by decide +kernel
theorem dX0_winOf_28 : decode prog_2_method_5_code 28 = .ok (.aload_n 0, 1) := by decide +kernel
theorem dX0_winOf_29 : decode prog_2_method_5_code 29 = .ok (.getfield 9, 3) := by decide +kernel
theorem dX0_winOf_32 : decode prog_2_method_5_code 32 = .ok (.iload 4, 2) := by decide +kernel
theorem dX0_winOf_34 : decode prog_2_method_5_code 34 = .ok (.iaload, 1) := by decide +kernel
theorem dX0_winOf_35 : decode prog_2_method_5_code 35 = .ok (.ishr, 1) := by decide +kernel
theorem dX0_winOf_36 : decode prog_2_method_5_code 36 = .ok (.iconst 1, 1) := by decide +kernel
theorem dX0_winOf_37 : decode prog_2_method_5_code 37 = .ok (.iand, 1) := by decide +kernel
theorem dX0_winOf_38 : decode prog_2_method_5_code 38 = .ok (.imul, 1) := by decide +kernel
theorem dX0_winOf_39 : decode prog_2_method_5_code 39 = .ok (.aload_n 0, 1) := by decide +kernel
theorem dX0_winOf_40 : decode prog_2_method_5_code 40 = .ok (.getfield 13, 3) := by decide +kernel
theorem dX0_winOf_43 : decode prog_2_method_5_code 43 = .ok (.iload 4, 2) := by decide +kernel
theorem dX0_winOf_45 : decode prog_2_method_5_code 45 = .ok (.iaload, 1) := by decide +kernel
theorem dX0_winOf_46 : decode prog_2_method_5_code 46 = .ok (.isub, 1) := by decide +kernel
theorem dX0_winOf_47 : decode prog_2_method_5_code 47 = .ok (.iadd, 1) := by decide +kernel
theorem dX0_winOf_48 : decode prog_2_method_5_code 48 = .ok (.istore_n 3, 1) := by decide +kernel
theorem dX0_winOf_49 : decode prog_2_method_5_code 49 = .ok (.iinc 4 1, 3) := by decide +kernel
theorem dX0_winOf_52 : decode prog_2_method_5_code 52 = .ok (.goto (-47), 3) := by decide +kernel
theorem dX0_winOf_55 : decode prog_2_method_5_code 55 = .ok (.iload_n 3, 1) := by decide +kernel
theorem dX0_winOf_56 : decode prog_2_method_5_code 56 = .ok (.ireturn, 1) := by decide +kernel
theorem dX1_init_0 : decode prog_3_method_1_code 0 = .ok (.aload_n 0, 1) := by decide +kernel
theorem dX1_init_1 : decode prog_3_method_1_code 1 = .ok (.invokespecial 1, 3) := by decide +kernel
theorem dX1_init_4 : decode prog_3_method_1_code 4 = .ok (.aload_n 0, 1) := by decide +kernel
theorem dX1_init_5 : decode prog_3_method_1_code 5 = .ok (.bipush 6, 2) := by decide +kernel
theorem dX1_init_7 : decode prog_3_method_1_code 7 = .ok (.iconst 2, 1) := by decide +kernel
theorem dX1_init_8 : decode prog_3_method_1_code 8 = .ok (.multianewarray 9 2, 4) := by decide +kernel
theorem dX1_init_12 : decode prog_3_method_1_code 12 = .ok (.putfield 11, 3) := by decide +kernel
theorem dX1_init_15 : decode prog_3_method_1_code 15 = .ok (.aload_n 0, 1) := by decide +kernel
theorem dX1_init_16 : decode prog_3_method_1_code 16 = .ok (.iconst 5, 1) := by decide +kernel
theorem dX1_init_17 : decode prog_3_method_1_code 17 = .ok (.bipush 6, 2) := by decide +kernel
theorem dX1_init_19 : decode prog_3_method_1_code 19 = .ok (.multianewarray 9 2, 4) := by decide +kernel
theorem dX1_init_23 : decode prog_3_method_1_code 23 = .ok (.putfield 14, 3) := by decide +kernel
theorem dX1_init_26 : decode prog_3_method_1_code 26 = .ok (.aload_n 0, 1) := by decide +kernel
theorem dX1_init_27 : decode prog_3_method_1_code 27 = .ok (.bipush 6, 2) := by decide +kernel
theorem dX1_init_29 : decode prog_3_method_1_code 29 = .ok (.iconst 4, 1) := by decide +kernel
theorem dX1_init_30 : decode prog_3_method_1_code 30 = .ok (.multianewarray 9 2, 4) := by decide +kernel
theorem dX1_init_34 : decode prog_3_method_1_code 34 = .ok (.putfield 17, 3) := by decide +kernel
theorem dX1_init_37 : decode prog_3_method_1_code 37 = .ok (.return_, 1) := by decide +kernel
theorem dX1_hasFact_0 : decode prog_3_method_2_code 0 = .ok (.iload_n 1, 1) := by decide +kernel
theorem dX1_hasFact_1 : decode prog_3_method_2_code 1 = .ok (.ifCond .lt 15, 3) := by decide +kernel
theorem dX1_hasFact_4 : decode prog_3_method_2_code 4 = .ok (.iload_n 1, 1) := by decide +kernel
theorem dX1_hasFact_5 : decode prog_3_method_2_code 5 = .ok (.aload_n 0, 1) := by decide +kernel
theorem dX1_hasFact_6 : decode prog_3_method_2_code 6 = .ok (.getfield 20, 3) := by decide +kernel
theorem dX1_hasFact_9 : decode prog_3_method_2_code 9 = .ok (.if_icmp .ge 7, 3) := by decide +kernel
theorem dX1_hasFact_12 : decode prog_3_method_2_code 12 = .ok (.iconst 1, 1) := by decide +kernel
theorem dX1_hasFact_13 : decode prog_3_method_2_code 13 = .ok (.goto 4, 3) := by decide +kernel
theorem dX1_hasFact_16 : decode prog_3_method_2_code 16 = .ok (.iconst 0, 1) := by decide +kernel
theorem dX1_hasFact_17 : decode prog_3_method_2_code 17 = .ok (.ireturn, 1) := by decide +kernel
theorem dX1_hasOne_0 : decode prog_3_method_3_code 0 = .ok (.iload_n 1, 1) := by decide +kernel
theorem dX1_hasOne_1 : decode prog_3_method_3_code 1 = .ok (.ifCond .lt 15, 3) := by decide +kernel
theorem dX1_hasOne_4 : decode prog_3_method_3_code 4 = .ok (.iload_n 1, 1) := by decide +kernel
theorem dX1_hasOne_5 : decode prog_3_method_3_code 5 = .ok (.aload_n 0, 1) := by decide +kernel
theorem dX1_hasOne_6 : decode prog_3_method_3_code 6 = .ok (.getfield 24, 3) := by decide +kernel
theorem dX1_hasOne_9 : decode prog_3_method_3_code 9 = .ok (.if_icmp .ge 7, 3) := by decide +kernel
theorem dX1_hasOne_12 : decode prog_3_method_3_code 12 = .ok (.iconst 1, 1) := by decide +kernel
theorem dX1_hasOne_13 : decode prog_3_method_3_code 13 = .ok (.goto 4, 3) := by decide +kernel
theorem dX1_hasOne_16 : decode prog_3_method_3_code 16 = .ok (.iconst 0, 1) := by decide +kernel
theorem dX1_hasOne_17 : decode prog_3_method_3_code 17 = .ok (.ireturn, 1) := by decide +kernel
theorem dX1_everyone_0 : decode prog_3_method_4_code 0 = .ok (.iconst 1, 1) := by decide +kernel
theorem dX1_everyone_1 : decode prog_3_method_4_code 1 = .ok (.aload_n 0, 1) := by decide +kernel
theorem dX1_everyone_2 : decode prog_3_method_4_code 2 = .ok (.getfield 24, 3) := by decide +kernel
theorem dX1_everyone_5 : decode prog_3_method_4_code 5 = .ok (.ishl, 1) := by decide +kernel
theorem dX1_everyone_6 : decode prog_3_method_4_code 6 = .ok (.iconst 1, 1) := by decide +kernel
theorem dX1_everyone_7 : decode prog_3_method_4_code 7 = .ok (.isub, 1) := by decide +kernel
theorem dX1_everyone_8 : decode prog_3_method_4_code 8 = .ok (.ireturn, 1) := by decide +kernel
theorem dX1_add_0 : decode prog_3_method_5_code 0 = .ok (.aload_n 1, 1) := by decide +kernel
theorem dX1_add_1 : decode prog_3_method_5_code 1 = .ok (.iconst 0, 1) := by decide +kernel
theorem dX1_add_2 : decode prog_3_method_5_code 2 = .ok (.iaload, 1) := by decide +kernel
theorem dX1_add_3 : decode prog_3_method_5_code 3 = .ok (.istore_n 2, 1) := by decide +kernel
theorem dX1_add_4 : decode prog_3_method_5_code 4 = .ok (.iload_n 2, 1) := by decide +kernel
theorem dX1_add_5 : decode prog_3_method_5_code 5 = .ok (.ifCond .ne 10, 3) := by decide +kernel
theorem dX1_add_8 : decode prog_3_method_5_code 8 = .ok (.aload_n 0, 1) := by decide +kernel
theorem dX1_add_9 : decode prog_3_method_5_code 9 = .ok (.invokevirtual 27, 3) := by decide +kernel
theorem dX1_add_12 : decode prog_3_method_5_code 12 = .ok (.goto 62, 3) := by decide +kernel
theorem dX1_add_15 : decode prog_3_method_5_code 15 = .ok (.iload_n 2, 1) := by decide +kernel
theorem dX1_add_16 : decode prog_3_method_5_code 16 = .ok (.bipush 8, 2) := by decide +kernel
theorem dX1_add_18 : decode prog_3_method_5_code 18 = .ok (.if_icmp .ne 11, 3) := by decide +kernel
theorem dX1_add_21 : decode prog_3_method_5_code 21 = .ok (.aload_n 0, 1) := by decide +kernel
theorem dX1_add_22 : decode prog_3_method_5_code 22 = .ok (.iconst 0, 1) := by decide +kernel
theorem dX1_add_23 : decode prog_3_method_5_code 23 = .ok (.putfield 32, 3) := by decide +kernel
theorem dX1_add_26 : decode prog_3_method_5_code 26 = .ok (.goto 48, 3) := by decide +kernel
theorem dX1_add_29 : decode prog_3_method_5_code 29 = .ok (.iload_n 2, 1) := by decide +kernel
theorem dX1_add_30 : decode prog_3_method_5_code 30 = .ok (.bipush 7, 2) := by decide +kernel
theorem dX1_add_32 : decode prog_3_method_5_code 32 = .ok (.if_icmp .ne 11, 3) := by decide +kernel
theorem dX1_add_35 : decode prog_3_method_5_code 35 = .ok (.aload_n 0, 1) := by decide +kernel
theorem dX1_add_36 : decode prog_3_method_5_code 36 = .ok (.aload_n 1, 1) := by decide +kernel
theorem dX1_add_37 : decode prog_3_method_5_code 37 = .ok (.invokevirtual 35, 3) := by decide +kernel
theorem dX1_add_40 : decode prog_3_method_5_code 40 = .ok (.goto 34, 3) := by decide +kernel
theorem dX1_add_43 : decode prog_3_method_5_code 43 = .ok (.iload_n 2, 1) := by decide +kernel
theorem dX1_add_44 : decode prog_3_method_5_code 44 = .ok (.invokestatic 39, 3) := by decide +kernel
theorem dX1_add_47 : decode prog_3_method_5_code 47 = .ok (.ifCond .eq 19, 3) := by decide +kernel
theorem dX1_add_50 : decode prog_3_method_5_code 50 = .ok (.aload_n 0, 1) := by decide +kernel
theorem dX1_add_51 : decode prog_3_method_5_code 51 = .ok (.iload_n 2, 1) := by decide +kernel
theorem dX1_add_52 : decode prog_3_method_5_code 52 = .ok (.iconst 1, 1) := by decide +kernel
theorem dX1_add_53 : decode prog_3_method_5_code 53 = .ok (.isub, 1) := by decide +kernel
theorem dX1_add_54 : decode prog_3_method_5_code 54 = .ok (.aload_n 1, 1) := by decide +kernel
theorem dX1_add_55 : decode prog_3_method_5_code 55 = .ok (.iconst 1, 1) := by decide +kernel
theorem dX1_add_56 : decode prog_3_method_5_code 56 = .ok (.iaload, 1) := by decide +kernel
theorem dX1_add_57 : decode prog_3_method_5_code 57 = .ok (.aload_n 1, 1) := by decide +kernel
theorem dX1_add_58 : decode prog_3_method_5_code 58 = .ok (.iconst 2, 1) := by decide +kernel
theorem dX1_add_59 : decode prog_3_method_5_code 59 = .ok (.iaload, 1) := by decide +kernel
theorem dX1_add_60 : decode prog_3_method_5_code 60 = .ok (.invokevirtual 43, 3) := by decide +kernel
theorem dX1_add_63 : decode prog_3_method_5_code 63 = .ok (.goto 11, 3) := by decide +kernel
theorem dX1_add_66 : decode prog_3_method_5_code 66 = .ok (.aload_n 0, 1) := by decide +kernel
theorem dX1_add_67 : decode prog_3_method_5_code 67 = .ok (.iload_n 2, 1) := by decide +kernel
theorem dX1_add_68 : decode prog_3_method_5_code 68 = .ok (.iconst 3, 1) := by decide +kernel
theorem dX1_add_69 : decode prog_3_method_5_code 69 = .ok (.isub, 1) := by decide +kernel
theorem dX1_add_70 : decode prog_3_method_5_code 70 = .ok (.aload_n 1, 1) := by decide +kernel
theorem dX1_add_71 : decode prog_3_method_5_code 71 = .ok (.invokevirtual 47, 3) := by decide +kernel
theorem dX1_add_74 : decode prog_3_method_5_code 74 = .ok (.return_, 1) := by decide +kernel
theorem dX1_clear_0 : decode prog_3_method_6_code 0 = .ok (.aload_n 0, 1) := by decide +kernel
theorem dX1_clear_1 : decode prog_3_method_6_code 1 = .ok (.iconst 0, 1) := by decide +kernel
theorem dX1_clear_2 : decode prog_3_method_6_code 2 = .ok (.putfield 20, 3) := by decide +kernel
theorem dX1_clear_5 : decode prog_3_method_6_code 5 = .ok (.aload_n 0, 1) := by decide +kernel
theorem dX1_clear_6 : decode prog_3_method_6_code 6 = .ok (.iconst 0, 1) := by decide +kernel
theorem dX1_clear_7 : decode prog_3_method_6_code 7 = .ok (.putfield 24, 3) := by decide +kernel
theorem dX1_clear_10 : decode prog_3_method_6_code 10 = .ok (.aload_n 0, 1) := by decide +kernel
theorem dX1_clear_11 : decode prog_3_method_6_code 11 = .ok (.iconst 0, 1) := by decide +kernel
theorem dX1_clear_12 : decode prog_3_method_6_code 12 = .ok (.putfield 32, 3) := by decide +kernel
theorem dX1_clear_15 : decode prog_3_method_6_code 15 = .ok (.aload_n 0, 1) := by decide +kernel
theorem dX1_clear_16 : decode prog_3_method_6_code 16 = .ok (.iconst 0, 1) := by decide +kernel
theorem dX1_clear_17 : decode prog_3_method_6_code 17 = .ok (.putfield 51, 3) := by decide +kernel
theorem dX1_clear_20 : decode prog_3_method_6_code 20 = .ok (.aload_n 0, 1) := by decide +kernel
theorem dX1_clear_21 : decode prog_3_method_6_code 21 = .ok (.iconst 0, 1) := by decide +kernel
theorem dX1_clear_22 : decode prog_3_method_6_code 22 = .ok (.putfield 54, 3) := by decide +kernel
theorem dX1_clear_25 : decode prog_3_method_6_code 25 = .ok (.return_, 1) := by decide +kernel
theorem dX1_addFact_0 : decode prog_3_method_7_code 0 = .ok (.aload_n 0, 1) := by decide +kernel
theorem dX1_addFact_1 : decode prog_3_method_7_code 1 = .ok (.getfield 20, 3) := by decide +kernel
theorem dX1_addFact_4 : decode prog_3_method_7_code 4 = .ok (.bipush 6, 2) := by decide +kernel
theorem dX1_addFact_6 : decode prog_3_method_7_code 6 = .ok (.if_icmp .lt 4, 3) := by decide +kernel
theorem dX1_addFact_9 : decode prog_3_method_7_code 9 = .ok (.return_, 1) := by decide +kernel
theorem dX1_addFact_10 : decode prog_3_method_7_code 10 = .ok (.aload_n 0, 1) := by decide +kernel
theorem dX1_addFact_11 : decode prog_3_method_7_code 11 = .ok (.getfield 11, 3) := by decide +kernel
theorem dX1_addFact_14 : decode prog_3_method_7_code 14 = .ok (.aload_n 0, 1) := by decide +kernel
theorem dX1_addFact_15 : decode prog_3_method_7_code 15 = .ok (.getfield 20, 3) := by decide +kernel
theorem dX1_addFact_18 : decode prog_3_method_7_code 18 = .ok (.aaload, 1) := by decide +kernel
theorem dX1_addFact_19 : decode prog_3_method_7_code 19 = .ok (.iconst 0, 1) := by decide +kernel
theorem dX1_addFact_20 : decode prog_3_method_7_code 20 = .ok (.iload_n 1, 1) := by decide +kernel
theorem dX1_addFact_21 : decode prog_3_method_7_code 21 = .ok (.iastore, 1) := by decide +kernel
theorem dX1_addFact_22 : decode prog_3_method_7_code 22 = .ok (.aload_n 0, 1) := by decide +kernel
theorem dX1_addFact_23 : decode prog_3_method_7_code 23 = .ok (.getfield 11, 3) := by decide +kernel
theorem dX1_addFact_26 : decode prog_3_method_7_code 26 = .ok (.aload_n 0, 1) := by decide +kernel
theorem dX1_addFact_27 : decode prog_3_method_7_code 27 = .ok (.getfield 20, 3) := by decide +kernel
theorem dX1_addFact_30 : decode prog_3_method_7_code 30 = .ok (.aaload, 1) := by decide +kernel
theorem dX1_addFact_31 : decode prog_3_method_7_code 31 = .ok (.iconst 1, 1) := by decide +kernel
theorem dX1_addFact_32 : decode prog_3_method_7_code 32 = .ok (.iload_n 2, 1) := by decide +kernel
theorem dX1_addFact_33 : decode prog_3_method_7_code 33 = .ok (.iastore, 1) := by decide +kernel
theorem dX1_addFact_34 : decode prog_3_method_7_code 34 = .ok (.aload_n 0, 1) := by decide +kernel
theorem dX1_addFact_35 : decode prog_3_method_7_code 35 = .ok (.dup, 1) := by decide +kernel
theorem dX1_addFact_36 : decode prog_3_method_7_code 36 = .ok (.getfield 51, 3) := by decide +kernel
theorem dX1_addFact_39 : decode prog_3_method_7_code 39 = .ok (.iload_n 3, 1) := by decide +kernel
theorem dX1_addFact_40 : decode prog_3_method_7_code 40 = .ok (.aload_n 0, 1) := by decide +kernel
theorem dX1_addFact_41 : decode prog_3_method_7_code 41 = .ok (.getfield 20, 3) := by decide +kernel
theorem dX1_addFact_44 : decode prog_3_method_7_code 44 = .ok (.ishl, 1) := by decide +kernel
theorem dX1_addFact_45 : decode prog_3_method_7_code 45 = .ok (.ior, 1) := by decide +kernel
theorem dX1_addFact_46 : decode prog_3_method_7_code 46 = .ok (.putfield 51, 3) := by decide +kernel
theorem dX1_addFact_49 : decode prog_3_method_7_code 49 = .ok (.aload_n 0, 1) := by decide +kernel
theorem dX1_addFact_50 : decode prog_3_method_7_code 50 = .ok (.dup, 1) := by decide +kernel
theorem dX1_addFact_51 : decode prog_3_method_7_code 51 = .ok (.getfield 20, 3) := by decide +kernel
theorem dX1_addFact_54 : decode prog_3_method_7_code 54 = .ok (.iconst 1, 1) := by decide +kernel
theorem dX1_addFact_55 : decode prog_3_method_7_code 55 = .ok (.iadd, 1) := by decide +kernel
theorem dX1_addFact_56 : decode prog_3_method_7_code 56 = .ok (.putfield 20, 3) := by decide +kernel
theorem dX1_addFact_59 : decode prog_3_method_7_code 59 = .ok (.return_, 1) := by decide +kernel
theorem dX1_addOne_0 : decode prog_3_method_8_code 0 = .ok (.aload_n 0, 1) := by decide +kernel
theorem dX1_addOne_1 : decode prog_3_method_8_code 1 = .ok (.getfield 24, 3) := by decide +kernel
theorem dX1_addOne_4 : decode prog_3_method_8_code 4 = .ok (.iconst 5, 1) := by decide +kernel
theorem dX1_addOne_5 : decode prog_3_method_8_code 5 = .ok (.if_icmp .lt 4, 3) := by decide +kernel
theorem dX1_addOne_8 : decode prog_3_method_8_code 8 = .ok (.return_, 1) := by decide +kernel
theorem dX1_addOne_9 : decode prog_3_method_8_code 9 = .ok (.aload_n 0, 1) := by decide +kernel
theorem dX1_addOne_10 : decode prog_3_method_8_code 10 = .ok (.getfield 14, 3) := by decide +kernel
theorem dX1_addOne_13 : decode prog_3_method_8_code 13 = .ok (.aload_n 0, 1) := by decide +kernel
theorem dX1_addOne_14 : decode prog_3_method_8_code 14 = .ok (.getfield 24, 3) := by decide +kernel
theorem dX1_addOne_17 : decode prog_3_method_8_code 17 = .ok (.aaload, 1) := by decide +kernel
theorem dX1_addOne_18 : decode prog_3_method_8_code 18 = .ok (.astore_n 3, 1) := by decide +kernel
theorem dX1_addOne_19 : decode prog_3_method_8_code 19 = .ok (.aload_n 3, 1) := by decide +kernel
theorem dX1_addOne_20 : decode prog_3_method_8_code 20 = .ok (.iconst 0, 1) := by decide +kernel
theorem dX1_addOne_21 : decode prog_3_method_8_code 21 = .ok (.iload_n 1, 1) := by decide +kernel
theorem dX1_addOne_22 : decode prog_3_method_8_code 22 = .ok (.iastore, 1) := by decide +kernel
theorem dX1_addOne_23 : decode prog_3_method_8_code 23 = .ok (.aload_n 2, 1) := by decide +kernel
theorem dX1_addOne_24 : decode prog_3_method_8_code 24 = .ok (.iconst 1, 1) := by decide +kernel
theorem dX1_addOne_25 : decode prog_3_method_8_code 25 = .ok (.aload_n 3, 1) := by decide +kernel
theorem dX1_addOne_26 : decode prog_3_method_8_code 26 = .ok (.iconst 1, 1) := by decide +kernel
theorem dX1_addOne_27 : decode prog_3_method_8_code 27 = .ok (.iconst 4, 1) := by decide +kernel
theorem dX1_addOne_28 : decode prog_3_method_8_code 28 = .ok (.invokestatic 57, 3) := by decide +kernel
theorem dX1_addOne_31 : decode prog_3_method_8_code 31 = .ok (.aload_n 3, 1) := by decide +kernel
theorem dX1_addOne_32 : decode prog_3_method_8_code 32 = .ok (.iconst 5, 1) := by decide +kernel
theorem dX1_addOne_33 : decode prog_3_method_8_code 33 = .ok (.iload_n 1, 1) := by decide +kernel
theorem dX1_addOne_34 : decode prog_3_method_8_code 34 = .ok (.iconst 2, 1) := by decide +kernel
theorem dX1_addOne_35 : decode prog_3_method_8_code 35 = .ok (.if_icmp .ne 9, 3) := by decide +kernel
theorem dX1_addOne_38 : decode prog_3_method_8_code 38 = .ok (.aload_n 2, 1) := by decide +kernel
theorem dX1_addOne_39 : decode prog_3_method_8_code 39 = .ok (.iconst 5, 1) := by decide +kernel
theorem dX1_addOne_40 : decode prog_3_method_8_code 40 = .ok (.iaload, 1) := by decide +kernel
theorem dX1_addOne_41 : decode prog_3_method_8_code 41 = .ok (.goto 4, 3) := by decide +kernel
theorem dX1_addOne_44 : decode prog_3_method_8_code 44 = .ok (.iconst 0, 1) := by decide +kernel
theorem dX1_addOne_45 : decode prog_3_method_8_code 45 = .ok (.iastore, 1) := by decide +kernel
theorem dX1_addOne_46 : decode prog_3_method_8_code 46 = .ok (.iload_n 1, 1) := by decide +kernel
theorem dX1_addOne_47 : decode prog_3_method_8_code 47 = .ok (.iconst 3, 1) := by decide +kernel
theorem dX1_addOne_48 : decode prog_3_method_8_code 48 = .ok (.if_icmp .ne 18, 3) := by decide +kernel
theorem dX1_addOne_51 : decode prog_3_method_8_code 51 = .ok (.aload_n 0, 1) := by decide +kernel
theorem dX1_addOne_52 : decode prog_3_method_8_code 52 = .ok (.dup, 1) := by decide +kernel
theorem dX1_addOne_53 : decode prog_3_method_8_code 53 = .ok (.getfield 54, 3) := by decide +kernel
theorem dX1_addOne_56 : decode prog_3_method_8_code 56 = .ok (.iconst 1, 1) := by decide +kernel
theorem dX1_addOne_57 : decode prog_3_method_8_code 57 = .ok (.aload_n 0, 1) := by decide +kernel
theorem dX1_addOne_58 : decode prog_3_method_8_code 58 = .ok (.getfield 24, 3) := by decide +kernel
theorem dX1_addOne_61 : decode prog_3_method_8_code 61 = .ok (.ishl, 1) := by decide +kernel
theorem dX1_addOne_62 : decode prog_3_method_8_code 62 = .ok (.ior, 1) := by decide +kernel
theorem dX1_addOne_63 : decode prog_3_method_8_code 63 = .ok (.putfield 54, 3) := by decide +kernel
theorem dX1_addOne_66 : decode prog_3_method_8_code 66 = .ok (.aload_n 0, 1) := by decide +kernel
theorem dX1_addOne_67 : decode prog_3_method_8_code 67 = .ok (.dup, 1) := by decide +kernel
theorem dX1_addOne_68 : decode prog_3_method_8_code 68 = .ok (.getfield 24, 3) := by decide +kernel
theorem dX1_addOne_71 : decode prog_3_method_8_code 71 = .ok (.iconst 1, 1) := by decide +kernel
theorem dX1_addOne_72 : decode prog_3_method_8_code 72 = .ok (.iadd, 1) := by decide +kernel
theorem dX1_addOne_73 : decode prog_3_method_8_code 73 = .ok (.putfield 24, 3) := by decide +kernel
theorem dX1_addOne_76 : decode prog_3_method_8_code 76 = .ok (.return_, 1) := by decide +kernel
theorem dX1_addCause_0 : decode prog_3_method_9_code 0 = .ok (.aload_n 0, 1) := by decide +kernel
theorem dX1_addCause_1 : decode prog_3_method_9_code 1 = .ok (.getfield 32, 3) := by decide +kernel
theorem dX1_addCause_4 : decode prog_3_method_9_code 4 = .ok (.bipush 6, 2) := by decide +kernel
theorem dX1_addCause_6 : decode prog_3_method_9_code 6 = .ok (.if_icmp .lt 4, 3) := by decide +kernel
theorem dX1_addCause_9 : decode prog_3_method_9_code 9 = .ok (.return_, 1) := by decide +kernel
theorem dX1_addCause_10 : decode prog_3_method_9_code 10 = .ok (.aload_n 1, 1) := by decide +kernel
theorem dX1_addCause_11 : decode prog_3_method_9_code 11 = .ok (.iconst 1, 1) := by decide +kernel
theorem dX1_addCause_12 : decode prog_3_method_9_code 12 = .ok (.aload_n 0, 1) := by decide +kernel
theorem dX1_addCause_13 : decode prog_3_method_9_code 13 = .ok (.getfield 17, 3) := by decide +kernel
theorem dX1_addCause_16 : decode prog_3_method_9_code 16 = .ok (.aload_n 0, 1) := by decide +kernel
theorem dX1_addCause_17 : decode prog_3_method_9_code 17 = .ok (.getfield 32, 3) := by decide +kernel
theorem dX1_addCause_20 : decode prog_3_method_9_code 20 = .ok (.aaload, 1) := by decide +kernel
theorem dX1_addCause_21 : decode prog_3_method_9_code 21 = .ok (.iconst 0, 1) := by decide +kernel
theorem dX1_addCause_22 : decode prog_3_method_9_code 22 = .ok (.iconst 4, 1) := by decide +kernel
theorem dX1_addCause_23 : decode prog_3_method_9_code 23 = .ok (.invokestatic 57, 3) := by decide +kernel
theorem dX1_addCause_26 : decode prog_3_method_9_code 26 = .ok (.aload_n 0, 1) := by decide +kernel
theorem dX1_addCause_27 : decode prog_3_method_9_code 27 = .ok (.dup, 1) := by decide +kernel
theorem dX1_addCause_28 : decode prog_3_method_9_code 28 = .ok (.getfield 32, 3) := by decide +kernel
theorem dX1_addCause_31 : decode prog_3_method_9_code 31 = .ok (.iconst 1, 1) := by decide +kernel
theorem dX1_addCause_32 : decode prog_3_method_9_code 32 = .ok (.iadd, 1) := by decide +kernel
theorem dX1_addCause_33 : decode prog_3_method_9_code 33 = .ok (.putfield 32, 3) := by decide +kernel
theorem dX1_addCause_36 : decode prog_3_method_9_code 36 = .ok (.return_, 1) := by decide +kernel
theorem dX1_believesHer_0 : decode prog_3_method_10_code 0 = .ok (.aload_n 0, 1) := by decide +kernel
theorem dX1_believesHer_1 : decode prog_3_method_10_code 1 = .ok (.getfield 14, 3) := by decide +kernel
theorem dX1_believesHer_4 : decode prog_3_method_10_code 4 = .ok (.iload_n 1, 1) := by decide +kernel
theorem dX1_believesHer_5 : decode prog_3_method_10_code 5 = .ok (.aaload, 1) := by decide +kernel
theorem dX1_believesHer_6 : decode prog_3_method_10_code 6 = .ok (.astore_n 2, 1) := by decide +kernel
theorem dX1_believesHer_7 : decode prog_3_method_10_code 7 = .ok (.aload_n 2, 1) := by decide +kernel
theorem dX1_believesHer_8 : decode prog_3_method_10_code 8 = .ok (.iconst 0, 1) := by decide +kernel
theorem dX1_believesHer_9 : decode prog_3_method_10_code 9 = .ok (.iaload, 1) := by decide +kernel
theorem dX1_believesHer_10 : decode prog_3_method_10_code 10 = .ok (.iconst 1, 1) := by decide +kernel
theorem dX1_believesHer_11 : decode prog_3_method_10_code 11 = .ok (.if_icmp .eq 19, 3) := by decide +kernel
theorem dX1_believesHer_14 : decode prog_3_method_10_code 14 = .ok (.aload_n 2, 1) := by decide +kernel
theorem dX1_believesHer_15 : decode prog_3_method_10_code 15 = .ok (.iconst 0, 1) := by decide +kernel
theorem dX1_believesHer_16 : decode prog_3_method_10_code 16 = .ok (.iaload, 1) := by decide +kernel
theorem dX1_believesHer_17 : decode prog_3_method_10_code 17 = .ok (.iconst 2, 1) := by decide +kernel
theorem dX1_believesHer_18 : decode prog_3_method_10_code 18 = .ok (.if_icmp .ne 16, 3) := by decide +kernel
theorem dX1_believesHer_21 : decode prog_3_method_10_code 21 = .ok (.aload_n 2, 1) := by decide +kernel
theorem dX1_believesHer_22 : decode prog_3_method_10_code 22 = .ok (.iconst 5, 1) := by decide +kernel
theorem dX1_believesHer_23 : decode prog_3_method_10_code 23 = .ok (.iaload, 1) := by decide +kernel
theorem dX1_believesHer_24 : decode prog_3_method_10_code 24 = .ok (.iconst 2, 1) := by decide +kernel
theorem dX1_believesHer_25 : decode prog_3_method_10_code 25 = .ok (.irem, 1) := by decide +kernel
theorem dX1_believesHer_26 : decode prog_3_method_10_code 26 = .ok (.iconst 1, 1) := by decide +kernel
theorem dX1_believesHer_27 : decode prog_3_method_10_code 27 = .ok (.if_icmp .ne 7, 3) := by decide +kernel
theorem dX1_believesHer_30 : decode prog_3_method_10_code 30 = .ok (.iconst 1, 1) := by decide +kernel
theorem dX1_believesHer_31 : decode prog_3_method_10_code 31 = .ok (.goto 4, 3) := by decide +kernel
theorem dX1_believesHer_34 : decode prog_3_method_10_code 34 = .ok (.iconst 0, 1) := by decide +kernel
theorem dX1_believesHer_35 : decode prog_3_method_10_code 35 = .ok (.ireturn, 1) := by decide +kernel
theorem dX1_doesDeed_0 : decode prog_3_method_11_code 0 = .ok (.iload_n 2, 1) := by decide +kernel
theorem dX1_doesDeed_1 : decode prog_3_method_11_code 1 = .ok (.aload_n 0, 1) := by decide +kernel
theorem dX1_doesDeed_2 : decode prog_3_method_11_code 2 = .ok (.getfield 14, 3) := by decide +kernel
theorem dX1_doesDeed_5 : decode prog_3_method_11_code 5 = .ok (.iload_n 1, 1) := by decide +kernel
theorem dX1_doesDeed_6 : decode prog_3_method_11_code 6 = .ok (.aaload, 1) := by decide +kernel
theorem dX1_doesDeed_7 : decode prog_3_method_11_code 7 = .ok (.iconst 1, 1) := by decide +kernel
theorem dX1_doesDeed_8 : decode prog_3_method_11_code 8 = .ok (.iaload, 1) := by decide +kernel
theorem dX1_doesDeed_9 : decode prog_3_method_11_code 9 = .ok (.aload_n 0, 1) := by decide +kernel
theorem dX1_doesDeed_10 : decode prog_3_method_11_code 10 = .ok (.getfield 14, 3) := by decide +kernel
theorem dX1_doesDeed_13 : decode prog_3_method_11_code 13 = .ok (.iload_n 1, 1) := by decide +kernel
theorem dX1_doesDeed_14 : decode prog_3_method_11_code 14 = .ok (.aaload, 1) := by decide +kernel
theorem dX1_doesDeed_15 : decode prog_3_method_11_code 15 = .ok (.iconst 2, 1) := by decide +kernel
theorem dX1_doesDeed_16 : decode prog_3_method_11_code 16 = .ok (.iaload, 1) := by decide +kernel
theorem dX1_doesDeed_17 : decode prog_3_method_11_code 17 = .ok (.invokestatic 63, 3) := by decide +kernel
theorem dX1_doesDeed_20 : decode prog_3_method_11_code 20 = .ok (.ireturn, 1) := by decide +kernel
theorem dX1_doers_0 : decode prog_3_method_12_code 0 = .ok (.iconst 0, 1) := by decide +kernel
theorem dX1_doers_1 : decode prog_3_method_12_code 1 = .ok (.istore_n 3, 1) := by decide +kernel
theorem dX1_doers_2 : decode prog_3_method_12_code 2 = .ok (.iconst 0, 1) := by decide +kernel
theorem dX1_doers_3 : decode prog_3_method_12_code 3 = .ok (.istore 4, 2) := by decide +kernel
theorem dX1_doers_5 : decode prog_3_method_12_code 5 = .ok (.iload 4, 2) := by decide +kernel
theorem dX1_doers_7 : decode prog_3_method_12_code 7 = .ok (.aload_n 0, 1) := by decide +kernel
theorem dX1_doers_8 : decode prog_3_method_12_code 8 = .ok (.getfield 24, 3) := by decide +kernel
theorem dX1_doers_11 : decode prog_3_method_12_code 11 = .ok (.if_icmp .ge 31, 3) := by decide +kernel
theorem dX1_doers_14 : decode prog_3_method_12_code 14 = .ok (.aload_n 0, 1) := by decide +kernel
theorem dX1_doers_15 : decode prog_3_method_12_code 15 = .ok (.iload 4, 2) := by decide +kernel
theorem dX1_doers_17 : decode prog_3_method_12_code 17 = .ok (.lload_n 1, 1) := by decide +kernel
theorem dX1_doers_18 : decode prog_3_method_12_code 18 = .ok (.iload 4, 2) := by decide +kernel
theorem dX1_doers_20 : decode prog_3_method_12_code 20 = .ok (.invokestatic 69, 3) := by decide +kernel
theorem dX1_doers_23 : decode prog_3_method_12_code 23 = .ok (.invokevirtual 73, 3) := by decide +kernel
theorem dX1_doers_26 : decode prog_3_method_12_code 26 = .ok (.ifCond .eq 10, 3) := by decide +kernel
theorem dX1_doers_29 : decode prog_3_method_12_code 29 = .ok (.iload_n 3, 1) := by decide +kernel
theorem dX1_doers_30 : decode prog_3_method_12_code 30 = .ok (.iconst 1, 1) := by decide +kernel
theorem dX1_doers_31 : decode prog_3_method_12_code 31 = .ok (.iload 4, 2) := by decide +kernel
theorem dX1_doers_33 : decode prog_3_method_12_code 33 = .ok (.ishl, 1) := by decide +kernel
theorem dX1_doers_34 : decode prog_3_method_12_code 34 = .ok (.ior, 1) := by decide +kernel
theorem dX1_doers_35 : decode prog_3_method_12_code 35 = .ok (.istore_n 3, 1) := by decide +kernel
theorem dX1_doers_36 : decode prog_3_method_12_code 36 = .ok (.iinc 4 1, 3) := by decide +kernel
theorem dX1_doers_39 : decode prog_3_method_12_code 39 = .ok (.goto (-34), 3) := by decide +kernel
theorem dX1_doers_42 : decode prog_3_method_12_code 42 = .ok (.iload_n 3, 1) := by decide +kernel
theorem dX1_doers_43 : decode prog_3_method_12_code 43 = .ok (.ireturn, 1) := by decide +kernel
theorem dX1_dawn_0 : decode prog_3_method_13_code 0 = .ok (.iload_n 1, 1) := by decide +kernel
theorem dX1_dawn_1 : decode prog_3_method_13_code 1 = .ok (.istore_n 3, 1) := by decide +kernel
theorem dX1_dawn_2 : decode prog_3_method_13_code 2 = .ok (.iconst 0, 1) := by decide +kernel
theorem dX1_dawn_3 : decode prog_3_method_13_code 3 = .ok (.istore 4, 2) := by decide +kernel
theorem dX1_dawn_5 : decode prog_3_method_13_code 5 = .ok (.iload 4, 2) := by decide +kernel
theorem dX1_dawn_7 : decode prog_3_method_13_code 7 = .ok (.aload_n 0, 1) := by decide +kernel
theorem dX1_dawn_8 : decode prog_3_method_13_code 8 = .ok (.getfield 24, 3) := by decide +kernel
theorem dX1_dawn_11 : decode prog_3_method_13_code 11 = .ok (.if_icmp .ge 42, 3) := by decide +kernel
theorem dX1_dawn_14 : decode prog_3_method_13_code 14 = .ok (.iload_n 2, 1) := by decide +kernel
theorem dX1_dawn_15 : decode prog_3_method_13_code 15 = .ok (.iload 4, 2) := by decide +kernel
theorem dX1_dawn_17 : decode prog_3_method_13_code 17 = .ok (.ishr, 1) := by decide +kernel
theorem dX1_dawn_18 : decode prog_3_method_13_code 18 = .ok (.iconst 1, 1) := by decide +kernel
theorem dX1_dawn_19 : decode prog_3_method_13_code 19 = .ok (.iand, 1) := by decide +kernel
theorem dX1_dawn_20 : decode prog_3_method_13_code 20 = .ok (.iconst 1, 1) := by decide +kernel
theorem dX1_dawn_21 : decode prog_3_method_13_code 21 = .ok (.if_icmp .ne 26, 3) := by decide +kernel
theorem dX1_dawn_24 : decode prog_3_method_13_code 24 = .ok (.iload_n 3, 1) := by decide +kernel
theorem dX1_dawn_25 : decode prog_3_method_13_code 25 = .ok (.aload_n 0, 1) := by decide +kernel
theorem dX1_dawn_26 : decode prog_3_method_13_code 26 = .ok (.getfield 14, 3) := by decide +kernel
theorem dX1_dawn_29 : decode prog_3_method_13_code 29 = .ok (.iload 4, 2) := by decide +kernel
theorem dX1_dawn_31 : decode prog_3_method_13_code 31 = .ok (.aaload, 1) := by decide +kernel
theorem dX1_dawn_32 : decode prog_3_method_13_code 32 = .ok (.iconst 3, 1) := by decide +kernel
theorem dX1_dawn_33 : decode prog_3_method_13_code 33 = .ok (.iaload, 1) := by decide +kernel
theorem dX1_dawn_34 : decode prog_3_method_13_code 34 = .ok (.aload_n 0, 1) := by decide +kernel
theorem dX1_dawn_35 : decode prog_3_method_13_code 35 = .ok (.getfield 14, 3) := by decide +kernel
theorem dX1_dawn_38 : decode prog_3_method_13_code 38 = .ok (.iload 4, 2) := by decide +kernel
theorem dX1_dawn_40 : decode prog_3_method_13_code 40 = .ok (.aaload, 1) := by decide +kernel
theorem dX1_dawn_41 : decode prog_3_method_13_code 41 = .ok (.iconst 4, 1) := by decide +kernel
theorem dX1_dawn_42 : decode prog_3_method_13_code 42 = .ok (.iaload, 1) := by decide +kernel
theorem dX1_dawn_43 : decode prog_3_method_13_code 43 = .ok (.invokestatic 77, 3) := by decide +kernel
theorem dX1_dawn_46 : decode prog_3_method_13_code 46 = .ok (.istore_n 3, 1) := by decide +kernel
theorem dX1_dawn_47 : decode prog_3_method_13_code 47 = .ok (.iinc 4 1, 3) := by decide +kernel
theorem dX1_dawn_50 : decode prog_3_method_13_code 50 = .ok (.goto (-45), 3) := by decide +kernel
theorem dX1_dawn_53 : decode prog_3_method_13_code 53 = .ok (.iconst 0, 1) := by decide +kernel
theorem dX1_dawn_54 : decode prog_3_method_13_code 54 = .ok (.istore 4, 2) := by decide +kernel
theorem dX1_dawn_56 : decode prog_3_method_13_code 56 = .ok (.iload 4, 2) := by decide +kernel
theorem dX1_dawn_58 : decode prog_3_method_13_code 58 = .ok (.aload_n 0, 1) := by decide +kernel
theorem dX1_dawn_59 : decode prog_3_method_13_code 59 = .ok (.getfield 32, 3) := by decide +kernel
theorem dX1_dawn_62 : decode prog_3_method_13_code 62 = .ok (.if_icmp .ge 46, 3) := by decide +kernel
theorem dX1_dawn_65 : decode prog_3_method_13_code 65 = .ok (.aload_n 0, 1) := by decide +kernel
theorem dX1_dawn_66 : decode prog_3_method_13_code 66 = .ok (.getfield 17, 3) := by decide +kernel
theorem dX1_dawn_69 : decode prog_3_method_13_code 69 = .ok (.iload 4, 2) := by decide +kernel
theorem dX1_dawn_71 : decode prog_3_method_13_code 71 = .ok (.aaload, 1) := by decide +kernel
theorem dX1_dawn_72 : decode prog_3_method_13_code 72 = .ok (.astore 5, 2) := by decide +kernel
theorem dX1_dawn_74 : decode prog_3_method_13_code 74 = .ok (.iload_n 3, 1) := by decide +kernel
theorem dX1_dawn_75 : decode prog_3_method_13_code 75 = .ok (.aload 5, 2) := by decide +kernel
theorem dX1_dawn_77 : decode prog_3_method_13_code 77 = .ok (.iconst 0, 1) := by decide +kernel
theorem dX1_dawn_78 : decode prog_3_method_13_code 78 = .ok (.iaload, 1) := by decide +kernel
theorem dX1_dawn_79 : decode prog_3_method_13_code 79 = .ok (.ishr, 1) := by decide +kernel
theorem dX1_dawn_80 : decode prog_3_method_13_code 80 = .ok (.iconst 1, 1) := by decide +kernel
theorem dX1_dawn_81 : decode prog_3_method_13_code 81 = .ok (.iand, 1) := by decide +kernel
theorem dX1_dawn_82 : decode prog_3_method_13_code 82 = .ok (.aload 5, 2) := by decide +kernel
theorem dX1_dawn_84 : decode prog_3_method_13_code 84 = .ok (.iconst 1, 1) := by decide +kernel
theorem dX1_dawn_85 : decode prog_3_method_13_code 85 = .ok (.iaload, 1) := by decide +kernel
theorem dX1_dawn_86 : decode prog_3_method_13_code 86 = .ok (.if_icmp .ne 16, 3) := by decide +kernel
theorem dX1_dawn_89 : decode prog_3_method_13_code 89 = .ok (.iload_n 3, 1) := by decide +kernel
theorem dX1_dawn_90 : decode prog_3_method_13_code 90 = .ok (.aload 5, 2) := by decide +kernel
theorem dX1_dawn_92 : decode prog_3_method_13_code 92 = .ok (.iconst 2, 1) := by decide +kernel
theorem dX1_dawn_93 : decode prog_3_method_13_code 93 = .ok (.iaload, 1) := by decide +kernel
theorem dX1_dawn_94 : decode prog_3_method_13_code 94 = .ok (.aload 5, 2) := by decide +kernel
theorem dX1_dawn_96 : decode prog_3_method_13_code 96 = .ok (.iconst 3, 1) := by decide +kernel
theorem dX1_dawn_97 : decode prog_3_method_13_code 97 = .ok (.iaload, 1) := by decide +kernel
theorem dX1_dawn_98 : decode prog_3_method_13_code 98 = .ok (.invokestatic 77, 3) := by decide +kernel
theorem dX1_dawn_101 : decode prog_3_method_13_code 101 = .ok (.istore_n 3, 1) := by decide +kernel
theorem dX1_dawn_102 : decode prog_3_method_13_code 102 = .ok (.iinc 4 1, 3) := by decide +kernel
theorem dX1_dawn_105 : decode prog_3_method_13_code 105 = .ok (.goto (-49), 3) := by decide +kernel
theorem dX1_dawn_108 : decode prog_3_method_13_code 108 = .ok (.iload_n 3, 1) := by decide +kernel
theorem dX1_dawn_109 : decode prog_3_method_13_code 109 = .ok (.ireturn, 1) := by decide +kernel
theorem dX1_become_0 : decode prog_3_method_14_code 0 = .ok (.iload_n 0, 1) := by decide +kernel
theorem dX1_become_1 : decode prog_3_method_14_code 1 = .ok (.iconst 1, 1) := by decide +kernel
theorem dX1_become_2 : decode prog_3_method_14_code 2 = .ok (.iload_n 1, 1) := by decide +kernel
theorem dX1_become_3 : decode prog_3_method_14_code 3 = .ok (.ishl, 1) := by decide +kernel
theorem dX1_become_4 : decode prog_3_method_14_code 4 = .ok (.iconst (-1), 1) := by decide +kernel
theorem dX1_become_5 : decode prog_3_method_14_code 5 = .ok (.ixor, 1) := by decide +kernel
theorem dX1_become_6 : decode prog_3_method_14_code 6 = .ok (.iand, 1) := by decide +kernel
theorem dX1_become_7 : decode prog_3_method_14_code 7 = .ok (.iload_n 2, 1) := by decide +kernel
theorem dX1_become_8 : decode prog_3_method_14_code 8 = .ok (.iload_n 1, 1) := by decide +kernel
theorem dX1_become_9 : decode prog_3_method_14_code 9 = .ok (.ishl, 1) := by decide +kernel
theorem dX1_become_10 : decode prog_3_method_14_code 10 = .ok (.ior, 1) := by decide +kernel
theorem dX1_become_11 : decode prog_3_method_14_code 11 = .ok (.ireturn, 1) := by decide +kernel
theorem dX1_sumOf_0 : decode prog_3_method_15_code 0 = .ok (.iconst 0, 1) := by decide +kernel
theorem dX1_sumOf_1 : decode prog_3_method_15_code 1 = .ok (.istore_n 2, 1) := by decide +kernel
theorem dX1_sumOf_2 : decode prog_3_method_15_code 2 = .ok (.iconst 0, 1) := by decide +kernel
theorem dX1_sumOf_3 : decode prog_3_method_15_code 3 = .ok (.istore_n 3, 1) := by decide +kernel
theorem dX1_sumOf_4 : decode prog_3_method_15_code 4 = .ok (.iload_n 3, 1) := by decide +kernel
theorem dX1_sumOf_5 : decode prog_3_method_15_code 5 = .ok (.aload_n 0, 1) := by decide +kernel
theorem dX1_sumOf_6 : decode prog_3_method_15_code 6 = .ok (.getfield 20, 3) := by decide +kernel
theorem dX1_sumOf_9 : decode prog_3_method_15_code 9 = .ok (.if_icmp .ge 52, 3) := by decide +kernel
theorem dX1_sumOf_12 : decode prog_3_method_15_code 12 = .ok (.iload_n 1, 1) := by decide +kernel
theorem dX1_sumOf_13 : decode prog_3_method_15_code 13 = .ok (.iload_n 3, 1) := by decide +kernel
theorem dX1_sumOf_14 : decode prog_3_method_15_code 14 = .ok (.ishr, 1) := by decide +kernel
theorem dX1_sumOf_15 : decode prog_3_method_15_code 15 = .ok (.iconst 1, 1) := by decide +kernel
theorem dX1_sumOf_16 : decode prog_3_method_15_code 16 = .ok (.iand, 1) := by decide +kernel
theorem dX1_sumOf_17 : decode prog_3_method_15_code 17 = .ok (.iconst 1, 1) := by decide +kernel
theorem dX1_sumOf_18 : decode prog_3_method_15_code 18 = .ok (.if_icmp .ne 37, 3) := by decide +kernel
theorem dX1_sumOf_21 : decode prog_3_method_15_code 21 = .ok (.iload_n 2, 1) := by decide +kernel
theorem dX1_sumOf_22 : decode prog_3_method_15_code 22 = .ok (.aload_n 0, 1) := by decide +kernel
theorem dX1_sumOf_23 : decode prog_3_method_15_code 23 = .ok (.getfield 11, 3) := by decide +kernel
theorem dX1_sumOf_26 : decode prog_3_method_15_code 26 = .ok (.iload_n 3, 1) := by decide +kernel
theorem dX1_sumOf_27 : decode prog_3_method_15_code 27 = .ok (.aaload, 1) := by decide +kernel
theorem dX1_sumOf_28 : decode prog_3_method_15_code 28 = .ok (.iconst 0, 1) := by decide +kernel
theorem dX1_sumOf_29 : decode prog_3_method_15_code 29 = .ok (.iaload, 1) := by decide +kernel
theorem dX1_sumOf_30 : decode prog_3_method_15_code 30 = .ok (.ifCond .ne 14, 3) := by decide +kernel
theorem dX1_sumOf_33 : decode prog_3_method_15_code 33 = .ok (.aload_n 0, 1) := by decide +kernel
theorem dX1_sumOf_34 : decode prog_3_method_15_code 34 = .ok (.getfield 11, 3) := by decide +kernel
theorem dX1_sumOf_37 : decode prog_3_method_15_code 37 = .ok (.iload_n 3, 1) := by decide +kernel
theorem dX1_sumOf_38 : decode prog_3_method_15_code 38 = .ok (.aaload, 1) := by decide +kernel
theorem dX1_sumOf_39 : decode prog_3_method_15_code 39 = .ok (.iconst 1, 1) := by decide +kernel
theorem dX1_sumOf_40 : decode prog_3_method_15_code 40 = .ok (.iaload, 1) := by decide +kernel
theorem dX1_sumOf_41 : decode prog_3_method_15_code 41 = .ok (.goto 12, 3) := by decide +kernel
theorem dX1_sumOf_44 : decode prog_3_method_15_code 44 = .ok (.aload_n 0, 1) := by decide +kernel
theorem dX1_sumOf_45 : decode prog_3_method_15_code 45 = .ok (.getfield 11, 3) := by decide +kernel
theorem dX1_sumOf_48 : decode prog_3_method_15_code 48 = .ok (.iload_n 3, 1) := by decide +kernel
theorem dX1_sumOf_49 : decode prog_3_method_15_code 49 = .ok (.aaload, 1) := by decide +kernel
theorem dX1_sumOf_50 : decode prog_3_method_15_code 50 = .ok (.iconst 1, 1) := by decide +kernel
theorem dX1_sumOf_51 : decode prog_3_method_15_code 51 = .ok (.iaload, 1) := by decide +kernel
theorem dX1_sumOf_52 : decode prog_3_method_15_code 52 = .ok (.ineg, 1) := by decide +kernel
theorem dX1_sumOf_53 : decode prog_3_method_15_code 53 = .ok (.iadd, 1) := by decide +kernel
theorem dX1_sumOf_54 : decode prog_3_method_15_code 54 = .ok (.istore_n 2, 1) := by decide +kernel
theorem dX1_sumOf_55 : decode prog_3_method_15_code 55 = .ok (.iinc 3 1, 3) := by decide +kernel
theorem dX1_sumOf_58 : decode prog_3_method_15_code 58 = .ok (.goto (-54), 3) := by decide +kernel
theorem dX1_sumOf_61 : decode prog_3_method_15_code 61 = .ok (.iload_n 2, 1) := by decide +kernel
theorem dX1_sumOf_62 : decode prog_3_method_15_code 62 = .ok (.ireturn, 1) := by decide +kernel
theorem dX2_init_0 : decode prog_4_method_1_code 0 = .ok (.aload_n 0, 1) := by decide +kernel
theorem dX2_init_1 : decode prog_4_method_1_code 1 = .ok (.invokespecial 1, 3) := by decide +kernel
theorem dX2_init_4 : decode prog_4_method_1_code 4 = .ok (.aload_n 0, 1) := by decide +kernel
theorem dX2_init_5 : decode prog_4_method_1_code 5 = .ok (.bipush 10, 2) := by decide +kernel
theorem dX2_init_7 : decode prog_4_method_1_code 7 = .ok (.newarray .int, 2) := by decide +kernel
theorem dX2_init_9 : decode prog_4_method_1_code 9 = .ok (.putfield 9, 3) := by decide +kernel
theorem dX2_init_12 : decode prog_4_method_1_code 12 = .ok (.aload_n 0, 1) := by decide +kernel
theorem dX2_init_13 : decode prog_4_method_1_code 13 = .ok (.bipush 10, 2) := by decide +kernel
theorem dX2_init_15 : decode prog_4_method_1_code 15 = .ok (.newarray .long, 2) := by decide +kernel
theorem dX2_init_17 : decode prog_4_method_1_code 17 = .ok (.putfield 13, 3) := by decide +kernel
theorem dX2_init_20 : decode prog_4_method_1_code 20 = .ok (.aload_n 0, 1) := by decide +kernel
theorem dX2_init_21 : decode prog_4_method_1_code 21 = .ok (.bipush 10, 2) := by decide +kernel
theorem dX2_init_23 : decode prog_4_method_1_code 23 = .ok (.newarray .int, 2) := by decide +kernel
theorem dX2_init_25 : decode prog_4_method_1_code 25 = .ok (.putfield 17, 3) := by decide +kernel
theorem dX2_init_28 : decode prog_4_method_1_code 28 = .ok (.return_, 1) := by decide +kernel
theorem dX2_begin_0 : decode prog_4_method_2_code 0 = .ok (.aload_n 0, 1) := by decide +kernel
theorem dX2_begin_1 : decode prog_4_method_2_code 1 = .ok (.iload_n 1, 1) := by decide +kernel
theorem dX2_begin_2 : decode prog_4_method_2_code 2 = .ok (.putfield 20, 3) := by decide +kernel
theorem dX2_begin_5 : decode prog_4_method_2_code 5 = .ok (.aload_n 0, 1) := by decide +kernel
theorem dX2_begin_6 : decode prog_4_method_2_code 6 = .ok (.lconst 0, 1) := by decide +kernel
theorem dX2_begin_7 : decode prog_4_method_2_code 7 = .ok (.putfield 24, 3) := by decide +kernel
theorem dX2_begin_10 : decode prog_4_method_2_code 10 = .ok (.aload_n 0, 1) := by decide +kernel
theorem dX2_begin_11 : decode prog_4_method_2_code 11 = .ok (.iconst 0, 1) := by decide +kernel
theorem dX2_begin_12 : decode prog_4_method_2_code 12 = .ok (.putfield 28, 3) := by decide +kernel
theorem dX2_begin_15 : decode prog_4_method_2_code 15 = .ok (.aload_n 0, 1) := by decide +kernel
theorem dX2_begin_16 : decode prog_4_method_2_code 16 = .ok (.iconst 0, 1) := by decide +kernel
theorem dX2_begin_17 : decode prog_4_method_2_code 17 = .ok (.putfield 31, 3) := by decide +kernel
theorem dX2_begin_20 : decode prog_4_method_2_code 20 = .ok (.aload_n 0, 1) := by decide +kernel
theorem dX2_begin_21 : decode prog_4_method_2_code 21 = .ok (.iconst 0, 1) := by decide +kernel
theorem dX2_begin_22 : decode prog_4_method_2_code 22 = .ok (.putfield 34, 3) := by decide +kernel
theorem dX2_begin_25 : decode prog_4_method_2_code 25 = .ok (.return_, 1) := by decide +kernel
theorem dX2_put_0 : decode prog_4_method_3_code 0 = .ok (.iload_n 1, 1) := by decide +kernel
theorem dX2_put_1 : decode prog_4_method_3_code 1 = .ok (.ifCond .lt 12, 3) := by decide +kernel
theorem dX2_put_4 : decode prog_4_method_3_code 4 = .ok (.iload_n 1, 1) := by decide +kernel
theorem dX2_put_5 : decode prog_4_method_3_code 5 = .ok (.aload_n 0, 1) := by decide +kernel
theorem dX2_put_6 : decode prog_4_method_3_code 6 = .ok (.getfield 9, 3) := by decide +kernel
theorem dX2_put_9 : decode prog_4_method_3_code 9 = .ok (.arraylength, 1) := by decide +kernel
theorem dX2_put_10 : decode prog_4_method_3_code 10 = .ok (.if_icmp .lt 4, 3) := by decide +kernel
theorem dX2_put_13 : decode prog_4_method_3_code 13 = .ok (.return_, 1) := by decide +kernel
theorem dX2_put_14 : decode prog_4_method_3_code 14 = .ok (.aload_n 0, 1) := by decide +kernel
theorem dX2_put_15 : decode prog_4_method_3_code 15 = .ok (.getfield 9, 3) := by decide +kernel
theorem dX2_put_18 : decode prog_4_method_3_code 18 = .ok (.iload_n 1, 1) := by decide +kernel
theorem dX2_put_19 : decode prog_4_method_3_code 19 = .ok (.aload_n 0, 1) := by decide +kernel
theorem dX2_put_20 : decode prog_4_method_3_code 20 = .ok (.getfield 20, 3) := by decide +kernel
theorem dX2_put_23 : decode prog_4_method_3_code 23 = .ok (.iastore, 1) := by decide +kernel
theorem dX2_put_24 : decode prog_4_method_3_code 24 = .ok (.aload_n 0, 1) := by decide +kernel
theorem dX2_put_25 : decode prog_4_method_3_code 25 = .ok (.getfield 13, 3) := by decide +kernel
theorem dX2_put_28 : decode prog_4_method_3_code 28 = .ok (.iload_n 1, 1) := by decide +kernel
theorem dX2_put_29 : decode prog_4_method_3_code 29 = .ok (.aload_n 0, 1) := by decide +kernel
theorem dX2_put_30 : decode prog_4_method_3_code 30 = .ok (.getfield 24, 3) := by decide +kernel
theorem dX2_put_33 : decode prog_4_method_3_code 33 = .ok (.lastore, 1) := by decide +kernel
theorem dX2_put_34 : decode prog_4_method_3_code 34 = .ok (.aload_n 0, 1) := by decide +kernel
theorem dX2_put_35 : decode prog_4_method_3_code 35 = .ok (.getfield 17, 3) := by decide +kernel
theorem dX2_put_38 : decode prog_4_method_3_code 38 = .ok (.iload_n 1, 1) := by decide +kernel
theorem dX2_put_39 : decode prog_4_method_3_code 39 = .ok (.aload_n 0, 1) := by decide +kernel
theorem dX2_put_40 : decode prog_4_method_3_code 40 = .ok (.getfield 28, 3) := by decide +kernel
theorem dX2_put_43 : decode prog_4_method_3_code 43 = .ok (.iastore, 1) := by decide +kernel
theorem dX2_put_44 : decode prog_4_method_3_code 44 = .ok (.return_, 1) := by decide +kernel
theorem dX2_take_0 : decode prog_4_method_4_code 0 = .ok (.iload_n 1, 1) := by decide +kernel
theorem dX2_take_1 : decode prog_4_method_4_code 1 = .ok (.ifCond .lt 12, 3) := by decide +kernel
theorem dX2_take_4 : decode prog_4_method_4_code 4 = .ok (.iload_n 1, 1) := by decide +kernel
theorem dX2_take_5 : decode prog_4_method_4_code 5 = .ok (.aload_n 0, 1) := by decide +kernel
theorem dX2_take_6 : decode prog_4_method_4_code 6 = .ok (.getfield 9, 3) := by decide +kernel
theorem dX2_take_9 : decode prog_4_method_4_code 9 = .ok (.arraylength, 1) := by decide +kernel
theorem dX2_take_10 : decode prog_4_method_4_code 10 = .ok (.if_icmp .lt 4, 3) := by decide +kernel
theorem dX2_take_13 : decode prog_4_method_4_code 13 = .ok (.return_, 1) := by decide +kernel
theorem dX2_take_14 : decode prog_4_method_4_code 14 = .ok (.aload_n 0, 1) := by decide +kernel
theorem dX2_take_15 : decode prog_4_method_4_code 15 = .ok (.aload_n 0, 1) := by decide +kernel
theorem dX2_take_16 : decode prog_4_method_4_code 16 = .ok (.getfield 9, 3) := by decide +kernel
theorem dX2_take_19 : decode prog_4_method_4_code 19 = .ok (.iload_n 1, 1) := by decide +kernel
theorem dX2_take_20 : decode prog_4_method_4_code 20 = .ok (.iaload, 1) := by decide +kernel
theorem dX2_take_21 : decode prog_4_method_4_code 21 = .ok (.putfield 20, 3) := by decide +kernel
theorem dX2_take_24 : decode prog_4_method_4_code 24 = .ok (.aload_n 0, 1) := by decide +kernel
theorem dX2_take_25 : decode prog_4_method_4_code 25 = .ok (.aload_n 0, 1) := by decide +kernel
theorem dX2_take_26 : decode prog_4_method_4_code 26 = .ok (.getfield 13, 3) := by decide +kernel
theorem dX2_take_29 : decode prog_4_method_4_code 29 = .ok (.iload_n 1, 1) := by decide +kernel
theorem dX2_take_30 : decode prog_4_method_4_code 30 = .ok (.laload, 1) := by decide +kernel
theorem dX2_take_31 : decode prog_4_method_4_code 31 = .ok (.putfield 24, 3) := by decide +kernel
theorem dX2_take_34 : decode prog_4_method_4_code 34 = .ok (.aload_n 0, 1) := by decide +kernel
theorem dX2_take_35 : decode prog_4_method_4_code 35 = .ok (.aload_n 0, 1) := by decide +kernel
theorem dX2_take_36 : decode prog_4_method_4_code 36 = .ok (.getfield 17, 3) := by decide +kernel
theorem dX2_take_39 : decode prog_4_method_4_code 39 = .ok (.iload_n 1, 1) := by decide +kernel
theorem dX2_take_40 : decode prog_4_method_4_code 40 = .ok (.iaload, 1) := by decide +kernel
theorem dX2_take_41 : decode prog_4_method_4_code 41 = .ok (.putfield 28, 3) := by decide +kernel
theorem dX2_take_44 : decode prog_4_method_4_code 44 = .ok (.return_, 1) := by decide +kernel
theorem dX2_remember_0 : decode prog_4_method_5_code 0 = .ok (.aload_n 0, 1) := by decide +kernel
theorem dX2_remember_1 : decode prog_4_method_5_code 1 = .ok (.aload_n 0, 1) := by decide +kernel
theorem dX2_remember_2 : decode prog_4_method_5_code 2 = .ok (.getfield 37, 3) := by decide +kernel
theorem dX2_remember_5 : decode prog_4_method_5_code 5 = .ok (.iconst 1, 1) := by decide +kernel
theorem dX2_remember_6 : decode prog_4_method_5_code 6 = .ok (.iadd, 1) := by decide +kernel
theorem dX2_remember_7 : decode prog_4_method_5_code 7 = .ok (.bipush 8, 2) := by decide +kernel
theorem dX2_remember_9 : decode prog_4_method_5_code 9 = .ok (.irem, 1) := by decide +kernel
theorem dX2_remember_10 : decode prog_4_method_5_code 10 = .ok (.putfield 37, 3) := by decide +kernel
theorem dX2_remember_13 : decode prog_4_method_5_code 13 = .ok (.aload_n 0, 1) := by decide +kernel
theorem dX2_remember_14 : decode prog_4_method_5_code 14 = .ok (.aload_n 0, 1) := by decide +kernel
theorem dX2_remember_15 : decode prog_4_method_5_code 15 = .ok (.getfield 37, 3) := by decide +kernel
theorem dX2_remember_18 : decode prog_4_method_5_code 18 = .ok (.invokevirtual 40, 3) := by decide +kernel
theorem dX2_remember_21 : decode prog_4_method_5_code 21 = .ok (.aload_n 0, 1) := by decide +kernel
theorem dX2_remember_22 : decode prog_4_method_5_code 22 = .ok (.aload_n 0, 1) := by decide +kernel
theorem dX2_remember_23 : decode prog_4_method_5_code 23 = .ok (.getfield 31, 3) := by decide +kernel
theorem dX2_remember_26 : decode prog_4_method_5_code 26 = .ok (.iconst 1, 1) := by decide +kernel
theorem dX2_remember_27 : decode prog_4_method_5_code 27 = .ok (.iadd, 1) := by decide +kernel
theorem dX2_remember_28 : decode prog_4_method_5_code 28 = .ok (.bipush 8, 2) := by decide +kernel
theorem dX2_remember_30 : decode prog_4_method_5_code 30 = .ok (.invokestatic 44, 3) := by decide +kernel
theorem dX2_remember_33 : decode prog_4_method_5_code 33 = .ok (.putfield 31, 3) := by decide +kernel
theorem dX2_remember_36 : decode prog_4_method_5_code 36 = .ok (.return_, 1) := by decide +kernel
theorem dX2_stepBack_0 : decode prog_4_method_6_code 0 = .ok (.aload_n 0, 1) := by decide +kernel
theorem dX2_stepBack_1 : decode prog_4_method_6_code 1 = .ok (.getfield 31, 3) := by decide +kernel
theorem dX2_stepBack_4 : decode prog_4_method_6_code 4 = .ok (.ifCond .ne 5, 3) := by decide +kernel
theorem dX2_stepBack_7 : decode prog_4_method_6_code 7 = .ok (.iconst 0, 1) := by decide +kernel
theorem dX2_stepBack_8 : decode prog_4_method_6_code 8 = .ok (.ireturn, 1) := by decide +kernel
theorem dX2_stepBack_9 : decode prog_4_method_6_code 9 = .ok (.aload_n 0, 1) := by decide +kernel
theorem dX2_stepBack_10 : decode prog_4_method_6_code 10 = .ok (.aload_n 0, 1) := by decide +kernel
theorem dX2_stepBack_11 : decode prog_4_method_6_code 11 = .ok (.getfield 37, 3) := by decide +kernel
theorem dX2_stepBack_14 : decode prog_4_method_6_code 14 = .ok (.invokevirtual 50, 3) := by decide +kernel
theorem dX2_stepBack_17 : decode prog_4_method_6_code 17 = .ok (.aload_n 0, 1) := by decide +kernel
theorem dX2_stepBack_18 : decode prog_4_method_6_code 18 = .ok (.aload_n 0, 1) := by decide +kernel
theorem dX2_stepBack_19 : decode prog_4_method_6_code 19 = .ok (.getfield 37, 3) := by decide +kernel
theorem dX2_stepBack_22 : decode prog_4_method_6_code 22 = .ok (.bipush 8, 2) := by decide +kernel
theorem dX2_stepBack_24 : decode prog_4_method_6_code 24 = .ok (.iadd, 1) := by decide +kernel
theorem dX2_stepBack_25 : decode prog_4_method_6_code 25 = .ok (.iconst 1, 1) := by decide +kernel
theorem dX2_stepBack_26 : decode prog_4_method_6_code 26 = .ok (.isub, 1) := by decide +kernel
theorem dX2_stepBack_27 : decode prog_4_method_6_code 27 = .ok (.bipush 8, 2) := by decide +kernel
theorem dX2_stepBack_29 : decode prog_4_method_6_code 29 = .ok (.irem, 1) := by decide +kernel
theorem dX2_stepBack_30 : decode prog_4_method_6_code 30 = .ok (.putfield 37, 3) := by decide +kernel
theorem dX2_stepBack_33 : decode prog_4_method_6_code 33 = .ok (.aload_n 0, 1) := by decide +kernel
theorem dX2_stepBack_34 : decode prog_4_method_6_code 34 = .ok (.dup, 1) := by decide +kernel
theorem dX2_stepBack_35 : decode prog_4_method_6_code 35 = .ok (.getfield 31, 3) := by decide +kernel
theorem dX2_stepBack_38 : decode prog_4_method_6_code 38 = .ok (.iconst 1, 1) := by decide +kernel
theorem dX2_stepBack_39 : decode prog_4_method_6_code 39 = .ok (.isub, 1) := by decide +kernel
theorem dX2_stepBack_40 : decode prog_4_method_6_code 40 = .ok (.putfield 31, 3) := by decide +kernel
theorem dX2_stepBack_43 : decode prog_4_method_6_code 43 = .ok (.iconst 1, 1) := by decide +kernel
theorem dX2_stepBack_44 : decode prog_4_method_6_code 44 = .ok (.ireturn, 1) := by decide +kernel
theorem dX3_init_0 : decode prog_5_method_1_code 0 = .ok (.aload_n 0, 1) := by decide +kernel
theorem dX3_init_1 : decode prog_5_method_1_code 1 = .ok (.invokespecial 1, 3) := by decide +kernel
theorem dX3_init_4 : decode prog_5_method_1_code 4 = .ok (.aload_n 0, 1) := by decide +kernel
theorem dX3_init_5 : decode prog_5_method_1_code 5 = .ok (.new 7, 3) := by decide +kernel
theorem dX3_init_8 : decode prog_5_method_1_code 8 = .ok (.dup, 1) := by decide +kernel
theorem dX3_init_9 : decode prog_5_method_1_code 9 = .ok (.invokespecial 9, 3) := by decide +kernel
theorem dX3_init_12 : decode prog_5_method_1_code 12 = .ok (.putfield 10, 3) := by decide +kernel
theorem dX3_init_15 : decode prog_5_method_1_code 15 = .ok (.aload_n 0, 1) := by decide +kernel
theorem dX3_init_16 : decode prog_5_method_1_code 16 = .ok (.bipush 32, 2) := by decide +kernel
theorem dX3_init_18 : decode prog_5_method_1_code 18 = .ok (.newarray .int, 2) := by decide +kernel
theorem dX3_init_20 : decode prog_5_method_1_code 20 = .ok (.putfield 18, 3) := by decide +kernel
theorem dX3_init_23 : decode prog_5_method_1_code 23 = .ok (.aload_n 0, 1) := by decide +kernel
theorem dX3_init_24 : decode prog_5_method_1_code 24 = .ok (.bipush 32, 2) := by decide +kernel
theorem dX3_init_26 : decode prog_5_method_1_code 26 = .ok (.newarray .int, 2) := by decide +kernel
theorem dX3_init_28 : decode prog_5_method_1_code 28 = .ok (.putfield 22, 3) := by decide +kernel
theorem dX3_init_31 : decode prog_5_method_1_code 31 = .ok (.aload_n 0, 1) := by decide +kernel
theorem dX3_init_32 : decode prog_5_method_1_code 32 = .ok (.iconst 5, 1) := by decide +kernel
theorem dX3_init_33 : decode prog_5_method_1_code 33 = .ok (.newarray .int, 2) := by decide +kernel
theorem dX3_init_35 : decode prog_5_method_1_code 35 = .ok (.putfield 25, 3) := by decide +kernel
theorem dX3_init_38 : decode prog_5_method_1_code 38 = .ok (.aload_n 0, 1) := by decide +kernel
theorem dX3_init_39 : decode prog_5_method_1_code 39 = .ok (.iconst 5, 1) := by decide +kernel
theorem dX3_init_40 : decode prog_5_method_1_code 40 = .ok (.newarray .int, 2) := by decide +kernel
theorem dX3_init_42 : decode prog_5_method_1_code 42 = .ok (.putfield 28, 3) := by decide +kernel
theorem dX3_init_45 : decode prog_5_method_1_code 45 = .ok (.aload_n 0, 1) := by decide +kernel
theorem dX3_init_46 : decode prog_5_method_1_code 46 = .ok (.aload_n 1, 1) := by decide +kernel
theorem dX3_init_47 : decode prog_5_method_1_code 47 = .ok (.putfield 31, 3) := by decide +kernel
theorem dX3_init_50 : decode prog_5_method_1_code 50 = .ok (.return_, 1) := by decide +kernel
theorem dX3_look_0 : decode prog_5_method_2_code 0 = .ok (.aload_n 0, 1) := by decide +kernel
theorem dX3_look_1 : decode prog_5_method_2_code 1 = .ok (.iload_n 1, 1) := by decide +kernel
theorem dX3_look_2 : decode prog_5_method_2_code 2 = .ok (.putfield 35, 3) := by decide +kernel
theorem dX3_look_5 : decode prog_5_method_2_code 5 = .ok (.aload_n 0, 1) := by decide +kernel
theorem dX3_look_6 : decode prog_5_method_2_code 6 = .ok (.lload_n 2, 1) := by decide +kernel
theorem dX3_look_7 : decode prog_5_method_2_code 7 = .ok (.putfield 39, 3) := by decide +kernel
theorem dX3_look_10 : decode prog_5_method_2_code 10 = .ok (.aload_n 0, 1) := by decide +kernel
theorem dX3_look_11 : decode prog_5_method_2_code 11 = .ok (.aload_n 0, 1) := by decide +kernel
theorem dX3_look_12 : decode prog_5_method_2_code 12 = .ok (.getfield 31, 3) := by decide +kernel
theorem dX3_look_15 : decode prog_5_method_2_code 15 = .ok (.lload_n 2, 1) := by decide +kernel
theorem dX3_look_16 : decode prog_5_method_2_code 16 = .ok (.invokevirtual 43, 3) := by decide +kernel
theorem dX3_look_19 : decode prog_5_method_2_code 19 = .ok (.putfield 47, 3) := by decide +kernel
theorem dX3_look_22 : decode prog_5_method_2_code 22 = .ok (.iconst 1, 1) := by decide +kernel
theorem dX3_look_23 : decode prog_5_method_2_code 23 = .ok (.aload_n 0, 1) := by decide +kernel
theorem dX3_look_24 : decode prog_5_method_2_code 24 = .ok (.getfield 31, 3) := by decide +kernel
theorem dX3_look_27 : decode prog_5_method_2_code 27 = .ok (.getfield 50, 3) := by decide +kernel
theorem dX3_look_30 : decode prog_5_method_2_code 30 = .ok (.ishl, 1) := by decide +kernel
theorem dX3_look_31 : decode prog_5_method_2_code 31 = .ok (.istore 4, 2) := by decide +kernel
theorem dX3_look_33 : decode prog_5_method_2_code 33 = .ok (.iconst 0, 1) := by decide +kernel
theorem dX3_look_34 : decode prog_5_method_2_code 34 = .ok (.istore 5, 2) := by decide +kernel
theorem dX3_look_36 : decode prog_5_method_2_code 36 = .ok (.iload 5, 2) := by decide +kernel
theorem dX3_look_38 : decode prog_5_method_2_code 38 = .ok (.iload 4, 2) := by decide +kernel
theorem dX3_look_40 : decode prog_5_method_2_code 40 = .ok (.if_icmp .ge 57, 3) := by decide +kernel
theorem dX3_look_43 : decode prog_5_method_2_code 43 = .ok (.iload 5, 2) := by decide +kernel
theorem dX3_look_45 : decode prog_5_method_2_code 45 = .ok (.aload_n 0, 1) := by decide +kernel
theorem dX3_look_46 : decode prog_5_method_2_code 46 = .ok (.getfield 18, 3) := by decide +kernel
theorem dX3_look_49 : decode prog_5_method_2_code 49 = .ok (.arraylength, 1) := by decide +kernel
theorem dX3_look_50 : decode prog_5_method_2_code 50 = .ok (.if_icmp .ge 47, 3) := by decide +kernel
theorem dX3_look_53 : decode prog_5_method_2_code 53 = .ok (.aload_n 0, 1) := by decide +kernel
theorem dX3_look_54 : decode prog_5_method_2_code 54 = .ok (.getfield 18, 3) := by decide +kernel
theorem dX3_look_57 : decode prog_5_method_2_code 57 = .ok (.iload 5, 2) := by decide +kernel
theorem dX3_look_59 : decode prog_5_method_2_code 59 = .ok (.aload_n 0, 1) := by decide +kernel
theorem dX3_look_60 : decode prog_5_method_2_code 60 = .ok (.getfield 31, 3) := by decide +kernel
theorem dX3_look_63 : decode prog_5_method_2_code 63 = .ok (.iload_n 1, 1) := by decide +kernel
theorem dX3_look_64 : decode prog_5_method_2_code 64 = .ok (.iload 5, 2) := by decide +kernel
theorem dX3_look_66 : decode prog_5_method_2_code 66 = .ok (.invokevirtual 53, 3) := by decide +kernel
theorem dX3_look_69 : decode prog_5_method_2_code 69 = .ok (.iastore, 1) := by decide +kernel
theorem dX3_look_70 : decode prog_5_method_2_code 70 = .ok (.aload_n 0, 1) := by decide +kernel
theorem dX3_look_71 : decode prog_5_method_2_code 71 = .ok (.getfield 22, 3) := by decide +kernel
theorem dX3_look_74 : decode prog_5_method_2_code 74 = .ok (.iload 5, 2) := by decide +kernel
theorem dX3_look_76 : decode prog_5_method_2_code 76 = .ok (.aload_n 0, 1) := by decide +kernel
theorem dX3_look_77 : decode prog_5_method_2_code 77 = .ok (.getfield 31, 3) := by decide +kernel
theorem dX3_look_80 : decode prog_5_method_2_code 80 = .ok (.aload_n 0, 1) := by decide +kernel
theorem dX3_look_81 : decode prog_5_method_2_code 81 = .ok (.getfield 18, 3) := by decide +kernel
theorem dX3_look_84 : decode prog_5_method_2_code 84 = .ok (.iload 5, 2) := by decide +kernel
theorem dX3_look_86 : decode prog_5_method_2_code 86 = .ok (.iaload, 1) := by decide +kernel
theorem dX3_look_87 : decode prog_5_method_2_code 87 = .ok (.invokevirtual 57, 3) := by decide +kernel
theorem dX3_look_90 : decode prog_5_method_2_code 90 = .ok (.iastore, 1) := by decide +kernel
theorem dX3_look_91 : decode prog_5_method_2_code 91 = .ok (.iinc 5 1, 3) := by decide +kernel
theorem dX3_look_94 : decode prog_5_method_2_code 94 = .ok (.goto (-58), 3) := by decide +kernel
theorem dX3_look_97 : decode prog_5_method_2_code 97 = .ok (.return_, 1) := by decide +kernel
theorem dX3_comeTo_0 : decode prog_5_method_3_code 0 = .ok (.aload_n 0, 1) := by decide +kernel
theorem dX3_comeTo_1 : decode prog_5_method_3_code 1 = .ok (.getfield 10, 3) := by decide +kernel
theorem dX3_comeTo_4 : decode prog_5_method_3_code 4 = .ok (.iload_n 1, 1) := by decide +kernel
theorem dX3_comeTo_5 : decode prog_5_method_3_code 5 = .ok (.aload_n 0, 1) := by decide +kernel
theorem dX3_comeTo_6 : decode prog_5_method_3_code 6 = .ok (.getfield 31, 3) := by decide +kernel
theorem dX3_comeTo_9 : decode prog_5_method_3_code 9 = .ok (.getfield 61, 3) := by decide +kernel
theorem dX3_comeTo_12 : decode prog_5_method_3_code 12 = .ok (.invokevirtual 64, 3) := by decide +kernel
theorem dX3_comeTo_15 : decode prog_5_method_3_code 15 = .ok (.ifCond .ne 5, 3) := by decide +kernel
theorem dX3_comeTo_18 : decode prog_5_method_3_code 18 = .ok (.iconst 0, 1) := by decide +kernel
theorem dX3_comeTo_19 : decode prog_5_method_3_code 19 = .ok (.ireturn, 1) := by decide +kernel
theorem dX3_comeTo_20 : decode prog_5_method_3_code 20 = .ok (.aload_n 0, 1) := by decide +kernel
theorem dX3_comeTo_21 : decode prog_5_method_3_code 21 = .ok (.getfield 10, 3) := by decide +kernel
theorem dX3_comeTo_24 : decode prog_5_method_3_code 24 = .ok (.getfield 68, 3) := by decide +kernel
theorem dX3_comeTo_27 : decode prog_5_method_3_code 27 = .ok (.iconst 4, 1) := by decide +kernel
theorem dX3_comeTo_28 : decode prog_5_method_3_code 28 = .ok (.if_icmp .eq 17, 3) := by decide +kernel
theorem dX3_comeTo_31 : decode prog_5_method_3_code 31 = .ok (.aload_n 0, 1) := by decide +kernel
theorem dX3_comeTo_32 : decode prog_5_method_3_code 32 = .ok (.getfield 10, 3) := by decide +kernel
theorem dX3_comeTo_35 : decode prog_5_method_3_code 35 = .ok (.aload_n 0, 1) := by decide +kernel
theorem dX3_comeTo_36 : decode prog_5_method_3_code 36 = .ok (.getfield 35, 3) := by decide +kernel
theorem dX3_comeTo_39 : decode prog_5_method_3_code 39 = .ok (.invokevirtual 71, 3) := by decide +kernel
theorem dX3_comeTo_42 : decode prog_5_method_3_code 42 = .ok (.ifCond .eq 7, 3) := by decide +kernel
theorem dX3_comeTo_45 : decode prog_5_method_3_code 45 = .ok (.iconst 1, 1) := by decide +kernel
theorem dX3_comeTo_46 : decode prog_5_method_3_code 46 = .ok (.goto 4, 3) := by decide +kernel
theorem dX3_comeTo_49 : decode prog_5_method_3_code 49 = .ok (.iconst 0, 1) := by decide +kernel
theorem dX3_comeTo_50 : decode prog_5_method_3_code 50 = .ok (.ireturn, 1) := by decide +kernel
theorem dX3_listen_0 : decode prog_5_method_4_code 0 = .ok (.aload_n 0, 1) := by decide +kernel
theorem dX3_listen_1 : decode prog_5_method_4_code 1 = .ok (.iconst 0, 1) := by decide +kernel
theorem dX3_listen_2 : decode prog_5_method_4_code 2 = .ok (.putfield 75, 3) := by decide +kernel
theorem dX3_listen_5 : decode prog_5_method_4_code 5 = .ok (.aload_n 0, 1) := by decide +kernel
theorem dX3_listen_6 : decode prog_5_method_4_code 6 = .ok (.iconst 0, 1) := by decide +kernel
theorem dX3_listen_7 : decode prog_5_method_4_code 7 = .ok (.putfield 78, 3) := by decide +kernel
theorem dX3_listen_10 : decode prog_5_method_4_code 10 = .ok (.iconst 0, 1) := by decide +kernel
theorem dX3_listen_11 : decode prog_5_method_4_code 11 = .ok (.istore_n 1, 1) := by decide +kernel
theorem dX3_listen_12 : decode prog_5_method_4_code 12 = .ok (.iload_n 1, 1) := by decide +kernel
theorem dX3_listen_13 : decode prog_5_method_4_code 13 = .ok (.aload_n 0, 1) := by decide +kernel
theorem dX3_listen_14 : decode prog_5_method_4_code 14 = .ok (.getfield 31, 3) := by decide +kernel
theorem dX3_listen_17 : decode prog_5_method_4_code 17 = .ok (.getfield 50, 3) := by decide +kernel
theorem dX3_listen_20 : decode prog_5_method_4_code 20 = .ok (.if_icmp .ge 124, 3) := by decide +kernel
theorem dX3_listen_23 : decode prog_5_method_4_code 23 = .ok (.aload_n 0, 1) := by decide +kernel
theorem dX3_listen_24 : decode prog_5_method_4_code 24 = .ok (.getfield 39, 3) := by decide +kernel
theorem dX3_listen_27 : decode prog_5_method_4_code 27 = .ok (.iload_n 1, 1) := by decide +kernel
theorem dX3_listen_28 : decode prog_5_method_4_code 28 = .ok (.invokestatic 81, 3) := by decide +kernel
theorem dX3_listen_31 : decode prog_5_method_4_code 31 = .ok (.istore_n 2, 1) := by decide +kernel
theorem dX3_listen_32 : decode prog_5_method_4_code 32 = .ok (.aload_n 0, 1) := by decide +kernel
theorem dX3_listen_33 : decode prog_5_method_4_code 33 = .ok (.getfield 28, 3) := by decide +kernel
theorem dX3_listen_36 : decode prog_5_method_4_code 36 = .ok (.iload_n 1, 1) := by decide +kernel
theorem dX3_listen_37 : decode prog_5_method_4_code 37 = .ok (.aload_n 0, 1) := by decide +kernel
theorem dX3_listen_38 : decode prog_5_method_4_code 38 = .ok (.getfield 10, 3) := by decide +kernel
theorem dX3_listen_41 : decode prog_5_method_4_code 41 = .ok (.iload_n 2, 1) := by decide +kernel
theorem dX3_listen_42 : decode prog_5_method_4_code 42 = .ok (.invokevirtual 87, 3) := by decide +kernel
theorem dX3_listen_45 : decode prog_5_method_4_code 45 = .ok (.iastore, 1) := by decide +kernel
theorem dX3_listen_46 : decode prog_5_method_4_code 46 = .ok (.aload_n 0, 1) := by decide +kernel
theorem dX3_listen_47 : decode prog_5_method_4_code 47 = .ok (.getfield 25, 3) := by decide +kernel
theorem dX3_listen_50 : decode prog_5_method_4_code 50 = .ok (.iload_n 1, 1) := by decide +kernel
theorem dX3_listen_51 : decode prog_5_method_4_code 51 = .ok (.aload_n 0, 1) := by decide +kernel
theorem dX3_listen_52 : decode prog_5_method_4_code 52 = .ok (.getfield 31, 3) := by decide +kernel
theorem dX3_listen_55 : decode prog_5_method_4_code 55 = .ok (.iload_n 1, 1) := by decide +kernel
theorem dX3_listen_56 : decode prog_5_method_4_code 56 = .ok (.invokevirtual 90, 3) := by decide +kernel
theorem dX3_listen_59 : decode prog_5_method_4_code 59 = .ok (.ifCond .eq 12, 3) := by decide +kernel
theorem dX3_listen_62 : decode prog_5_method_4_code 62 = .ok (.aload_n 0, 1) := by decide +kernel
theorem dX3_listen_63 : decode prog_5_method_4_code 63 = .ok (.getfield 28, 3) := by decide +kernel
theorem dX3_listen_66 : decode prog_5_method_4_code 66 = .ok (.iload_n 1, 1) := by decide +kernel
theorem dX3_listen_67 : decode prog_5_method_4_code 67 = .ok (.iaload, 1) := by decide +kernel
theorem dX3_listen_68 : decode prog_5_method_4_code 68 = .ok (.goto 11, 3) := by decide +kernel
theorem dX3_listen_71 : decode prog_5_method_4_code 71 = .ok (.aload_n 0, 1) := by decide +kernel
theorem dX3_listen_72 : decode prog_5_method_4_code 72 = .ok (.getfield 10, 3) := by decide +kernel
theorem dX3_listen_75 : decode prog_5_method_4_code 75 = .ok (.iload_n 2, 1) := by decide +kernel
theorem dX3_listen_76 : decode prog_5_method_4_code 76 = .ok (.invokevirtual 93, 3) := by decide +kernel
theorem dX3_listen_79 : decode prog_5_method_4_code 79 = .ok (.iastore, 1) := by decide +kernel
theorem dX3_listen_80 : decode prog_5_method_4_code 80 = .ok (.aload_n 0, 1) := by decide +kernel
theorem dX3_listen_81 : decode prog_5_method_4_code 81 = .ok (.getfield 31, 3) := by decide +kernel
theorem dX3_listen_84 : decode prog_5_method_4_code 84 = .ok (.iload_n 1, 1) := by decide +kernel
theorem dX3_listen_85 : decode prog_5_method_4_code 85 = .ok (.aload_n 0, 1) := by decide +kernel
theorem dX3_listen_86 : decode prog_5_method_4_code 86 = .ok (.getfield 28, 3) := by decide +kernel
theorem dX3_listen_89 : decode prog_5_method_4_code 89 = .ok (.iload_n 1, 1) := by decide +kernel
theorem dX3_listen_90 : decode prog_5_method_4_code 90 = .ok (.iaload, 1) := by decide +kernel
theorem dX3_listen_91 : decode prog_5_method_4_code 91 = .ok (.invokevirtual 96, 3) := by decide +kernel
theorem dX3_listen_94 : decode prog_5_method_4_code 94 = .ok (.ifCond .eq 15, 3) := by decide +kernel
theorem dX3_listen_97 : decode prog_5_method_4_code 97 = .ok (.aload_n 0, 1) := by decide +kernel
theorem dX3_listen_98 : decode prog_5_method_4_code 98 = .ok (.dup, 1) := by decide +kernel
theorem dX3_listen_99 : decode prog_5_method_4_code 99 = .ok (.getfield 78, 3) := by decide +kernel
theorem dX3_listen_102 : decode prog_5_method_4_code 102 = .ok (.iconst 1, 1) := by decide +kernel
theorem dX3_listen_103 : decode prog_5_method_4_code 103 = .ok (.iload_n 1, 1) := by decide +kernel
theorem dX3_listen_104 : decode prog_5_method_4_code 104 = .ok (.ishl, 1) := by decide +kernel
theorem dX3_listen_105 : decode prog_5_method_4_code 105 = .ok (.ior, 1) := by decide +kernel
theorem dX3_listen_106 : decode prog_5_method_4_code 106 = .ok (.putfield 78, 3) := by decide +kernel
theorem dX3_listen_109 : decode prog_5_method_4_code 109 = .ok (.aload_n 0, 1) := by decide +kernel
theorem dX3_listen_110 : decode prog_5_method_4_code 110 = .ok (.getfield 31, 3) := by decide +kernel
theorem dX3_listen_113 : decode prog_5_method_4_code 113 = .ok (.iload_n 1, 1) := by decide +kernel
theorem dX3_listen_114 : decode prog_5_method_4_code 114 = .ok (.aload_n 0, 1) := by decide +kernel
theorem dX3_listen_115 : decode prog_5_method_4_code 115 = .ok (.getfield 25, 3) := by decide +kernel
theorem dX3_listen_118 : decode prog_5_method_4_code 118 = .ok (.iload_n 1, 1) := by decide +kernel
theorem dX3_listen_119 : decode prog_5_method_4_code 119 = .ok (.iaload, 1) := by decide +kernel
theorem dX3_listen_120 : decode prog_5_method_4_code 120 = .ok (.invokevirtual 96, 3) := by decide +kernel
theorem dX3_listen_123 : decode prog_5_method_4_code 123 = .ok (.ifCond .eq 15, 3) := by decide +kernel
theorem dX3_listen_126 : decode prog_5_method_4_code 126 = .ok (.aload_n 0, 1) := by decide +kernel
theorem dX3_listen_127 : decode prog_5_method_4_code 127 = .ok (.dup, 1) := by decide +kernel
theorem dX3_listen_128 : decode prog_5_method_4_code 128 = .ok (.getfield 75, 3) := by decide +kernel
theorem dX3_listen_131 : decode prog_5_method_4_code 131 = .ok (.iconst 1, 1) := by decide +kernel
theorem dX3_listen_132 : decode prog_5_method_4_code 132 = .ok (.iload_n 1, 1) := by decide +kernel
theorem dX3_listen_133 : decode prog_5_method_4_code 133 = .ok (.ishl, 1) := by decide +kernel
theorem dX3_listen_134 : decode prog_5_method_4_code 134 = .ok (.ior, 1) := by decide +kernel
theorem dX3_listen_135 : decode prog_5_method_4_code 135 = .ok (.putfield 75, 3) := by decide +kernel
theorem dX3_listen_138 : decode prog_5_method_4_code 138 = .ok (.iinc 1 1, 3) := by decide +kernel
theorem dX3_listen_141 : decode prog_5_method_4_code 141 = .ok (.goto (-129), 3) := by decide +kernel
theorem dX3_listen_144 : decode prog_5_method_4_code 144 = .ok (.return_, 1) := by decide +kernel
theorem dX3_doersIfSaidTo_0 : decode prog_5_method_5_code 0 = .ok (.iload_n 1, 1) := by decide +kernel
theorem dX3_doersIfSaidTo_1 : decode prog_5_method_5_code 1 = .ok (.aload_n 0, 1) := by decide +kernel
theorem dX3_doersIfSaidTo_2 : decode prog_5_method_5_code 2 = .ok (.getfield 31, 3) := by decide +kernel
theorem dX3_doersIfSaidTo_5 : decode prog_5_method_5_code 5 = .ok (.getfield 99, 3) := by decide +kernel
theorem dX3_doersIfSaidTo_8 : decode prog_5_method_5_code 8 = .ok (.iand, 1) := by decide +kernel
theorem dX3_doersIfSaidTo_9 : decode prog_5_method_5_code 9 = .ok (.ifCond .eq 10, 3) := by decide +kernel
theorem dX3_doersIfSaidTo_12 : decode prog_5_method_5_code 12 = .ok (.aload_n 0, 1) := by decide +kernel
theorem dX3_doersIfSaidTo_13 : decode prog_5_method_5_code 13 = .ok (.getfield 78, 3) := by decide +kernel
theorem dX3_doersIfSaidTo_16 : decode prog_5_method_5_code 16 = .ok (.goto 7, 3) := by decide +kernel
theorem dX3_doersIfSaidTo_19 : decode prog_5_method_5_code 19 = .ok (.aload_n 0, 1) := by decide +kernel
theorem dX3_doersIfSaidTo_20 : decode prog_5_method_5_code 20 = .ok (.getfield 47, 3) := by decide +kernel
theorem dX3_doersIfSaidTo_23 : decode prog_5_method_5_code 23 = .ok (.istore_n 2, 1) := by decide +kernel
theorem dX3_doersIfSaidTo_24 : decode prog_5_method_5_code 24 = .ok (.aload_n 0, 1) := by decide +kernel
theorem dX3_doersIfSaidTo_25 : decode prog_5_method_5_code 25 = .ok (.getfield 75, 3) := by decide +kernel
theorem dX3_doersIfSaidTo_28 : decode prog_5_method_5_code 28 = .ok (.iload_n 1, 1) := by decide +kernel
theorem dX3_doersIfSaidTo_29 : decode prog_5_method_5_code 29 = .ok (.iand, 1) := by decide +kernel
theorem dX3_doersIfSaidTo_30 : decode prog_5_method_5_code 30 = .ok (.iload_n 2, 1) := by decide +kernel
theorem dX3_doersIfSaidTo_31 : decode prog_5_method_5_code 31 = .ok (.iload_n 1, 1) := by decide +kernel
theorem dX3_doersIfSaidTo_32 : decode prog_5_method_5_code 32 = .ok (.iconst (-1), 1) := by decide +kernel
theorem dX3_doersIfSaidTo_33 : decode prog_5_method_5_code 33 = .ok (.ixor, 1) := by decide +kernel
theorem dX3_doersIfSaidTo_34 : decode prog_5_method_5_code 34 = .ok (.iand, 1) := by decide +kernel
theorem dX3_doersIfSaidTo_35 : decode prog_5_method_5_code 35 = .ok (.ior, 1) := by decide +kernel
theorem dX3_doersIfSaidTo_36 : decode prog_5_method_5_code 36 = .ok (.ireturn, 1) := by decide +kernel
theorem dX3_isSoSaidTo_0 : decode prog_5_method_6_code 0 = .ok (.aload_n 0, 1) := by decide +kernel
theorem dX3_isSoSaidTo_1 : decode prog_5_method_6_code 1 = .ok (.getfield 10, 3) := by decide +kernel
theorem dX3_isSoSaidTo_4 : decode prog_5_method_6_code 4 = .ok (.aload_n 0, 1) := by decide +kernel
theorem dX3_isSoSaidTo_5 : decode prog_5_method_6_code 5 = .ok (.getfield 10, 3) := by decide +kernel
theorem dX3_isSoSaidTo_8 : decode prog_5_method_6_code 8 = .ok (.getfield 68, 3) := by decide +kernel
theorem dX3_isSoSaidTo_11 : decode prog_5_method_6_code 11 = .ok (.iconst 4, 1) := by decide +kernel
theorem dX3_isSoSaidTo_12 : decode prog_5_method_6_code 12 = .ok (.if_icmp .ne 11, 3) := by decide +kernel
theorem dX3_isSoSaidTo_15 : decode prog_5_method_6_code 15 = .ok (.aload_n 0, 1) := by decide +kernel
theorem dX3_isSoSaidTo_16 : decode prog_5_method_6_code 16 = .ok (.iload_n 1, 1) := by decide +kernel
theorem dX3_isSoSaidTo_17 : decode prog_5_method_6_code 17 = .ok (.invokevirtual 102, 3) := by decide +kernel
theorem dX3_isSoSaidTo_20 : decode prog_5_method_6_code 20 = .ok (.goto 7, 3) := by decide +kernel
theorem dX3_isSoSaidTo_23 : decode prog_5_method_6_code 23 = .ok (.aload_n 0, 1) := by decide +kernel
theorem dX3_isSoSaidTo_24 : decode prog_5_method_6_code 24 = .ok (.getfield 35, 3) := by decide +kernel
theorem dX3_isSoSaidTo_27 : decode prog_5_method_6_code 27 = .ok (.invokevirtual 71, 3) := by decide +kernel
theorem dX3_isSoSaidTo_30 : decode prog_5_method_6_code 30 = .ok (.ireturn, 1) := by decide +kernel
theorem dX3_truthIfSaidTo_0 : decode prog_5_method_7_code 0 = .ok (.aload_n 0, 1) := by decide +kernel
theorem dX3_truthIfSaidTo_1 : decode prog_5_method_7_code 1 = .ok (.getfield 18, 3) := by decide +kernel
theorem dX3_truthIfSaidTo_4 : decode prog_5_method_7_code 4 = .ok (.aload_n 0, 1) := by decide +kernel
theorem dX3_truthIfSaidTo_5 : decode prog_5_method_7_code 5 = .ok (.iload_n 1, 1) := by decide +kernel
theorem dX3_truthIfSaidTo_6 : decode prog_5_method_7_code 6 = .ok (.invokevirtual 105, 3) := by decide +kernel
theorem dX3_truthIfSaidTo_9 : decode prog_5_method_7_code 9 = .ok (.iaload, 1) := by decide +kernel
theorem dX3_truthIfSaidTo_10 : decode prog_5_method_7_code 10 = .ok (.ireturn, 1) := by decide +kernel
theorem dX3_sumIfSaidTo_0 : decode prog_5_method_8_code 0 = .ok (.aload_n 0, 1) := by decide +kernel
theorem dX3_sumIfSaidTo_1 : decode prog_5_method_8_code 1 = .ok (.getfield 22, 3) := by decide +kernel
theorem dX3_sumIfSaidTo_4 : decode prog_5_method_8_code 4 = .ok (.aload_n 0, 1) := by decide +kernel
theorem dX3_sumIfSaidTo_5 : decode prog_5_method_8_code 5 = .ok (.iload_n 1, 1) := by decide +kernel
theorem dX3_sumIfSaidTo_6 : decode prog_5_method_8_code 6 = .ok (.invokevirtual 105, 3) := by decide +kernel
theorem dX3_sumIfSaidTo_9 : decode prog_5_method_8_code 9 = .ok (.iaload, 1) := by decide +kernel
theorem dX3_sumIfSaidTo_10 : decode prog_5_method_8_code 10 = .ok (.ireturn, 1) := by decide +kernel
theorem dX3_movesIfSaidTo_0 : decode prog_5_method_9_code 0 = .ok (.aload_n 0, 1) := by decide +kernel
theorem dX3_movesIfSaidTo_1 : decode prog_5_method_9_code 1 = .ok (.iload_n 1, 1) := by decide +kernel
theorem dX3_movesIfSaidTo_2 : decode prog_5_method_9_code 2 = .ok (.invokevirtual 108, 3) := by decide +kernel
theorem dX3_movesIfSaidTo_5 : decode prog_5_method_9_code 5 = .ok (.aload_n 0, 1) := by decide +kernel
theorem dX3_movesIfSaidTo_6 : decode prog_5_method_9_code 6 = .ok (.getfield 39, 3) := by decide +kernel
theorem dX3_movesIfSaidTo_9 : decode prog_5_method_9_code 9 = .ok (.lcmp, 1) := by decide +kernel
theorem dX3_movesIfSaidTo_10 : decode prog_5_method_9_code 10 = .ok (.ifCond .eq 7, 3) := by decide +kernel
theorem dX3_movesIfSaidTo_13 : decode prog_5_method_9_code 13 = .ok (.iconst 1, 1) := by decide +kernel
theorem dX3_movesIfSaidTo_14 : decode prog_5_method_9_code 14 = .ok (.goto 4, 3) := by decide +kernel
theorem dX3_movesIfSaidTo_17 : decode prog_5_method_9_code 17 = .ok (.iconst 0, 1) := by decide +kernel
theorem dX3_movesIfSaidTo_18 : decode prog_5_method_9_code 18 = .ok (.ireturn, 1) := by decide +kernel
theorem dX3_doesDeedIfTold_0 : decode prog_5_method_10_code 0 = .ok (.aload_n 0, 1) := by decide +kernel
theorem dX3_doesDeedIfTold_1 : decode prog_5_method_10_code 1 = .ok (.getfield 75, 3) := by decide +kernel
theorem dX3_doesDeedIfTold_4 : decode prog_5_method_10_code 4 = .ok (.iload_n 1, 1) := by decide +kernel
theorem dX3_doesDeedIfTold_5 : decode prog_5_method_10_code 5 = .ok (.ishr, 1) := by decide +kernel
theorem dX3_doesDeedIfTold_6 : decode prog_5_method_10_code 6 = .ok (.iconst 1, 1) := by decide +kernel
theorem dX3_doesDeedIfTold_7 : decode prog_5_method_10_code 7 = .ok (.iand, 1) := by decide +kernel
theorem dX3_doesDeedIfTold_8 : decode prog_5_method_10_code 8 = .ok (.iconst 1, 1) := by decide +kernel
theorem dX3_doesDeedIfTold_9 : decode prog_5_method_10_code 9 = .ok (.if_icmp .ne 7, 3) := by decide +kernel
theorem dX3_doesDeedIfTold_12 : decode prog_5_method_10_code 12 = .ok (.iconst 1, 1) := by decide +kernel
theorem dX3_doesDeedIfTold_13 : decode prog_5_method_10_code 13 = .ok (.goto 4, 3) := by decide +kernel
theorem dX3_doesDeedIfTold_16 : decode prog_5_method_10_code 16 = .ok (.iconst 0, 1) := by decide +kernel
theorem dX3_doesDeedIfTold_17 : decode prog_5_method_10_code 17 = .ok (.ireturn, 1) := by decide +kernel
theorem dX3_sumIfHeld_0 : decode prog_5_method_11_code 0 = .ok (.aload_n 0, 1) := by decide +kernel
theorem dX3_sumIfHeld_1 : decode prog_5_method_11_code 1 = .ok (.getfield 22, 3) := by decide +kernel
theorem dX3_sumIfHeld_4 : decode prog_5_method_11_code 4 = .ok (.aload_n 0, 1) := by decide +kernel
theorem dX3_sumIfHeld_5 : decode prog_5_method_11_code 5 = .ok (.getfield 31, 3) := by decide +kernel
theorem dX3_sumIfHeld_8 : decode prog_5_method_11_code 8 = .ok (.lload_n 1, 1) := by decide +kernel
theorem dX3_sumIfHeld_9 : decode prog_5_method_11_code 9 = .ok (.invokevirtual 43, 3) := by decide +kernel
theorem dX3_sumIfHeld_12 : decode prog_5_method_11_code 12 = .ok (.iaload, 1) := by decide +kernel
theorem dX3_sumIfHeld_13 : decode prog_5_method_11_code 13 = .ok (.ireturn, 1) := by decide +kernel
theorem dX3_mindsIfSaidTo_0 : decode prog_5_method_12_code 0 = .ok (.iload_n 1, 1) := by decide +kernel
theorem dX3_mindsIfSaidTo_1 : decode prog_5_method_12_code 1 = .ok (.aload_n 0, 1) := by decide +kernel
theorem dX3_mindsIfSaidTo_2 : decode prog_5_method_12_code 2 = .ok (.getfield 31, 3) := by decide +kernel
theorem dX3_mindsIfSaidTo_5 : decode prog_5_method_12_code 5 = .ok (.getfield 99, 3) := by decide +kernel
theorem dX3_mindsIfSaidTo_8 : decode prog_5_method_12_code 8 = .ok (.iand, 1) := by decide +kernel
theorem dX3_mindsIfSaidTo_9 : decode prog_5_method_12_code 9 = .ok (.ifCond .eq 7, 3) := by decide +kernel
theorem dX3_mindsIfSaidTo_12 : decode prog_5_method_12_code 12 = .ok (.iconst 1, 1) := by decide +kernel
theorem dX3_mindsIfSaidTo_13 : decode prog_5_method_12_code 13 = .ok (.goto 4, 3) := by decide +kernel
theorem dX3_mindsIfSaidTo_16 : decode prog_5_method_12_code 16 = .ok (.iconst 0, 1) := by decide +kernel
theorem dX3_mindsIfSaidTo_17 : decode prog_5_method_12_code 17 = .ok (.istore_n 2, 1) := by decide +kernel
theorem dX3_mindsIfSaidTo_18 : decode prog_5_method_12_code 18 = .ok (.aload_n 0, 1) := by decide +kernel
theorem dX3_mindsIfSaidTo_19 : decode prog_5_method_12_code 19 = .ok (.getfield 39, 3) := by decide +kernel
theorem dX3_mindsIfSaidTo_22 : decode prog_5_method_12_code 22 = .ok (.lstore_n 3, 1) := by decide +kernel
theorem dX3_mindsIfSaidTo_23 : decode prog_5_method_12_code 23 = .ok (.iconst 0, 1) := by decide +kernel
theorem dX3_mindsIfSaidTo_24 : decode prog_5_method_12_code 24 = .ok (.istore 5, 2) := by decide +kernel
theorem dX3_mindsIfSaidTo_26 : decode prog_5_method_12_code 26 = .ok (.iload 5, 2) := by decide +kernel
theorem dX3_mindsIfSaidTo_28 : decode prog_5_method_12_code 28 = .ok (.aload_n 0, 1) := by decide +kernel
theorem dX3_mindsIfSaidTo_29 : decode prog_5_method_12_code 29 = .ok (.getfield 31, 3) := by decide +kernel
theorem dX3_mindsIfSaidTo_32 : decode prog_5_method_12_code 32 = .ok (.getfield 50, 3) := by decide +kernel
theorem dX3_mindsIfSaidTo_35 : decode prog_5_method_12_code 35 = .ok (.if_icmp .ge 54, 3) := by decide +kernel
theorem dX3_mindsIfSaidTo_38 : decode prog_5_method_12_code 38 = .ok (.iload_n 1, 1) := by decide +kernel
theorem dX3_mindsIfSaidTo_39 : decode prog_5_method_12_code 39 = .ok (.iload 5, 2) := by decide +kernel
theorem dX3_mindsIfSaidTo_41 : decode prog_5_method_12_code 41 = .ok (.ishr, 1) := by decide +kernel
theorem dX3_mindsIfSaidTo_42 : decode prog_5_method_12_code 42 = .ok (.iconst 1, 1) := by decide +kernel
theorem dX3_mindsIfSaidTo_43 : decode prog_5_method_12_code 43 = .ok (.iand, 1) := by decide +kernel
theorem dX3_mindsIfSaidTo_44 : decode prog_5_method_12_code 44 = .ok (.iconst 1, 1) := by decide +kernel
theorem dX3_mindsIfSaidTo_45 : decode prog_5_method_12_code 45 = .ok (.if_icmp .ne 20, 3) := by decide +kernel
theorem dX3_mindsIfSaidTo_48 : decode prog_5_method_12_code 48 = .ok (.lload_n 3, 1) := by decide +kernel
theorem dX3_mindsIfSaidTo_49 : decode prog_5_method_12_code 49 = .ok (.iload 5, 2) := by decide +kernel
theorem dX3_mindsIfSaidTo_51 : decode prog_5_method_12_code 51 = .ok (.aload_n 0, 1) := by decide +kernel
theorem dX3_mindsIfSaidTo_52 : decode prog_5_method_12_code 52 = .ok (.getfield 25, 3) := by decide +kernel
theorem dX3_mindsIfSaidTo_55 : decode prog_5_method_12_code 55 = .ok (.iload 5, 2) := by decide +kernel
theorem dX3_mindsIfSaidTo_57 : decode prog_5_method_12_code 57 = .ok (.iaload, 1) := by decide +kernel
theorem dX3_mindsIfSaidTo_58 : decode prog_5_method_12_code 58 = .ok (.invokestatic 112, 3) := by decide +kernel
theorem dX3_mindsIfSaidTo_61 : decode prog_5_method_12_code 61 = .ok (.lstore_n 3, 1) := by decide +kernel
theorem dX3_mindsIfSaidTo_62 : decode prog_5_method_12_code 62 = .ok (.goto 21, 3) := by decide +kernel
theorem dX3_mindsIfSaidTo_65 : decode prog_5_method_12_code 65 = .ok (.iload_n 2, 1) := by decide +kernel
theorem dX3_mindsIfSaidTo_66 : decode prog_5_method_12_code 66 = .ok (.ifCond .eq 17, 3) := by decide +kernel
theorem dX3_mindsIfSaidTo_69 : decode prog_5_method_12_code 69 = .ok (.lload_n 3, 1) := by decide +kernel
theorem dX3_mindsIfSaidTo_70 : decode prog_5_method_12_code 70 = .ok (.iload 5, 2) := by decide +kernel
theorem dX3_mindsIfSaidTo_72 : decode prog_5_method_12_code 72 = .ok (.aload_n 0, 1) := by decide +kernel
theorem dX3_mindsIfSaidTo_73 : decode prog_5_method_12_code 73 = .ok (.getfield 28, 3) := by decide +kernel
theorem dX3_mindsIfSaidTo_76 : decode prog_5_method_12_code 76 = .ok (.iload 5, 2) := by decide +kernel
theorem dX3_mindsIfSaidTo_78 : decode prog_5_method_12_code 78 = .ok (.iaload, 1) := by decide +kernel
theorem dX3_mindsIfSaidTo_79 : decode prog_5_method_12_code 79 = .ok (.invokestatic 112, 3) := by decide +kernel
theorem dX3_mindsIfSaidTo_82 : decode prog_5_method_12_code 82 = .ok (.lstore_n 3, 1) := by decide +kernel
theorem dX3_mindsIfSaidTo_83 : decode prog_5_method_12_code 83 = .ok (.iinc 5 1, 3) := by decide +kernel
theorem dX3_mindsIfSaidTo_86 : decode prog_5_method_12_code 86 = .ok (.goto (-60), 3) := by decide +kernel
theorem dX3_mindsIfSaidTo_89 : decode prog_5_method_12_code 89 = .ok (.lload_n 3, 1) := by decide +kernel
theorem dX3_mindsIfSaidTo_90 : decode prog_5_method_12_code 90 = .ok (.lreturn, 1) := by decide +kernel
theorem dX4_mindOf_0 : decode prog_6_method_2_code 0 = .ok (.lload_n 0, 1) := by decide +kernel
theorem dX4_mindOf_1 : decode prog_6_method_2_code 1 = .ok (.bipush 12, 2) := by decide +kernel
theorem dX4_mindOf_3 : decode prog_6_method_2_code 3 = .ok (.iload_n 2, 1) := by decide +kernel
theorem dX4_mindOf_4 : decode prog_6_method_2_code 4 = .ok (.imul, 1) := by decide +kernel
theorem dX4_mindOf_5 : decode prog_6_method_2_code 5 = .ok (.lushr, 1) := by decide +kernel
theorem dX4_mindOf_6 : decode prog_6_method_2_code 6 = .ok (.l2i, 1) := by decide +kernel
theorem dX4_mindOf_7 : decode prog_6_method_2_code 7 = .ok (.sipush 4095, 3) := by decide +kernel
theorem dX4_mindOf_10 : decode prog_6_method_2_code 10 = .ok (.iand, 1) := by decide +kernel
theorem dX4_mindOf_11 : decode prog_6_method_2_code 11 = .ok (.ireturn, 1) := by decide +kernel
theorem dX4_withMind_0 : decode prog_6_method_3_code 0 = .ok (.lload_n 0, 1) := by decide +kernel
theorem dX4_withMind_1 : decode prog_6_method_3_code 1 = .ok (.ldc2_w 9, 3) := by decide +kernel
theorem dX4_withMind_4 : decode prog_6_method_3_code 4 = .ok (.bipush 12, 2) := by decide +kernel
theorem dX4_withMind_6 : decode prog_6_method_3_code 6 = .ok (.iload_n 2, 1) := by decide +kernel
theorem dX4_withMind_7 : decode prog_6_method_3_code 7 = .ok (.imul, 1) := by decide +kernel
theorem dX4_withMind_8 : decode prog_6_method_3_code 8 = .ok (.lshl, 1) := by decide +kernel
theorem dX4_withMind_9 : decode prog_6_method_3_code 9 = .ok (.ldc2_w 11, 3) := by decide +kernel
theorem dX4_withMind_12 : decode prog_6_method_3_code 12 = .ok (.lxor, 1) := by decide +kernel
theorem dX4_withMind_13 : decode prog_6_method_3_code 13 = .ok (.land, 1) := by decide +kernel
theorem dX4_withMind_14 : decode prog_6_method_3_code 14 = .ok (.iload_n 3, 1) := by decide +kernel
theorem dX4_withMind_15 : decode prog_6_method_3_code 15 = .ok (.i2l, 1) := by decide +kernel
theorem dX4_withMind_16 : decode prog_6_method_3_code 16 = .ok (.bipush 12, 2) := by decide +kernel
theorem dX4_withMind_18 : decode prog_6_method_3_code 18 = .ok (.iload_n 2, 1) := by decide +kernel
theorem dX4_withMind_19 : decode prog_6_method_3_code 19 = .ok (.imul, 1) := by decide +kernel
theorem dX4_withMind_20 : decode prog_6_method_3_code 20 = .ok (.lshl, 1) := by decide +kernel
theorem dX4_withMind_21 : decode prog_6_method_3_code 21 = .ok (.lor, 1) := by decide +kernel
theorem dX4_withMind_22 : decode prog_6_method_3_code 22 = .ok (.lreturn, 1) := by decide +kernel
theorem dX4_holds_0 : decode prog_6_method_4_code 0 = .ok (.iload_n 0, 1) := by decide +kernel
theorem dX4_holds_1 : decode prog_6_method_4_code 1 = .ok (.iload_n 1, 1) := by decide +kernel
theorem dX4_holds_2 : decode prog_6_method_4_code 2 = .ok (.ishr, 1) := by decide +kernel
theorem dX4_holds_3 : decode prog_6_method_4_code 3 = .ok (.iconst 1, 1) := by decide +kernel
theorem dX4_holds_4 : decode prog_6_method_4_code 4 = .ok (.iand, 1) := by decide +kernel
theorem dX4_holds_5 : decode prog_6_method_4_code 5 = .ok (.iconst 1, 1) := by decide +kernel
theorem dX4_holds_6 : decode prog_6_method_4_code 6 = .ok (.if_icmp .ne 19, 3) := by decide +kernel
theorem dX4_holds_9 : decode prog_6_method_4_code 9 = .ok (.iload_n 0, 1) := by decide +kernel
theorem dX4_holds_10 : decode prog_6_method_4_code 10 = .ok (.bipush 6, 2) := by decide +kernel
theorem dX4_holds_12 : decode prog_6_method_4_code 12 = .ok (.iload_n 1, 1) := by decide +kernel
theorem dX4_holds_13 : decode prog_6_method_4_code 13 = .ok (.iadd, 1) := by decide +kernel
theorem dX4_holds_14 : decode prog_6_method_4_code 14 = .ok (.ishr, 1) := by decide +kernel
theorem dX4_holds_15 : decode prog_6_method_4_code 15 = .ok (.iconst 1, 1) := by decide +kernel
theorem dX4_holds_16 : decode prog_6_method_4_code 16 = .ok (.iand, 1) := by decide +kernel
theorem dX4_holds_17 : decode prog_6_method_4_code 17 = .ok (.iload_n 2, 1) := by decide +kernel
theorem dX4_holds_18 : decode prog_6_method_4_code 18 = .ok (.if_icmp .ne 7, 3) := by decide +kernel
theorem dX4_holds_21 : decode prog_6_method_4_code 21 = .ok (.iconst 1, 1) := by decide +kernel
theorem dX4_holds_22 : decode prog_6_method_4_code 22 = .ok (.goto 4, 3) := by decide +kernel
theorem dX4_holds_25 : decode prog_6_method_4_code 25 = .ok (.iconst 0, 1) := by decide +kernel
theorem dX4_holds_26 : decode prog_6_method_4_code 26 = .ok (.ireturn, 1) := by decide +kernel
theorem dX4_hold_0 : decode prog_6_method_5_code 0 = .ok (.iload_n 0, 1) := by decide +kernel
theorem dX4_hold_1 : decode prog_6_method_5_code 1 = .ok (.iconst 1, 1) := by decide +kernel
theorem dX4_hold_2 : decode prog_6_method_5_code 2 = .ok (.bipush 6, 2) := by decide +kernel
theorem dX4_hold_4 : decode prog_6_method_5_code 4 = .ok (.iload_n 1, 1) := by decide +kernel
theorem dX4_hold_5 : decode prog_6_method_5_code 5 = .ok (.iadd, 1) := by decide +kernel
theorem dX4_hold_6 : decode prog_6_method_5_code 6 = .ok (.ishl, 1) := by decide +kernel
theorem dX4_hold_7 : decode prog_6_method_5_code 7 = .ok (.iconst (-1), 1) := by decide +kernel
theorem dX4_hold_8 : decode prog_6_method_5_code 8 = .ok (.ixor, 1) := by decide +kernel
theorem dX4_hold_9 : decode prog_6_method_5_code 9 = .ok (.iand, 1) := by decide +kernel
theorem dX4_hold_10 : decode prog_6_method_5_code 10 = .ok (.istore_n 3, 1) := by decide +kernel
theorem dX4_hold_11 : decode prog_6_method_5_code 11 = .ok (.iload_n 3, 1) := by decide +kernel
theorem dX4_hold_12 : decode prog_6_method_5_code 12 = .ok (.iconst 1, 1) := by decide +kernel
theorem dX4_hold_13 : decode prog_6_method_5_code 13 = .ok (.iload_n 1, 1) := by decide +kernel
theorem dX4_hold_14 : decode prog_6_method_5_code 14 = .ok (.ishl, 1) := by decide +kernel
theorem dX4_hold_15 : decode prog_6_method_5_code 15 = .ok (.ior, 1) := by decide +kernel
theorem dX4_hold_16 : decode prog_6_method_5_code 16 = .ok (.iload_n 2, 1) := by decide +kernel
theorem dX4_hold_17 : decode prog_6_method_5_code 17 = .ok (.bipush 6, 2) := by decide +kernel
theorem dX4_hold_19 : decode prog_6_method_5_code 19 = .ok (.iload_n 1, 1) := by decide +kernel
theorem dX4_hold_20 : decode prog_6_method_5_code 20 = .ok (.iadd, 1) := by decide +kernel
theorem dX4_hold_21 : decode prog_6_method_5_code 21 = .ok (.ishl, 1) := by decide +kernel
theorem dX4_hold_22 : decode prog_6_method_5_code 22 = .ok (.ior, 1) := by decide +kernel
theorem dX4_hold_23 : decode prog_6_method_5_code 23 = .ok (.ireturn, 1) := by decide +kernel
theorem dX4_whoDiffer_0 : decode prog_6_method_6_code 0 = .ok (.iconst 0, 1) := by decide +kernel
theorem dX4_whoDiffer_1 : decode prog_6_method_6_code 1 = .ok (.istore 4, 2) := by decide +kernel
theorem dX4_whoDiffer_3 : decode prog_6_method_6_code 3 = .ok (.iconst 0, 1) := by decide +kernel
theorem dX4_whoDiffer_4 : decode prog_6_method_6_code 4 = .ok (.istore 5, 2) := by decide +kernel
theorem dX4_whoDiffer_6 : decode prog_6_method_6_code 6 = .ok (.iload 5, 2) := by decide +kernel
theorem dX4_whoDiffer_8 : decode prog_6_method_6_code 8 = .ok (.iconst 5, 1) := by decide +kernel
theorem dX4_whoDiffer_9 : decode prog_6_method_6_code 9 = .ok (.if_icmp .ge 33, 3) := by decide +kernel
theorem dX4_whoDiffer_12 : decode prog_6_method_6_code 12 = .ok (.lload_n 0, 1) := by decide +kernel
theorem dX4_whoDiffer_13 : decode prog_6_method_6_code 13 = .ok (.iload 5, 2) := by decide +kernel
theorem dX4_whoDiffer_15 : decode prog_6_method_6_code 15 = .ok (.invokestatic 15, 3) := by decide +kernel
theorem dX4_whoDiffer_18 : decode prog_6_method_6_code 18 = .ok (.lload_n 2, 1) := by decide +kernel
theorem dX4_whoDiffer_19 : decode prog_6_method_6_code 19 = .ok (.iload 5, 2) := by decide +kernel
theorem dX4_whoDiffer_21 : decode prog_6_method_6_code 21 = .ok (.invokestatic 15, 3) := by decide +kernel
theorem dX4_whoDiffer_24 : decode prog_6_method_6_code 24 = .ok (.if_icmp .eq 12, 3) := by decide +kernel
theorem dX4_whoDiffer_27 : decode prog_6_method_6_code 27 = .ok (.iload 4, 2) := by decide +kernel
theorem dX4_whoDiffer_29 : decode prog_6_method_6_code 29 = .ok (.iconst 1, 1) := by decide +kernel
theorem dX4_whoDiffer_30 : decode prog_6_method_6_code 30 = .ok (.iload 5, 2) := by decide +kernel
theorem dX4_whoDiffer_32 : decode prog_6_method_6_code 32 = .ok (.ishl, 1) := by decide +kernel
theorem dX4_whoDiffer_33 : decode prog_6_method_6_code 33 = .ok (.ior, 1) := by decide +kernel
theorem dX4_whoDiffer_34 : decode prog_6_method_6_code 34 = .ok (.istore 4, 2) := by decide +kernel
theorem dX4_whoDiffer_36 : decode prog_6_method_6_code 36 = .ok (.iinc 5 1, 3) := by decide +kernel
theorem dX4_whoDiffer_39 : decode prog_6_method_6_code 39 = .ok (.goto (-33), 3) := by decide +kernel
theorem dX4_whoDiffer_42 : decode prog_6_method_6_code 42 = .ok (.iload 4, 2) := by decide +kernel
theorem dX4_whoDiffer_44 : decode prog_6_method_6_code 44 = .ok (.ireturn, 1) := by decide +kernel
theorem dX4_thingsBelieved_0 : decode prog_6_method_7_code 0 = .ok (.iconst 0, 1) := by decide +kernel
theorem dX4_thingsBelieved_1 : decode prog_6_method_7_code 1 = .ok (.istore_n 2, 1) := by decide +kernel
theorem dX4_thingsBelieved_2 : decode prog_6_method_7_code 2 = .ok (.iconst 0, 1) := by decide +kernel
theorem dX4_thingsBelieved_3 : decode prog_6_method_7_code 3 = .ok (.istore_n 3, 1) := by decide +kernel
theorem dX4_thingsBelieved_4 : decode prog_6_method_7_code 4 = .ok (.iload_n 3, 1) := by decide +kernel
theorem dX4_thingsBelieved_5 : decode prog_6_method_7_code 5 = .ok (.iconst 5, 1) := by decide +kernel
theorem dX4_thingsBelieved_6 : decode prog_6_method_7_code 6 = .ok (.if_icmp .ge 23, 3) := by decide +kernel
theorem dX4_thingsBelieved_9 : decode prog_6_method_7_code 9 = .ok (.iload_n 2, 1) := by decide +kernel
theorem dX4_thingsBelieved_10 : decode prog_6_method_7_code 10 = .ok (.lload_n 0, 1) := by decide +kernel
theorem dX4_thingsBelieved_11 : decode prog_6_method_7_code 11 = .ok (.iload_n 3, 1) := by decide +kernel
theorem dX4_thingsBelieved_12 : decode prog_6_method_7_code 12 = .ok (.invokestatic 15, 3) := by decide +kernel
theorem dX4_thingsBelieved_15 : decode prog_6_method_7_code 15 = .ok (.bipush 63, 2) := by decide +kernel
theorem dX4_thingsBelieved_17 : decode prog_6_method_7_code 17 = .ok (.iand, 1) := by decide +kernel
theorem dX4_thingsBelieved_18 : decode prog_6_method_7_code 18 = .ok (.invokestatic 19, 3) := by decide +kernel
theorem dX4_thingsBelieved_21 : decode prog_6_method_7_code 21 = .ok (.iadd, 1) := by decide +kernel
theorem dX4_thingsBelieved_22 : decode prog_6_method_7_code 22 = .ok (.istore_n 2, 1) := by decide +kernel
theorem dX4_thingsBelieved_23 : decode prog_6_method_7_code 23 = .ok (.iinc 3 1, 3) := by decide +kernel
theorem dX4_thingsBelieved_26 : decode prog_6_method_7_code 26 = .ok (.goto (-22), 3) := by decide +kernel
theorem dX4_thingsBelieved_29 : decode prog_6_method_7_code 29 = .ok (.iload_n 2, 1) := by decide +kernel
theorem dX4_thingsBelieved_30 : decode prog_6_method_7_code 30 = .ok (.ireturn, 1) := by decide +kernel
theorem dX5_init_0 : decode prog_7_method_1_code 0 = .ok (.aload_n 0, 1) := by decide +kernel
theorem dX5_init_1 : decode prog_7_method_1_code 1 = .ok (.invokespecial 3, 3) := by decide +kernel
theorem dX5_init_4 : decode prog_7_method_1_code 4 = .ok (.aload_n 0, 1) := by decide +kernel
theorem dX5_init_5 : decode prog_7_method_1_code 5 = .ok (.sipush 160, 3) := by decide +kernel
theorem dX5_init_8 : decode prog_7_method_1_code 8 = .ok (.newarray .int, 2) := by decide +kernel
theorem dX5_init_10 : decode prog_7_method_1_code 10 = .ok (.putfield 11, 3) := by decide +kernel
theorem dX5_init_13 : decode prog_7_method_1_code 13 = .ok (.aload_n 0, 1) := by decide +kernel
theorem dX5_init_14 : decode prog_7_method_1_code 14 = .ok (.bipush 14, 2) := by decide +kernel
theorem dX5_init_16 : decode prog_7_method_1_code 16 = .ok (.bipush 6, 2) := by decide +kernel
theorem dX5_init_18 : decode prog_7_method_1_code 18 = .ok (.multianewarray 15 2, 4) := by decide +kernel
theorem dX5_init_22 : decode prog_7_method_1_code 22 = .ok (.putfield 17, 3) := by decide +kernel
theorem dX5_init_25 : decode prog_7_method_1_code 25 = .ok (.return_, 1) := by decide +kernel
theorem dX5_append_0 : decode prog_7_method_2_code 0 = .ok (.aload_n 0, 1) := by decide +kernel
theorem dX5_append_1 : decode prog_7_method_2_code 1 = .ok (.getfield 20, 3) := by decide +kernel
theorem dX5_append_4 : decode prog_7_method_2_code 4 = .ok (.sipush 160, 3) := by decide +kernel
theorem dX5_append_7 : decode prog_7_method_2_code 7 = .ok (.if_icmp .lt 5, 3) := by decide +kernel
theorem dX5_append_10 : decode prog_7_method_2_code 10 = .ok (.iconst 0, 1) := by decide +kernel
theorem dX5_append_11 : decode prog_7_method_2_code 11 = .ok (.ireturn, 1) := by decide +kernel
theorem dX5_append_12 : decode prog_7_method_2_code 12 = .ok (.aload_n 0, 1) := by decide +kernel
theorem dX5_append_13 : decode prog_7_method_2_code 13 = .ok (.getfield 11, 3) := by decide +kernel
theorem dX5_append_16 : decode prog_7_method_2_code 16 = .ok (.aload_n 0, 1) := by decide +kernel
theorem dX5_append_17 : decode prog_7_method_2_code 17 = .ok (.getfield 20, 3) := by decide +kernel
theorem dX5_append_20 : decode prog_7_method_2_code 20 = .ok (.iload_n 1, 1) := by decide +kernel
theorem dX5_append_21 : decode prog_7_method_2_code 21 = .ok (.iastore, 1) := by decide +kernel
theorem dX5_append_22 : decode prog_7_method_2_code 22 = .ok (.aload_n 0, 1) := by decide +kernel
theorem dX5_append_23 : decode prog_7_method_2_code 23 = .ok (.dup, 1) := by decide +kernel
theorem dX5_append_24 : decode prog_7_method_2_code 24 = .ok (.getfield 20, 3) := by decide +kernel
theorem dX5_append_27 : decode prog_7_method_2_code 27 = .ok (.iconst 1, 1) := by decide +kernel
theorem dX5_append_28 : decode prog_7_method_2_code 28 = .ok (.iadd, 1) := by decide +kernel
theorem dX5_append_29 : decode prog_7_method_2_code 29 = .ok (.putfield 20, 3) := by decide +kernel
theorem dX5_append_32 : decode prog_7_method_2_code 32 = .ok (.iconst 1, 1) := by decide +kernel
theorem dX5_append_33 : decode prog_7_method_2_code 33 = .ok (.ireturn, 1) := by decide +kernel
theorem dX5_isOfFact_0 : decode prog_7_method_3_code 0 = .ok (.iload_n 0, 1) := by decide +kernel
theorem dX5_isOfFact_1 : decode prog_7_method_3_code 1 = .ok (.iconst 1, 1) := by decide +kernel
theorem dX5_isOfFact_2 : decode prog_7_method_3_code 2 = .ok (.if_icmp .eq 8, 3) := by decide +kernel
theorem dX5_isOfFact_5 : decode prog_7_method_3_code 5 = .ok (.iload_n 0, 1) := by decide +kernel
theorem dX5_isOfFact_6 : decode prog_7_method_3_code 6 = .ok (.iconst 2, 1) := by decide +kernel
theorem dX5_isOfFact_7 : decode prog_7_method_3_code 7 = .ok (.if_icmp .ne 7, 3) := by decide +kernel
theorem dX5_isOfFact_10 : decode prog_7_method_3_code 10 = .ok (.iconst 1, 1) := by decide +kernel
theorem dX5_isOfFact_11 : decode prog_7_method_3_code 11 = .ok (.goto 4, 3) := by decide +kernel
theorem dX5_isOfFact_14 : decode prog_7_method_3_code 14 = .ok (.iconst 0, 1) := by decide +kernel
theorem dX5_isOfFact_15 : decode prog_7_method_3_code 15 = .ok (.ireturn, 1) := by decide +kernel
theorem dX5_firstFault_0 : decode prog_7_method_4_code 0 = .ok (.aload_n 0, 1) := by decide +kernel
theorem dX5_firstFault_1 : decode prog_7_method_4_code 1 = .ok (.aload_n 1, 1) := by decide +kernel
theorem dX5_firstFault_2 : decode prog_7_method_4_code 2 = .ok (.getfield 24, 3) := by decide +kernel
theorem dX5_firstFault_5 : decode prog_7_method_4_code 5 = .ok (.putfield 29, 3) := by decide +kernel
theorem dX5_firstFault_8 : decode prog_7_method_4_code 8 = .ok (.aload_n 0, 1) := by decide +kernel
theorem dX5_firstFault_9 : decode prog_7_method_4_code 9 = .ok (.aload_n 1, 1) := by decide +kernel
theorem dX5_firstFault_10 : decode prog_7_method_4_code 10 = .ok (.getfield 32, 3) := by decide +kernel
theorem dX5_firstFault_13 : decode prog_7_method_4_code 13 = .ok (.putfield 35, 3) := by decide +kernel
theorem dX5_firstFault_16 : decode prog_7_method_4_code 16 = .ok (.aload_n 0, 1) := by decide +kernel
theorem dX5_firstFault_17 : decode prog_7_method_4_code 17 = .ok (.aload_n 1, 1) := by decide +kernel
theorem dX5_firstFault_18 : decode prog_7_method_4_code 18 = .ok (.getfield 38, 3) := by decide +kernel
theorem dX5_firstFault_21 : decode prog_7_method_4_code 21 = .ok (.putfield 41, 3) := by decide +kernel
theorem dX5_firstFault_24 : decode prog_7_method_4_code 24 = .ok (.aload_n 0, 1) := by decide +kernel
theorem dX5_firstFault_25 : decode prog_7_method_4_code 25 = .ok (.iconst 0, 1) := by decide +kernel
theorem dX5_firstFault_26 : decode prog_7_method_4_code 26 = .ok (.putfield 44, 3) := by decide +kernel
theorem dX5_firstFault_29 : decode prog_7_method_4_code 29 = .ok (.aload_n 0, 1) := by decide +kernel
theorem dX5_firstFault_30 : decode prog_7_method_4_code 30 = .ok (.iconst 0, 1) := by decide +kernel
theorem dX5_firstFault_31 : decode prog_7_method_4_code 31 = .ok (.putfield 47, 3) := by decide +kernel
theorem dX5_firstFault_34 : decode prog_7_method_4_code 34 = .ok (.iconst 0, 1) := by decide +kernel
theorem dX5_firstFault_35 : decode prog_7_method_4_code 35 = .ok (.istore_n 2, 1) := by decide +kernel
theorem dX5_firstFault_36 : decode prog_7_method_4_code 36 = .ok (.iload_n 2, 1) := by decide +kernel
theorem dX5_firstFault_37 : decode prog_7_method_4_code 37 = .ok (.bipush 14, 2) := by decide +kernel
theorem dX5_firstFault_39 : decode prog_7_method_4_code 39 = .ok (.if_icmp .ge 73, 3) := by decide +kernel
theorem dX5_firstFault_42 : decode prog_7_method_4_code 42 = .ok (.aload_n 0, 1) := by decide +kernel
theorem dX5_firstFault_43 : decode prog_7_method_4_code 43 = .ok (.invokevirtual 50, 3) := by decide +kernel
theorem dX5_firstFault_46 : decode prog_7_method_4_code 46 = .ok (.aload_n 0, 1) := by decide +kernel
theorem dX5_firstFault_47 : decode prog_7_method_4_code 47 = .ok (.aload_n 0, 1) := by decide +kernel
theorem dX5_firstFault_48 : decode prog_7_method_4_code 48 = .ok (.getfield 17, 3) := by decide +kernel
theorem dX5_firstFault_51 : decode prog_7_method_4_code 51 = .ok (.iload_n 2, 1) := by decide +kernel
theorem dX5_firstFault_52 : decode prog_7_method_4_code 52 = .ok (.aaload, 1) := by decide +kernel
theorem dX5_firstFault_53 : decode prog_7_method_4_code 53 = .ok (.invokevirtual 53, 3) := by decide +kernel
theorem dX5_firstFault_56 : decode prog_7_method_4_code 56 = .ok (.ifCond .ne 8, 3) := by decide +kernel
theorem dX5_firstFault_59 : decode prog_7_method_4_code 59 = .ok (.aload_n 0, 1) := by decide +kernel
theorem dX5_firstFault_60 : decode prog_7_method_4_code 60 = .ok (.getfield 57, 3) := by decide +kernel
theorem dX5_firstFault_63 : decode prog_7_method_4_code 63 = .ok (.ireturn, 1) := by decide +kernel
theorem dX5_firstFault_64 : decode prog_7_method_4_code 64 = .ok (.aload_n 0, 1) := by decide +kernel
theorem dX5_firstFault_65 : decode prog_7_method_4_code 65 = .ok (.dup, 1) := by decide +kernel
theorem dX5_firstFault_66 : decode prog_7_method_4_code 66 = .ok (.getfield 44, 3) := by decide +kernel
theorem dX5_firstFault_69 : decode prog_7_method_4_code 69 = .ok (.iconst 1, 1) := by decide +kernel
theorem dX5_firstFault_70 : decode prog_7_method_4_code 70 = .ok (.iadd, 1) := by decide +kernel
theorem dX5_firstFault_71 : decode prog_7_method_4_code 71 = .ok (.putfield 44, 3) := by decide +kernel
theorem dX5_firstFault_74 : decode prog_7_method_4_code 74 = .ok (.aload_n 0, 1) := by decide +kernel
theorem dX5_firstFault_75 : decode prog_7_method_4_code 75 = .ok (.invokevirtual 50, 3) := by decide +kernel
theorem dX5_firstFault_78 : decode prog_7_method_4_code 78 = .ok (.aload_n 0, 1) := by decide +kernel
theorem dX5_firstFault_79 : decode prog_7_method_4_code 79 = .ok (.getfield 60, 3) := by decide +kernel
theorem dX5_firstFault_82 : decode prog_7_method_4_code 82 = .ok (.ifCond .ne 5, 3) := by decide +kernel
theorem dX5_firstFault_85 : decode prog_7_method_4_code 85 = .ok (.iconst (-1), 1) := by decide +kernel
theorem dX5_firstFault_86 : decode prog_7_method_4_code 86 = .ok (.ireturn, 1) := by decide +kernel
theorem dX5_firstFault_87 : decode prog_7_method_4_code 87 = .ok (.aload_n 0, 1) := by decide +kernel
theorem dX5_firstFault_88 : decode prog_7_method_4_code 88 = .ok (.getfield 11, 3) := by decide +kernel
theorem dX5_firstFault_91 : decode prog_7_method_4_code 91 = .ok (.aload_n 0, 1) := by decide +kernel
theorem dX5_firstFault_92 : decode prog_7_method_4_code 92 = .ok (.getfield 57, 3) := by decide +kernel
theorem dX5_firstFault_95 : decode prog_7_method_4_code 95 = .ok (.iaload, 1) := by decide +kernel
theorem dX5_firstFault_96 : decode prog_7_method_4_code 96 = .ok (.bipush 59, 2) := by decide +kernel
theorem dX5_firstFault_98 : decode prog_7_method_4_code 98 = .ok (.if_icmp .eq 8, 3) := by decide +kernel
theorem dX5_firstFault_101 : decode prog_7_method_4_code 101 = .ok (.aload_n 0, 1) := by decide +kernel
theorem dX5_firstFault_102 : decode prog_7_method_4_code 102 = .ok (.getfield 57, 3) := by decide +kernel
theorem dX5_firstFault_105 : decode prog_7_method_4_code 105 = .ok (.ireturn, 1) := by decide +kernel
theorem dX5_firstFault_106 : decode prog_7_method_4_code 106 = .ok (.iinc 2 1, 3) := by decide +kernel
theorem dX5_firstFault_109 : decode prog_7_method_4_code 109 = .ok (.goto (-73), 3) := by decide +kernel
theorem dX5_firstFault_112 : decode prog_7_method_4_code 112 = .ok (.aload_n 0, 1) := by decide +kernel
theorem dX5_firstFault_113 : decode prog_7_method_4_code 113 = .ok (.getfield 57, 3) := by decide +kernel
theorem dX5_firstFault_116 : decode prog_7_method_4_code 116 = .ok (.ireturn, 1) := by decide +kernel
theorem dX5_nextToken_0 : decode prog_7_method_5_code 0 = .ok (.aload_n 0, 1) := by decide +kernel
theorem dX5_nextToken_1 : decode prog_7_method_5_code 1 = .ok (.aload_n 0, 1) := by decide +kernel
theorem dX5_nextToken_2 : decode prog_7_method_5_code 2 = .ok (.getfield 47, 3) := by decide +kernel
theorem dX5_nextToken_5 : decode prog_7_method_5_code 5 = .ok (.putfield 57, 3) := by decide +kernel
theorem dX5_nextToken_8 : decode prog_7_method_5_code 8 = .ok (.aload_n 0, 1) := by decide +kernel
theorem dX5_nextToken_9 : decode prog_7_method_5_code 9 = .ok (.getfield 57, 3) := by decide +kernel
theorem dX5_nextToken_12 : decode prog_7_method_5_code 12 = .ok (.aload_n 0, 1) := by decide +kernel
theorem dX5_nextToken_13 : decode prog_7_method_5_code 13 = .ok (.getfield 20, 3) := by decide +kernel
theorem dX5_nextToken_16 : decode prog_7_method_5_code 16 = .ok (.if_icmp .ge 30, 3) := by decide +kernel
theorem dX5_nextToken_19 : decode prog_7_method_5_code 19 = .ok (.aload_n 0, 1) := by decide +kernel
theorem dX5_nextToken_20 : decode prog_7_method_5_code 20 = .ok (.getfield 11, 3) := by decide +kernel
theorem dX5_nextToken_23 : decode prog_7_method_5_code 23 = .ok (.aload_n 0, 1) := by decide +kernel
theorem dX5_nextToken_24 : decode prog_7_method_5_code 24 = .ok (.getfield 57, 3) := by decide +kernel
theorem dX5_nextToken_27 : decode prog_7_method_5_code 27 = .ok (.iaload, 1) := by decide +kernel
theorem dX5_nextToken_28 : decode prog_7_method_5_code 28 = .ok (.bipush 32, 2) := by decide +kernel
theorem dX5_nextToken_30 : decode prog_7_method_5_code 30 = .ok (.if_icmp .ne 16, 3) := by decide +kernel
theorem dX5_nextToken_33 : decode prog_7_method_5_code 33 = .ok (.aload_n 0, 1) := by decide +kernel
theorem dX5_nextToken_34 : decode prog_7_method_5_code 34 = .ok (.dup, 1) := by decide +kernel
theorem dX5_nextToken_35 : decode prog_7_method_5_code 35 = .ok (.getfield 57, 3) := by decide +kernel
theorem dX5_nextToken_38 : decode prog_7_method_5_code 38 = .ok (.iconst 1, 1) := by decide +kernel
theorem dX5_nextToken_39 : decode prog_7_method_5_code 39 = .ok (.iadd, 1) := by decide +kernel
theorem dX5_nextToken_40 : decode prog_7_method_5_code 40 = .ok (.putfield 57, 3) := by decide +kernel
theorem dX5_nextToken_43 : decode prog_7_method_5_code 43 = .ok (.goto (-35), 3) := by decide +kernel
theorem dX5_nextToken_46 : decode prog_7_method_5_code 46 = .ok (.aload_n 0, 1) := by decide +kernel
theorem dX5_nextToken_47 : decode prog_7_method_5_code 47 = .ok (.aload_n 0, 1) := by decide +kernel
theorem dX5_nextToken_48 : decode prog_7_method_5_code 48 = .ok (.getfield 57, 3) := by decide +kernel
theorem dX5_nextToken_51 : decode prog_7_method_5_code 51 = .ok (.putfield 47, 3) := by decide +kernel
theorem dX5_nextToken_54 : decode prog_7_method_5_code 54 = .ok (.aload_n 0, 1) := by decide +kernel
theorem dX5_nextToken_55 : decode prog_7_method_5_code 55 = .ok (.iconst 0, 1) := by decide +kernel
theorem dX5_nextToken_56 : decode prog_7_method_5_code 56 = .ok (.putfield 60, 3) := by decide +kernel
theorem dX5_nextToken_59 : decode prog_7_method_5_code 59 = .ok (.aload_n 0, 1) := by decide +kernel
theorem dX5_nextToken_60 : decode prog_7_method_5_code 60 = .ok (.getfield 57, 3) := by decide +kernel
theorem dX5_nextToken_63 : decode prog_7_method_5_code 63 = .ok (.aload_n 0, 1) := by decide +kernel
theorem dX5_nextToken_64 : decode prog_7_method_5_code 64 = .ok (.getfield 20, 3) := by decide +kernel
theorem dX5_nextToken_67 : decode prog_7_method_5_code 67 = .ok (.if_icmp .lt 4, 3) := by decide +kernel
theorem dX5_nextToken_70 : decode prog_7_method_5_code 70 = .ok (.return_, 1) := by decide +kernel
theorem dX5_nextToken_71 : decode prog_7_method_5_code 71 = .ok (.aload_n 0, 1) := by decide +kernel
theorem dX5_nextToken_72 : decode prog_7_method_5_code 72 = .ok (.aload_n 0, 1) := by decide +kernel
theorem dX5_nextToken_73 : decode prog_7_method_5_code 73 = .ok (.getfield 11, 3) := by decide +kernel
theorem dX5_nextToken_76 : decode prog_7_method_5_code 76 = .ok (.aload_n 0, 1) := by decide +kernel
theorem dX5_nextToken_77 : decode prog_7_method_5_code 77 = .ok (.getfield 57, 3) := by decide +kernel
theorem dX5_nextToken_80 : decode prog_7_method_5_code 80 = .ok (.iaload, 1) := by decide +kernel
theorem dX5_nextToken_81 : decode prog_7_method_5_code 81 = .ok (.invokestatic 63, 3) := by decide +kernel
theorem dX5_nextToken_84 : decode prog_7_method_5_code 84 = .ok (.putfield 60, 3) := by decide +kernel
theorem dX5_nextToken_87 : decode prog_7_method_5_code 87 = .ok (.aload_n 0, 1) := by decide +kernel
theorem dX5_nextToken_88 : decode prog_7_method_5_code 88 = .ok (.dup, 1) := by decide +kernel
theorem dX5_nextToken_89 : decode prog_7_method_5_code 89 = .ok (.getfield 47, 3) := by decide +kernel
theorem dX5_nextToken_92 : decode prog_7_method_5_code 92 = .ok (.iconst 1, 1) := by decide +kernel
theorem dX5_nextToken_93 : decode prog_7_method_5_code 93 = .ok (.iadd, 1) := by decide +kernel
theorem dX5_nextToken_94 : decode prog_7_method_5_code 94 = .ok (.putfield 47, 3) := by decide +kernel
theorem dX5_nextToken_97 : decode prog_7_method_5_code 97 = .ok (.aload_n 0, 1) := by decide +kernel
theorem dX5_nextToken_98 : decode prog_7_method_5_code 98 = .ok (.getfield 60, 3) := by decide +kernel
theorem dX5_nextToken_101 : decode prog_7_method_5_code 101 = .ok (.iconst 3, 1) := by decide +kernel
theorem dX5_nextToken_102 : decode prog_7_method_5_code 102 = .ok (.if_icmp .eq 46, 3) := by decide +kernel
theorem dX5_nextToken_105 : decode prog_7_method_5_code 105 = .ok (.aload_n 0, 1) := by decide +kernel
theorem dX5_nextToken_106 : decode prog_7_method_5_code 106 = .ok (.getfield 47, 3) := by decide +kernel
theorem dX5_nextToken_109 : decode prog_7_method_5_code 109 = .ok (.aload_n 0, 1) := by decide +kernel
theorem dX5_nextToken_110 : decode prog_7_method_5_code 110 = .ok (.getfield 20, 3) := by decide +kernel
theorem dX5_nextToken_113 : decode prog_7_method_5_code 113 = .ok (.if_icmp .ge 35, 3) := by decide +kernel
theorem dX5_nextToken_116 : decode prog_7_method_5_code 116 = .ok (.aload_n 0, 1) := by decide +kernel
theorem dX5_nextToken_117 : decode prog_7_method_5_code 117 = .ok (.getfield 11, 3) := by decide +kernel
theorem dX5_nextToken_120 : decode prog_7_method_5_code 120 = .ok (.aload_n 0, 1) := by decide +kernel
theorem dX5_nextToken_121 : decode prog_7_method_5_code 121 = .ok (.getfield 47, 3) := by decide +kernel
theorem dX5_nextToken_124 : decode prog_7_method_5_code 124 = .ok (.iaload, 1) := by decide +kernel
theorem dX5_nextToken_125 : decode prog_7_method_5_code 125 = .ok (.invokestatic 63, 3) := by decide +kernel
theorem dX5_nextToken_128 : decode prog_7_method_5_code 128 = .ok (.aload_n 0, 1) := by decide +kernel
theorem dX5_nextToken_129 : decode prog_7_method_5_code 129 = .ok (.getfield 60, 3) := by decide +kernel
theorem dX5_nextToken_132 : decode prog_7_method_5_code 132 = .ok (.if_icmp .ne 16, 3) := by decide +kernel
theorem dX5_nextToken_135 : decode prog_7_method_5_code 135 = .ok (.aload_n 0, 1) := by decide +kernel
theorem dX5_nextToken_136 : decode prog_7_method_5_code 136 = .ok (.dup, 1) := by decide +kernel
theorem dX5_nextToken_137 : decode prog_7_method_5_code 137 = .ok (.getfield 47, 3) := by decide +kernel
theorem dX5_nextToken_140 : decode prog_7_method_5_code 140 = .ok (.iconst 1, 1) := by decide +kernel
theorem dX5_nextToken_141 : decode prog_7_method_5_code 141 = .ok (.iadd, 1) := by decide +kernel
theorem dX5_nextToken_142 : decode prog_7_method_5_code 142 = .ok (.putfield 47, 3) := by decide +kernel
theorem dX5_nextToken_145 : decode prog_7_method_5_code 145 = .ok (.goto (-48), 3) := by decide +kernel
theorem dX5_nextToken_148 : decode prog_7_method_5_code 148 = .ok (.return_, 1) := by decide +kernel
theorem dX5_sortOf_0 : decode prog_7_method_6_code 0 = .ok (.iload_n 0, 1) := by decide +kernel
theorem dX5_sortOf_1 : decode prog_7_method_6_code 1 = .ok (.bipush 97, 2) := by decide +kernel
theorem dX5_sortOf_3 : decode prog_7_method_6_code 3 = .ok (.if_icmp .lt 11, 3) := by decide +kernel
theorem dX5_sortOf_6 : decode prog_7_method_6_code 6 = .ok (.iload_n 0, 1) := by decide +kernel
theorem dX5_sortOf_7 : decode prog_7_method_6_code 7 = .ok (.bipush 122, 2) := by decide +kernel
theorem dX5_sortOf_9 : decode prog_7_method_6_code 9 = .ok (.if_icmp .gt 5, 3) := by decide +kernel
theorem dX5_sortOf_12 : decode prog_7_method_6_code 12 = .ok (.iconst 1, 1) := by decide +kernel
theorem dX5_sortOf_13 : decode prog_7_method_6_code 13 = .ok (.ireturn, 1) := by decide +kernel
theorem dX5_sortOf_14 : decode prog_7_method_6_code 14 = .ok (.iload_n 0, 1) := by decide +kernel
theorem dX5_sortOf_15 : decode prog_7_method_6_code 15 = .ok (.bipush 48, 2) := by decide +kernel
theorem dX5_sortOf_17 : decode prog_7_method_6_code 17 = .ok (.if_icmp .lt 13, 3) := by decide +kernel
theorem dX5_sortOf_20 : decode prog_7_method_6_code 20 = .ok (.iload_n 0, 1) := by decide +kernel
theorem dX5_sortOf_21 : decode prog_7_method_6_code 21 = .ok (.bipush 57, 2) := by decide +kernel
theorem dX5_sortOf_23 : decode prog_7_method_6_code 23 = .ok (.if_icmp .gt 7, 3) := by decide +kernel
theorem dX5_sortOf_26 : decode prog_7_method_6_code 26 = .ok (.iconst 2, 1) := by decide +kernel
theorem dX5_sortOf_27 : decode prog_7_method_6_code 27 = .ok (.goto 4, 3) := by decide +kernel
theorem dX5_sortOf_30 : decode prog_7_method_6_code 30 = .ok (.iconst 3, 1) := by decide +kernel
theorem dX5_sortOf_31 : decode prog_7_method_6_code 31 = .ok (.ireturn, 1) := by decide +kernel
theorem dX5_readClause_0 : decode prog_7_method_7_code 0 = .ok (.aload_n 0, 1) := by decide +kernel
theorem dX5_readClause_1 : decode prog_7_method_7_code 1 = .ok (.invokevirtual 67, 3) := by decide +kernel
theorem dX5_readClause_4 : decode prog_7_method_7_code 4 = .ok (.istore_n 2, 1) := by decide +kernel
theorem dX5_readClause_5 : decode prog_7_method_7_code 5 = .ok (.iload_n 2, 1) := by decide +kernel
theorem dX5_readClause_6 : decode prog_7_method_7_code 6 = .ok (.iconst (-1), 1) := by decide +kernel
theorem dX5_readClause_7 : decode prog_7_method_7_code 7 = .ok (.if_icmp .eq 11, 3) := by decide +kernel
theorem dX5_readClause_10 : decode prog_7_method_7_code 10 = .ok (.aload_n 0, 1) := by decide +kernel
theorem dX5_readClause_11 : decode prog_7_method_7_code 11 = .ok (.iload_n 2, 1) := by decide +kernel
theorem dX5_readClause_12 : decode prog_7_method_7_code 12 = .ok (.invokevirtual 71, 3) := by decide +kernel
theorem dX5_readClause_15 : decode prog_7_method_7_code 15 = .ok (.ifCond .ne 5, 3) := by decide +kernel
theorem dX5_readClause_18 : decode prog_7_method_7_code 18 = .ok (.iconst 0, 1) := by decide +kernel
theorem dX5_readClause_19 : decode prog_7_method_7_code 19 = .ok (.ireturn, 1) := by decide +kernel
theorem dX5_readClause_20 : decode prog_7_method_7_code 20 = .ok (.aload_n 1, 1) := by decide +kernel
theorem dX5_readClause_21 : decode prog_7_method_7_code 21 = .ok (.iconst 0, 1) := by decide +kernel
theorem dX5_readClause_22 : decode prog_7_method_7_code 22 = .ok (.iload_n 2, 1) := by decide +kernel
theorem dX5_readClause_23 : decode prog_7_method_7_code 23 = .ok (.iastore, 1) := by decide +kernel
theorem dX5_readClause_24 : decode prog_7_method_7_code 24 = .ok (.iload_n 2, 1) := by decide +kernel
theorem dX5_readClause_25 : decode prog_7_method_7_code 25 = .ok (.invokestatic 75, 3) := by decide +kernel
theorem dX5_readClause_28 : decode prog_7_method_7_code 28 = .ok (.astore_n 3, 1) := by decide +kernel
theorem dX5_readClause_29 : decode prog_7_method_7_code 29 = .ok (.iconst 0, 1) := by decide +kernel
theorem dX5_readClause_30 : decode prog_7_method_7_code 30 = .ok (.istore 4, 2) := by decide +kernel
theorem dX5_readClause_32 : decode prog_7_method_7_code 32 = .ok (.iload 4, 2) := by decide +kernel
theorem dX5_readClause_34 : decode prog_7_method_7_code 34 = .ok (.aload_n 3, 1) := by decide +kernel
theorem dX5_readClause_35 : decode prog_7_method_7_code 35 = .ok (.invokevirtual 79, 3) := by decide +kernel
theorem dX5_readClause_38 : decode prog_7_method_7_code 38 = .ok (.if_icmp .ge 59, 3) := by decide +kernel
theorem dX5_readClause_41 : decode prog_7_method_7_code 41 = .ok (.iload 4, 2) := by decide +kernel
theorem dX5_readClause_43 : decode prog_7_method_7_code 43 = .ok (.iconst 1, 1) := by decide +kernel
theorem dX5_readClause_44 : decode prog_7_method_7_code 44 = .ok (.iadd, 1) := by decide +kernel
theorem dX5_readClause_45 : decode prog_7_method_7_code 45 = .ok (.aload_n 1, 1) := by decide +kernel
theorem dX5_readClause_46 : decode prog_7_method_7_code 46 = .ok (.arraylength, 1) := by decide +kernel
theorem dX5_readClause_47 : decode prog_7_method_7_code 47 = .ok (.if_icmp .ge 50, 3) := by decide +kernel
theorem dX5_readClause_50 : decode prog_7_method_7_code 50 = .ok (.aload_n 0, 1) := by decide +kernel
theorem dX5_readClause_51 : decode prog_7_method_7_code 51 = .ok (.invokevirtual 50, 3) := by decide +kernel
theorem dX5_readClause_54 : decode prog_7_method_7_code 54 = .ok (.aload_n 0, 1) := by decide +kernel
theorem dX5_readClause_55 : decode prog_7_method_7_code 55 = .ok (.invokevirtual 83, 3) := by decide +kernel
theorem dX5_readClause_58 : decode prog_7_method_7_code 58 = .ok (.istore 5, 2) := by decide +kernel
theorem dX5_readClause_60 : decode prog_7_method_7_code 60 = .ok (.iload 5, 2) := by decide +kernel
theorem dX5_readClause_62 : decode prog_7_method_7_code 62 = .ok (.iconst (-1), 1) := by decide +kernel
theorem dX5_readClause_63 : decode prog_7_method_7_code 63 = .ok (.if_icmp .eq 18, 3) := by decide +kernel
theorem dX5_readClause_66 : decode prog_7_method_7_code 66 = .ok (.iload 5, 2) := by decide +kernel
theorem dX5_readClause_68 : decode prog_7_method_7_code 68 = .ok (.aload_n 0, 1) := by decide +kernel
theorem dX5_readClause_69 : decode prog_7_method_7_code 69 = .ok (.aload_n 3, 1) := by decide +kernel
theorem dX5_readClause_70 : decode prog_7_method_7_code 70 = .ok (.iload 4, 2) := by decide +kernel
theorem dX5_readClause_72 : decode prog_7_method_7_code 72 = .ok (.invokevirtual 86, 3) := by decide +kernel
theorem dX5_readClause_75 : decode prog_7_method_7_code 75 = .ok (.invokevirtual 90, 3) := by decide +kernel
theorem dX5_readClause_78 : decode prog_7_method_7_code 78 = .ok (.if_icmp .le 5, 3) := by decide +kernel
theorem dX5_readClause_81 : decode prog_7_method_7_code 81 = .ok (.iconst 0, 1) := by decide +kernel
theorem dX5_readClause_82 : decode prog_7_method_7_code 82 = .ok (.ireturn, 1) := by decide +kernel
theorem dX5_readClause_83 : decode prog_7_method_7_code 83 = .ok (.aload_n 1, 1) := by decide +kernel
theorem dX5_readClause_84 : decode prog_7_method_7_code 84 = .ok (.iload 4, 2) := by decide +kernel
theorem dX5_readClause_86 : decode prog_7_method_7_code 86 = .ok (.iconst 1, 1) := by decide +kernel
theorem dX5_readClause_87 : decode prog_7_method_7_code 87 = .ok (.iadd, 1) := by decide +kernel
theorem dX5_readClause_88 : decode prog_7_method_7_code 88 = .ok (.iload 5, 2) := by decide +kernel
theorem dX5_readClause_90 : decode prog_7_method_7_code 90 = .ok (.iastore, 1) := by decide +kernel
theorem dX5_readClause_91 : decode prog_7_method_7_code 91 = .ok (.iinc 4 1, 3) := by decide +kernel
theorem dX5_readClause_94 : decode prog_7_method_7_code 94 = .ok (.goto (-62), 3) := by decide +kernel
theorem dX5_readClause_97 : decode prog_7_method_7_code 97 = .ok (.aload_n 0, 1) := by decide +kernel
theorem dX5_readClause_98 : decode prog_7_method_7_code 98 = .ok (.iload_n 2, 1) := by decide +kernel
theorem dX5_readClause_99 : decode prog_7_method_7_code 99 = .ok (.invokevirtual 94, 3) := by decide +kernel
theorem dX5_readClause_102 : decode prog_7_method_7_code 102 = .ok (.iconst 1, 1) := by decide +kernel
theorem dX5_readClause_103 : decode prog_7_method_7_code 103 = .ok (.ireturn, 1) := by decide +kernel
theorem dX5_wordOfToken_0 : decode prog_7_method_8_code 0 = .ok (.aload_n 0, 1) := by decide +kernel
theorem dX5_wordOfToken_1 : decode prog_7_method_8_code 1 = .ok (.getfield 60, 3) := by decide +kernel
theorem dX5_wordOfToken_4 : decode prog_7_method_8_code 4 = .ok (.iconst 1, 1) := by decide +kernel
theorem dX5_wordOfToken_5 : decode prog_7_method_8_code 5 = .ok (.if_icmp .eq 5, 3) := by decide +kernel
theorem dX5_wordOfToken_8 : decode prog_7_method_8_code 8 = .ok (.iconst (-1), 1) := by decide +kernel
theorem dX5_wordOfToken_9 : decode prog_7_method_8_code 9 = .ok (.ireturn, 1) := by decide +kernel
theorem dX5_wordOfToken_10 : decode prog_7_method_8_code 10 = .ok (.iconst 0, 1) := by decide +kernel
theorem dX5_wordOfToken_11 : decode prog_7_method_8_code 11 = .ok (.istore_n 1, 1) := by decide +kernel
theorem dX5_wordOfToken_12 : decode prog_7_method_8_code 12 = .ok (.iload_n 1, 1) := by decide +kernel
theorem dX5_wordOfToken_13 : decode prog_7_method_8_code 13 = .ok (.bipush 9, 2) := by decide +kernel
theorem dX5_wordOfToken_15 : decode prog_7_method_8_code 15 = .ok (.if_icmp .ge 22, 3) := by decide +kernel
theorem dX5_wordOfToken_18 : decode prog_7_method_8_code 18 = .ok (.aload_n 0, 1) := by decide +kernel
theorem dX5_wordOfToken_19 : decode prog_7_method_8_code 19 = .ok (.iload_n 1, 1) := by decide +kernel
theorem dX5_wordOfToken_20 : decode prog_7_method_8_code 20 = .ok (.invokestatic 98, 3) := by decide +kernel
theorem dX5_wordOfToken_23 : decode prog_7_method_8_code 23 = .ok (.invokevirtual 101, 3) := by decide +kernel
theorem dX5_wordOfToken_26 : decode prog_7_method_8_code 26 = .ok (.ifCond .eq 5, 3) := by decide +kernel
theorem dX5_wordOfToken_29 : decode prog_7_method_8_code 29 = .ok (.iload_n 1, 1) := by decide +kernel
theorem dX5_wordOfToken_30 : decode prog_7_method_8_code 30 = .ok (.ireturn, 1) := by decide +kernel
theorem dX5_wordOfToken_31 : decode prog_7_method_8_code 31 = .ok (.iinc 1 1, 3) := by decide +kernel
theorem dX5_wordOfToken_34 : decode prog_7_method_8_code 34 = .ok (.goto (-22), 3) := by decide +kernel
theorem dX5_wordOfToken_37 : decode prog_7_method_8_code 37 = .ok (.iconst (-1), 1) := by decide +kernel
theorem dX5_wordOfToken_38 : decode prog_7_method_8_code 38 = .ok (.ireturn, 1) := by decide +kernel
theorem dX5_isToken_0 : decode prog_7_method_9_code 0 = .ok (.aload_n 1, 1) := by decide +kernel
theorem dX5_isToken_1 : decode prog_7_method_9_code 1 = .ok (.invokevirtual 79, 3) := by decide +kernel
theorem dX5_isToken_4 : decode prog_7_method_9_code 4 = .ok (.aload_n 0, 1) := by decide +kernel
theorem dX5_isToken_5 : decode prog_7_method_9_code 5 = .ok (.getfield 47, 3) := by decide +kernel
theorem dX5_isToken_8 : decode prog_7_method_9_code 8 = .ok (.aload_n 0, 1) := by decide +kernel
theorem dX5_isToken_9 : decode prog_7_method_9_code 9 = .ok (.getfield 57, 3) := by decide +kernel
theorem dX5_isToken_12 : decode prog_7_method_9_code 12 = .ok (.isub, 1) := by decide +kernel
theorem dX5_isToken_13 : decode prog_7_method_9_code 13 = .ok (.if_icmp .eq 5, 3) := by decide +kernel
theorem dX5_isToken_16 : decode prog_7_method_9_code 16 = .ok (.iconst 0, 1) := by decide +kernel
theorem dX5_isToken_17 : decode prog_7_method_9_code 17 = .ok (.ireturn, 1) := by decide +kernel
theorem dX5_isToken_18 : decode prog_7_method_9_code 18 = .ok (.iconst 0, 1) := by decide +kernel
theorem dX5_isToken_19 : decode prog_7_method_9_code 19 = .ok (.istore_n 2, 1) := by decide +kernel
theorem dX5_isToken_20 : decode prog_7_method_9_code 20 = .ok (.iload_n 2, 1) := by decide +kernel
theorem dX5_isToken_21 : decode prog_7_method_9_code 21 = .ok (.aload_n 1, 1) := by decide +kernel
theorem dX5_isToken_22 : decode prog_7_method_9_code 22 = .ok (.invokevirtual 79, 3) := by decide +kernel
theorem dX5_isToken_25 : decode prog_7_method_9_code 25 = .ok (.if_icmp .ge 30, 3) := by decide +kernel
theorem dX5_isToken_28 : decode prog_7_method_9_code 28 = .ok (.aload_n 1, 1) := by decide +kernel
theorem dX5_isToken_29 : decode prog_7_method_9_code 29 = .ok (.iload_n 2, 1) := by decide +kernel
theorem dX5_isToken_30 : decode prog_7_method_9_code 30 = .ok (.invokevirtual 86, 3) := by decide +kernel
theorem dX5_isToken_33 : decode prog_7_method_9_code 33 = .ok (.aload_n 0, 1) := by decide +kernel
theorem dX5_isToken_34 : decode prog_7_method_9_code 34 = .ok (.getfield 11, 3) := by decide +kernel
theorem dX5_isToken_37 : decode prog_7_method_9_code 37 = .ok (.aload_n 0, 1) := by decide +kernel
theorem dX5_isToken_38 : decode prog_7_method_9_code 38 = .ok (.getfield 57, 3) := by decide +kernel
theorem dX5_isToken_41 : decode prog_7_method_9_code 41 = .ok (.iload_n 2, 1) := by decide +kernel
theorem dX5_isToken_42 : decode prog_7_method_9_code 42 = .ok (.iadd, 1) := by decide +kernel
theorem dX5_isToken_43 : decode prog_7_method_9_code 43 = .ok (.iaload, 1) := by decide +kernel
theorem dX5_isToken_44 : decode prog_7_method_9_code 44 = .ok (.if_icmp .eq 5, 3) := by decide +kernel
theorem dX5_isToken_47 : decode prog_7_method_9_code 47 = .ok (.iconst 0, 1) := by decide +kernel
theorem dX5_isToken_48 : decode prog_7_method_9_code 48 = .ok (.ireturn, 1) := by decide +kernel
theorem dX5_isToken_49 : decode prog_7_method_9_code 49 = .ok (.iinc 2 1, 3) := by decide +kernel
theorem dX5_isToken_52 : decode prog_7_method_9_code 52 = .ok (.goto (-32), 3) := by decide +kernel
theorem dX5_isToken_55 : decode prog_7_method_9_code 55 = .ok (.iconst 1, 1) := by decide +kernel
theorem dX5_isToken_56 : decode prog_7_method_9_code 56 = .ok (.ireturn, 1) := by decide +kernel
theorem dX5_numberOfToken_0 : decode prog_7_method_10_code 0 = .ok (.aload_n 0, 1) := by decide +kernel
theorem dX5_numberOfToken_1 : decode prog_7_method_10_code 1 = .ok (.getfield 60, 3) := by decide +kernel
theorem dX5_numberOfToken_4 : decode prog_7_method_10_code 4 = .ok (.iconst 2, 1) := by decide +kernel
theorem dX5_numberOfToken_5 : decode prog_7_method_10_code 5 = .ok (.if_icmp .ne 16, 3) := by decide +kernel
theorem dX5_numberOfToken_8 : decode prog_7_method_10_code 8 = .ok (.aload_n 0, 1) := by decide +kernel
theorem dX5_numberOfToken_9 : decode prog_7_method_10_code 9 = .ok (.getfield 47, 3) := by decide +kernel
theorem dX5_numberOfToken_12 : decode prog_7_method_10_code 12 = .ok (.aload_n 0, 1) := by decide +kernel
theorem dX5_numberOfToken_13 : decode prog_7_method_10_code 13 = .ok (.getfield 57, 3) := by decide +kernel
theorem dX5_numberOfToken_16 : decode prog_7_method_10_code 16 = .ok (.isub, 1) := by decide +kernel
theorem dX5_numberOfToken_17 : decode prog_7_method_10_code 17 = .ok (.iconst 2, 1) := by decide +kernel
theorem dX5_numberOfToken_18 : decode prog_7_method_10_code 18 = .ok (.if_icmp .le 5, 3) := by decide +kernel
theorem dX5_numberOfToken_21 : decode prog_7_method_10_code 21 = .ok (.iconst (-1), 1) := by decide +kernel
theorem dX5_numberOfToken_22 : decode prog_7_method_10_code 22 = .ok (.ireturn, 1) := by decide +kernel
theorem dX5_numberOfToken_23 : decode prog_7_method_10_code 23 = .ok (.iconst 0, 1) := by decide +kernel
theorem dX5_numberOfToken_24 : decode prog_7_method_10_code 24 = .ok (.istore_n 1, 1) := by decide +kernel
theorem dX5_numberOfToken_25 : decode prog_7_method_10_code 25 = .ok (.aload_n 0, 1) := by decide +kernel
theorem dX5_numberOfToken_26 : decode prog_7_method_10_code 26 = .ok (.getfield 57, 3) := by decide +kernel
theorem dX5_numberOfToken_29 : decode prog_7_method_10_code 29 = .ok (.istore_n 2, 1) := by decide +kernel
theorem dX5_numberOfToken_30 : decode prog_7_method_10_code 30 = .ok (.iload_n 2, 1) := by decide +kernel
theorem dX5_numberOfToken_31 : decode prog_7_method_10_code 31 = .ok (.aload_n 0, 1) := by decide +kernel
theorem dX5_numberOfToken_32 : decode prog_7_method_10_code 32 = .ok (.getfield 47, 3) := by decide +kernel
theorem dX5_numberOfToken_35 : decode prog_7_method_10_code 35 = .ok (.if_icmp .ge 24, 3) := by decide +kernel
theorem dX5_numberOfToken_38 : decode prog_7_method_10_code 38 = .ok (.bipush 10, 2) := by decide +kernel
theorem dX5_numberOfToken_40 : decode prog_7_method_10_code 40 = .ok (.iload_n 1, 1) := by decide +kernel
theorem dX5_numberOfToken_41 : decode prog_7_method_10_code 41 = .ok (.imul, 1) := by decide +kernel
theorem dX5_numberOfToken_42 : decode prog_7_method_10_code 42 = .ok (.aload_n 0, 1) := by decide +kernel
theorem dX5_numberOfToken_43 : decode prog_7_method_10_code 43 = .ok (.getfield 11, 3) := by decide +kernel
theorem dX5_numberOfToken_46 : decode prog_7_method_10_code 46 = .ok (.iload_n 2, 1) := by decide +kernel
theorem dX5_numberOfToken_47 : decode prog_7_method_10_code 47 = .ok (.iaload, 1) := by decide +kernel
theorem dX5_numberOfToken_48 : decode prog_7_method_10_code 48 = .ok (.iadd, 1) := by decide +kernel
theorem dX5_numberOfToken_49 : decode prog_7_method_10_code 49 = .ok (.bipush 48, 2) := by decide +kernel
theorem dX5_numberOfToken_51 : decode prog_7_method_10_code 51 = .ok (.isub, 1) := by decide +kernel
theorem dX5_numberOfToken_52 : decode prog_7_method_10_code 52 = .ok (.istore_n 1, 1) := by decide +kernel
theorem dX5_numberOfToken_53 : decode prog_7_method_10_code 53 = .ok (.iinc 2 1, 3) := by decide +kernel
theorem dX5_numberOfToken_56 : decode prog_7_method_10_code 56 = .ok (.goto (-26), 3) := by decide +kernel
theorem dX5_numberOfToken_59 : decode prog_7_method_10_code 59 = .ok (.iload_n 1, 1) := by decide +kernel
theorem dX5_numberOfToken_60 : decode prog_7_method_10_code 60 = .ok (.ireturn, 1) := by decide +kernel
theorem dX5_textOf_0 : decode prog_7_method_11_code 0 = .ok (.iload_n 0, 1) := by decide +kernel
theorem dX5_textOf_1 : decode prog_7_method_11_code 1 = .ok (.tableswitch 71 0 7 #[47, 50, 53, 56, 59, 62, 65, 68], 47) := by decide +kernel
theorem dX5_textOf_48 : decode prog_7_method_11_code 48 = .ok (.ldc 105, 2) := by decide +kernel
theorem dX5_textOf_50 : decode prog_7_method_11_code 50 = .ok (.areturn, 1) := by decide +kernel
theorem dX5_textOf_51 : decode prog_7_method_11_code 51 = .ok (.ldc 107, 2) := by decide +kernel
theorem dX5_textOf_53 : decode prog_7_method_11_code 53 = .ok (.areturn, 1) := by decide +kernel
theorem dX5_textOf_54 : decode prog_7_method_11_code 54 = .ok (.ldc 109, 2) := by decide +kernel
theorem dX5_textOf_56 : decode prog_7_method_11_code 56 = .ok (.areturn, 1) := by decide +kernel
theorem dX5_textOf_57 : decode prog_7_method_11_code 57 = .ok (.ldc 111, 2) := by decide +kernel
theorem dX5_textOf_59 : decode prog_7_method_11_code 59 = .ok (.areturn, 1) := by decide +kernel
theorem dX5_textOf_60 : decode prog_7_method_11_code 60 = .ok (.ldc 113, 2) := by decide +kernel
theorem dX5_textOf_62 : decode prog_7_method_11_code 62 = .ok (.areturn, 1) := by decide +kernel
theorem dX5_textOf_63 : decode prog_7_method_11_code 63 = .ok (.ldc 115, 2) := by decide +kernel
theorem dX5_textOf_65 : decode prog_7_method_11_code 65 = .ok (.areturn, 1) := by decide +kernel
theorem dX5_textOf_66 : decode prog_7_method_11_code 66 = .ok (.ldc 117, 2) := by decide +kernel
theorem dX5_textOf_68 : decode prog_7_method_11_code 68 = .ok (.areturn, 1) := by decide +kernel
theorem dX5_textOf_69 : decode prog_7_method_11_code 69 = .ok (.ldc 119, 2) := by decide +kernel
theorem dX5_textOf_71 : decode prog_7_method_11_code 71 = .ok (.areturn, 1) := by decide +kernel
theorem dX5_textOf_72 : decode prog_7_method_11_code 72 = .ok (.ldc 121, 2) := by decide +kernel
theorem dX5_textOf_74 : decode prog_7_method_11_code 74 = .ok (.areturn, 1) := by decide +kernel
theorem dX5_numbersOf_0 : decode prog_7_method_12_code 0 = .ok (.iload_n 0, 1) := by decide +kernel
theorem dX5_numbersOf_1 : decode prog_7_method_12_code 1 = .ok (.tableswitch 60 0 8 #[51, 54, 54, 60, 60, 57, 60, 60, 51], 51) := by decide +kernel
theorem dX5_numbersOf_52 : decode prog_7_method_12_code 52 = .ok (.ldc 123, 2) := by decide +kernel
theorem dX5_numbersOf_54 : decode prog_7_method_12_code 54 = .ok (.areturn, 1) := by decide +kernel
theorem dX5_numbersOf_55 : decode prog_7_method_12_code 55 = .ok (.ldc 125, 2) := by decide +kernel
theorem dX5_numbersOf_57 : decode prog_7_method_12_code 57 = .ok (.areturn, 1) := by decide +kernel
theorem dX5_numbersOf_58 : decode prog_7_method_12_code 58 = .ok (.ldc 127, 2) := by decide +kernel
theorem dX5_numbersOf_60 : decode prog_7_method_12_code 60 = .ok (.areturn, 1) := by decide +kernel
theorem dX5_numbersOf_61 : decode prog_7_method_12_code 61 = .ok (.ldc 129, 2) := by decide +kernel
theorem dX5_numbersOf_63 : decode prog_7_method_12_code 63 = .ok (.areturn, 1) := by decide +kernel
theorem dX5_mostOf_0 : decode prog_7_method_13_code 0 = .ok (.iload_n 1, 1) := by decide +kernel
theorem dX5_mostOf_1 : decode prog_7_method_13_code 1 = .ok (.lookupswitch 42 #[(98, 38), (100, 40), (118, 35)], 35) := by decide +kernel
theorem dX5_mostOf_36 : decode prog_7_method_13_code 36 = .ok (.bipush 40, 2) := by decide +kernel
theorem dX5_mostOf_38 : decode prog_7_method_13_code 38 = .ok (.ireturn, 1) := by decide +kernel
theorem dX5_mostOf_39 : decode prog_7_method_13_code 39 = .ok (.iconst 1, 1) := by decide +kernel
theorem dX5_mostOf_40 : decode prog_7_method_13_code 40 = .ok (.ireturn, 1) := by decide +kernel
theorem dX5_mostOf_41 : decode prog_7_method_13_code 41 = .ok (.iconst 3, 1) := by decide +kernel
theorem dX5_mostOf_42 : decode prog_7_method_13_code 42 = .ok (.ireturn, 1) := by decide +kernel
theorem dX5_mostOf_43 : decode prog_7_method_13_code 43 = .ok (.aload_n 0, 1) := by decide +kernel
theorem dX5_mostOf_44 : decode prog_7_method_13_code 44 = .ok (.getfield 29, 3) := by decide +kernel
theorem dX5_mostOf_47 : decode prog_7_method_13_code 47 = .ok (.iconst 1, 1) := by decide +kernel
theorem dX5_mostOf_48 : decode prog_7_method_13_code 48 = .ok (.isub, 1) := by decide +kernel
theorem dX5_mostOf_49 : decode prog_7_method_13_code 49 = .ok (.ireturn, 1) := by decide +kernel
theorem dX5_hasRoomFor_0 : decode prog_7_method_14_code 0 = .ok (.iload_n 1, 1) := by decide +kernel
theorem dX5_hasRoomFor_1 : decode prog_7_method_14_code 1 = .ok (.ifCond .eq 9, 3) := by decide +kernel
theorem dX5_hasRoomFor_4 : decode prog_7_method_14_code 4 = .ok (.iload_n 1, 1) := by decide +kernel
theorem dX5_hasRoomFor_5 : decode prog_7_method_14_code 5 = .ok (.bipush 8, 2) := by decide +kernel
theorem dX5_hasRoomFor_7 : decode prog_7_method_14_code 7 = .ok (.if_icmp .ne 5, 3) := by decide +kernel
theorem dX5_hasRoomFor_10 : decode prog_7_method_14_code 10 = .ok (.iconst 1, 1) := by decide +kernel
theorem dX5_hasRoomFor_11 : decode prog_7_method_14_code 11 = .ok (.ireturn, 1) := by decide +kernel
theorem dX5_hasRoomFor_12 : decode prog_7_method_14_code 12 = .ok (.iload_n 1, 1) := by decide +kernel
theorem dX5_hasRoomFor_13 : decode prog_7_method_14_code 13 = .ok (.invokestatic 131, 3) := by decide +kernel
theorem dX5_hasRoomFor_16 : decode prog_7_method_14_code 16 = .ok (.ifCond .eq 18, 3) := by decide +kernel
theorem dX5_hasRoomFor_19 : decode prog_7_method_14_code 19 = .ok (.aload_n 0, 1) := by decide +kernel
theorem dX5_hasRoomFor_20 : decode prog_7_method_14_code 20 = .ok (.getfield 29, 3) := by decide +kernel
theorem dX5_hasRoomFor_23 : decode prog_7_method_14_code 23 = .ok (.bipush 6, 2) := by decide +kernel
theorem dX5_hasRoomFor_25 : decode prog_7_method_14_code 25 = .ok (.if_icmp .ge 7, 3) := by decide +kernel
theorem dX5_hasRoomFor_28 : decode prog_7_method_14_code 28 = .ok (.iconst 1, 1) := by decide +kernel
theorem dX5_hasRoomFor_29 : decode prog_7_method_14_code 29 = .ok (.goto 4, 3) := by decide +kernel
theorem dX5_hasRoomFor_32 : decode prog_7_method_14_code 32 = .ok (.iconst 0, 1) := by decide +kernel
theorem dX5_hasRoomFor_33 : decode prog_7_method_14_code 33 = .ok (.ireturn, 1) := by decide +kernel
theorem dX5_hasRoomFor_34 : decode prog_7_method_14_code 34 = .ok (.iload_n 1, 1) := by decide +kernel
theorem dX5_hasRoomFor_35 : decode prog_7_method_14_code 35 = .ok (.bipush 7, 2) := by decide +kernel
theorem dX5_hasRoomFor_37 : decode prog_7_method_14_code 37 = .ok (.if_icmp .ne 20, 3) := by decide +kernel
theorem dX5_hasRoomFor_40 : decode prog_7_method_14_code 40 = .ok (.aload_n 0, 1) := by decide +kernel
theorem dX5_hasRoomFor_41 : decode prog_7_method_14_code 41 = .ok (.getfield 41, 3) := by decide +kernel
theorem dX5_hasRoomFor_44 : decode prog_7_method_14_code 44 = .ok (.bipush 6, 2) := by decide +kernel
theorem dX5_hasRoomFor_46 : decode prog_7_method_14_code 46 = .ok (.if_icmp .ge 7, 3) := by decide +kernel
theorem dX5_hasRoomFor_49 : decode prog_7_method_14_code 49 = .ok (.iconst 1, 1) := by decide +kernel
theorem dX5_hasRoomFor_50 : decode prog_7_method_14_code 50 = .ok (.goto 20, 3) := by decide +kernel
theorem dX5_hasRoomFor_53 : decode prog_7_method_14_code 53 = .ok (.iconst 0, 1) := by decide +kernel
theorem dX5_hasRoomFor_54 : decode prog_7_method_14_code 54 = .ok (.goto 16, 3) := by decide +kernel
theorem dX5_hasRoomFor_57 : decode prog_7_method_14_code 57 = .ok (.aload_n 0, 1) := by decide +kernel
theorem dX5_hasRoomFor_58 : decode prog_7_method_14_code 58 = .ok (.getfield 35, 3) := by decide +kernel
theorem dX5_hasRoomFor_61 : decode prog_7_method_14_code 61 = .ok (.iconst 5, 1) := by decide +kernel
theorem dX5_hasRoomFor_62 : decode prog_7_method_14_code 62 = .ok (.if_icmp .ge 7, 3) := by decide +kernel
theorem dX5_hasRoomFor_65 : decode prog_7_method_14_code 65 = .ok (.iconst 1, 1) := by decide +kernel
theorem dX5_hasRoomFor_66 : decode prog_7_method_14_code 66 = .ok (.goto 4, 3) := by decide +kernel
theorem dX5_hasRoomFor_69 : decode prog_7_method_14_code 69 = .ok (.iconst 0, 1) := by decide +kernel
theorem dX5_hasRoomFor_70 : decode prog_7_method_14_code 70 = .ok (.ireturn, 1) := by decide +kernel
theorem dX5_countIn_0 : decode prog_7_method_15_code 0 = .ok (.iload_n 1, 1) := by decide +kernel
theorem dX5_countIn_1 : decode prog_7_method_15_code 1 = .ok (.ifCond .ne 21, 3) := by decide +kernel
theorem dX5_countIn_4 : decode prog_7_method_15_code 4 = .ok (.aload_n 0, 1) := by decide +kernel
theorem dX5_countIn_5 : decode prog_7_method_15_code 5 = .ok (.iconst 0, 1) := by decide +kernel
theorem dX5_countIn_6 : decode prog_7_method_15_code 6 = .ok (.putfield 29, 3) := by decide +kernel
theorem dX5_countIn_9 : decode prog_7_method_15_code 9 = .ok (.aload_n 0, 1) := by decide +kernel
theorem dX5_countIn_10 : decode prog_7_method_15_code 10 = .ok (.iconst 0, 1) := by decide +kernel
theorem dX5_countIn_11 : decode prog_7_method_15_code 11 = .ok (.putfield 35, 3) := by decide +kernel
theorem dX5_countIn_14 : decode prog_7_method_15_code 14 = .ok (.aload_n 0, 1) := by decide +kernel
theorem dX5_countIn_15 : decode prog_7_method_15_code 15 = .ok (.iconst 0, 1) := by decide +kernel
theorem dX5_countIn_16 : decode prog_7_method_15_code 16 = .ok (.putfield 41, 3) := by decide +kernel
theorem dX5_countIn_19 : decode prog_7_method_15_code 19 = .ok (.goto 66, 3) := by decide +kernel
theorem dX5_countIn_22 : decode prog_7_method_15_code 22 = .ok (.iload_n 1, 1) := by decide +kernel
theorem dX5_countIn_23 : decode prog_7_method_15_code 23 = .ok (.bipush 8, 2) := by decide +kernel
theorem dX5_countIn_25 : decode prog_7_method_15_code 25 = .ok (.if_icmp .ne 11, 3) := by decide +kernel
theorem dX5_countIn_28 : decode prog_7_method_15_code 28 = .ok (.aload_n 0, 1) := by decide +kernel
theorem dX5_countIn_29 : decode prog_7_method_15_code 29 = .ok (.iconst 0, 1) := by decide +kernel
theorem dX5_countIn_30 : decode prog_7_method_15_code 30 = .ok (.putfield 41, 3) := by decide +kernel
theorem dX5_countIn_33 : decode prog_7_method_15_code 33 = .ok (.goto 52, 3) := by decide +kernel
theorem dX5_countIn_36 : decode prog_7_method_15_code 36 = .ok (.iload_n 1, 1) := by decide +kernel
theorem dX5_countIn_37 : decode prog_7_method_15_code 37 = .ok (.bipush 7, 2) := by decide +kernel
theorem dX5_countIn_39 : decode prog_7_method_15_code 39 = .ok (.if_icmp .ne 16, 3) := by decide +kernel
theorem dX5_countIn_42 : decode prog_7_method_15_code 42 = .ok (.aload_n 0, 1) := by decide +kernel
theorem dX5_countIn_43 : decode prog_7_method_15_code 43 = .ok (.dup, 1) := by decide +kernel
theorem dX5_countIn_44 : decode prog_7_method_15_code 44 = .ok (.getfield 41, 3) := by decide +kernel
theorem dX5_countIn_47 : decode prog_7_method_15_code 47 = .ok (.iconst 1, 1) := by decide +kernel
theorem dX5_countIn_48 : decode prog_7_method_15_code 48 = .ok (.iadd, 1) := by decide +kernel
theorem dX5_countIn_49 : decode prog_7_method_15_code 49 = .ok (.putfield 41, 3) := by decide +kernel
theorem dX5_countIn_52 : decode prog_7_method_15_code 52 = .ok (.goto 33, 3) := by decide +kernel
theorem dX5_countIn_55 : decode prog_7_method_15_code 55 = .ok (.iload_n 1, 1) := by decide +kernel
theorem dX5_countIn_56 : decode prog_7_method_15_code 56 = .ok (.invokestatic 131, 3) := by decide +kernel
theorem dX5_countIn_59 : decode prog_7_method_15_code 59 = .ok (.ifCond .eq 16, 3) := by decide +kernel
theorem dX5_countIn_62 : decode prog_7_method_15_code 62 = .ok (.aload_n 0, 1) := by decide +kernel
theorem dX5_countIn_63 : decode prog_7_method_15_code 63 = .ok (.dup, 1) := by decide +kernel
theorem dX5_countIn_64 : decode prog_7_method_15_code 64 = .ok (.getfield 29, 3) := by decide +kernel
theorem dX5_countIn_67 : decode prog_7_method_15_code 67 = .ok (.iconst 1, 1) := by decide +kernel
theorem dX5_countIn_68 : decode prog_7_method_15_code 68 = .ok (.iadd, 1) := by decide +kernel
theorem dX5_countIn_69 : decode prog_7_method_15_code 69 = .ok (.putfield 29, 3) := by decide +kernel
theorem dX5_countIn_72 : decode prog_7_method_15_code 72 = .ok (.goto 13, 3) := by decide +kernel
theorem dX5_countIn_75 : decode prog_7_method_15_code 75 = .ok (.aload_n 0, 1) := by decide +kernel
theorem dX5_countIn_76 : decode prog_7_method_15_code 76 = .ok (.dup, 1) := by decide +kernel
theorem dX5_countIn_77 : decode prog_7_method_15_code 77 = .ok (.getfield 35, 3) := by decide +kernel
theorem dX5_countIn_80 : decode prog_7_method_15_code 80 = .ok (.iconst 1, 1) := by decide +kernel
theorem dX5_countIn_81 : decode prog_7_method_15_code 81 = .ok (.iadd, 1) := by decide +kernel
theorem dX5_countIn_82 : decode prog_7_method_15_code 82 = .ok (.putfield 35, 3) := by decide +kernel
theorem dX5_countIn_85 : decode prog_7_method_15_code 85 = .ok (.return_, 1) := by decide +kernel
theorem dX6_init_0 : decode prog_8_method_1_code 0 = .ok (.aload_n 0, 1) := by decide +kernel
theorem dX6_init_1 : decode prog_8_method_1_code 1 = .ok (.invokespecial 3, 3) := by decide +kernel
theorem dX6_init_4 : decode prog_8_method_1_code 4 = .ok (.aload_n 0, 1) := by decide +kernel
theorem dX6_init_5 : decode prog_8_method_1_code 5 = .ok (.iconst 4, 1) := by decide +kernel
theorem dX6_init_6 : decode prog_8_method_1_code 6 = .ok (.newarray .int, 2) := by decide +kernel
theorem dX6_init_8 : decode prog_8_method_1_code 8 = .ok (.putfield 9, 3) := by decide +kernel
theorem dX6_init_11 : decode prog_8_method_1_code 11 = .ok (.aload_n 0, 1) := by decide +kernel
theorem dX6_init_12 : decode prog_8_method_1_code 12 = .ok (.aload_n 1, 1) := by decide +kernel
theorem dX6_init_13 : decode prog_8_method_1_code 13 = .ok (.putfield 15, 3) := by decide +kernel
theorem dX6_init_16 : decode prog_8_method_1_code 16 = .ok (.aload_n 0, 1) := by decide +kernel
theorem dX6_init_17 : decode prog_8_method_1_code 17 = .ok (.aload_n 2, 1) := by decide +kernel
theorem dX6_init_18 : decode prog_8_method_1_code 18 = .ok (.putfield 19, 3) := by decide +kernel
theorem dX6_init_21 : decode prog_8_method_1_code 21 = .ok (.aload_n 0, 1) := by decide +kernel
theorem dX6_init_22 : decode prog_8_method_1_code 22 = .ok (.aload_n 3, 1) := by decide +kernel
theorem dX6_init_23 : decode prog_8_method_1_code 23 = .ok (.putfield 23, 3) := by decide +kernel
theorem dX6_init_26 : decode prog_8_method_1_code 26 = .ok (.return_, 1) := by decide +kernel
theorem dX6_seekBest_0 : decode prog_8_method_2_code 0 = .ok (.aload_n 0, 1) := by decide +kernel
theorem dX6_seekBest_1 : decode prog_8_method_2_code 1 = .ok (.getfield 19, 3) := by decide +kernel
theorem dX6_seekBest_4 : decode prog_8_method_2_code 4 = .ok (.iload_n 1, 1) := by decide +kernel
theorem dX6_seekBest_5 : decode prog_8_method_2_code 5 = .ok (.lload_n 2, 1) := by decide +kernel
theorem dX6_seekBest_6 : decode prog_8_method_2_code 6 = .ok (.invokevirtual 26, 3) := by decide +kernel
theorem dX6_seekBest_9 : decode prog_8_method_2_code 9 = .ok (.aload_n 0, 1) := by decide +kernel
theorem dX6_seekBest_10 : decode prog_8_method_2_code 10 = .ok (.aload_n 0, 1) := by decide +kernel
theorem dX6_seekBest_11 : decode prog_8_method_2_code 11 = .ok (.getfield 19, 3) := by decide +kernel
theorem dX6_seekBest_14 : decode prog_8_method_2_code 14 = .ok (.iconst 0, 1) := by decide +kernel
theorem dX6_seekBest_15 : decode prog_8_method_2_code 15 = .ok (.invokevirtual 32, 3) := by decide +kernel
theorem dX6_seekBest_18 : decode prog_8_method_2_code 18 = .ok (.putfield 36, 3) := by decide +kernel
theorem dX6_seekBest_21 : decode prog_8_method_2_code 21 = .ok (.aload_n 0, 1) := by decide +kernel
theorem dX6_seekBest_22 : decode prog_8_method_2_code 22 = .ok (.iconst (-1), 1) := by decide +kernel
theorem dX6_seekBest_23 : decode prog_8_method_2_code 23 = .ok (.putfield 40, 3) := by decide +kernel
theorem dX6_seekBest_26 : decode prog_8_method_2_code 26 = .ok (.aload_n 0, 1) := by decide +kernel
theorem dX6_seekBest_27 : decode prog_8_method_2_code 27 = .ok (.iconst 0, 1) := by decide +kernel
theorem dX6_seekBest_28 : decode prog_8_method_2_code 28 = .ok (.putfield 43, 3) := by decide +kernel
theorem dX6_seekBest_31 : decode prog_8_method_2_code 31 = .ok (.iconst 1, 1) := by decide +kernel
theorem dX6_seekBest_32 : decode prog_8_method_2_code 32 = .ok (.aload_n 0, 1) := by decide +kernel
theorem dX6_seekBest_33 : decode prog_8_method_2_code 33 = .ok (.getfield 15, 3) := by decide +kernel
theorem dX6_seekBest_36 : decode prog_8_method_2_code 36 = .ok (.getfield 46, 3) := by decide +kernel
theorem dX6_seekBest_39 : decode prog_8_method_2_code 39 = .ok (.ishl, 1) := by decide +kernel
theorem dX6_seekBest_40 : decode prog_8_method_2_code 40 = .ok (.istore 4, 2) := by decide +kernel
theorem dX6_seekBest_42 : decode prog_8_method_2_code 42 = .ok (.iconst 0, 1) := by decide +kernel
theorem dX6_seekBest_43 : decode prog_8_method_2_code 43 = .ok (.istore 5, 2) := by decide +kernel
theorem dX6_seekBest_45 : decode prog_8_method_2_code 45 = .ok (.iload 5, 2) := by decide +kernel
theorem dX6_seekBest_47 : decode prog_8_method_2_code 47 = .ok (.sipush 720, 3) := by decide +kernel
theorem dX6_seekBest_50 : decode prog_8_method_2_code 50 = .ok (.if_icmp .ge 105, 3) := by decide +kernel
theorem dX6_seekBest_53 : decode prog_8_method_2_code 53 = .ok (.aload_n 0, 1) := by decide +kernel
theorem dX6_seekBest_54 : decode prog_8_method_2_code 54 = .ok (.getfield 19, 3) := by decide +kernel
theorem dX6_seekBest_57 : decode prog_8_method_2_code 57 = .ok (.iload 5, 2) := by decide +kernel
theorem dX6_seekBest_59 : decode prog_8_method_2_code 59 = .ok (.invokevirtual 53, 3) := by decide +kernel
theorem dX6_seekBest_62 : decode prog_8_method_2_code 62 = .ok (.ifCond .ne 6, 3) := by decide +kernel
theorem dX6_seekBest_65 : decode prog_8_method_2_code 65 = .ok (.goto 84, 3) := by decide +kernel
theorem dX6_seekBest_68 : decode prog_8_method_2_code 68 = .ok (.aload_n 0, 1) := by decide +kernel
theorem dX6_seekBest_69 : decode prog_8_method_2_code 69 = .ok (.getfield 19, 3) := by decide +kernel
theorem dX6_seekBest_72 : decode prog_8_method_2_code 72 = .ok (.invokevirtual 57, 3) := by decide +kernel
theorem dX6_seekBest_75 : decode prog_8_method_2_code 75 = .ok (.iconst 1, 1) := by decide +kernel
theorem dX6_seekBest_76 : decode prog_8_method_2_code 76 = .ok (.istore 6, 2) := by decide +kernel
theorem dX6_seekBest_78 : decode prog_8_method_2_code 78 = .ok (.iload 6, 2) := by decide +kernel
theorem dX6_seekBest_80 : decode prog_8_method_2_code 80 = .ok (.iload 4, 2) := by decide +kernel
theorem dX6_seekBest_82 : decode prog_8_method_2_code 82 = .ok (.if_icmp .ge 67, 3) := by decide +kernel
theorem dX6_seekBest_85 : decode prog_8_method_2_code 85 = .ok (.aload_n 0, 1) := by decide +kernel
theorem dX6_seekBest_86 : decode prog_8_method_2_code 86 = .ok (.getfield 19, 3) := by decide +kernel
theorem dX6_seekBest_89 : decode prog_8_method_2_code 89 = .ok (.iload 6, 2) := by decide +kernel
theorem dX6_seekBest_91 : decode prog_8_method_2_code 91 = .ok (.invokevirtual 32, 3) := by decide +kernel
theorem dX6_seekBest_94 : decode prog_8_method_2_code 94 = .ok (.istore 7, 2) := by decide +kernel
theorem dX6_seekBest_96 : decode prog_8_method_2_code 96 = .ok (.iload 7, 2) := by decide +kernel
theorem dX6_seekBest_98 : decode prog_8_method_2_code 98 = .ok (.aload_n 0, 1) := by decide +kernel
theorem dX6_seekBest_99 : decode prog_8_method_2_code 99 = .ok (.getfield 36, 3) := by decide +kernel
theorem dX6_seekBest_102 : decode prog_8_method_2_code 102 = .ok (.if_icmp .le 41, 3) := by decide +kernel
theorem dX6_seekBest_105 : decode prog_8_method_2_code 105 = .ok (.aload_n 0, 1) := by decide +kernel
theorem dX6_seekBest_106 : decode prog_8_method_2_code 106 = .ok (.getfield 19, 3) := by decide +kernel
theorem dX6_seekBest_109 : decode prog_8_method_2_code 109 = .ok (.iload 6, 2) := by decide +kernel
theorem dX6_seekBest_111 : decode prog_8_method_2_code 111 = .ok (.invokevirtual 60, 3) := by decide +kernel
theorem dX6_seekBest_114 : decode prog_8_method_2_code 114 = .ok (.ifCond .eq 29, 3) := by decide +kernel
theorem dX6_seekBest_117 : decode prog_8_method_2_code 117 = .ok (.aload_n 0, 1) := by decide +kernel
theorem dX6_seekBest_118 : decode prog_8_method_2_code 118 = .ok (.iload 7, 2) := by decide +kernel
theorem dX6_seekBest_120 : decode prog_8_method_2_code 120 = .ok (.putfield 36, 3) := by decide +kernel
theorem dX6_seekBest_123 : decode prog_8_method_2_code 123 = .ok (.aload_n 0, 1) := by decide +kernel
theorem dX6_seekBest_124 : decode prog_8_method_2_code 124 = .ok (.aload_n 0, 1) := by decide +kernel
theorem dX6_seekBest_125 : decode prog_8_method_2_code 125 = .ok (.getfield 19, 3) := by decide +kernel
theorem dX6_seekBest_128 : decode prog_8_method_2_code 128 = .ok (.getfield 63, 3) := by decide +kernel
theorem dX6_seekBest_131 : decode prog_8_method_2_code 131 = .ok (.invokevirtual 67, 3) := by decide +kernel
theorem dX6_seekBest_134 : decode prog_8_method_2_code 134 = .ok (.putfield 40, 3) := by decide +kernel
theorem dX6_seekBest_137 : decode prog_8_method_2_code 137 = .ok (.aload_n 0, 1) := by decide +kernel
theorem dX6_seekBest_138 : decode prog_8_method_2_code 138 = .ok (.iload 6, 2) := by decide +kernel
theorem dX6_seekBest_140 : decode prog_8_method_2_code 140 = .ok (.putfield 43, 3) := by decide +kernel
theorem dX6_seekBest_143 : decode prog_8_method_2_code 143 = .ok (.iinc 6 1, 3) := by decide +kernel
theorem dX6_seekBest_146 : decode prog_8_method_2_code 146 = .ok (.goto (-68), 3) := by decide +kernel
theorem dX6_seekBest_149 : decode prog_8_method_2_code 149 = .ok (.iinc 5 1, 3) := by decide +kernel
theorem dX6_seekBest_152 : decode prog_8_method_2_code 152 = .ok (.goto (-107), 3) := by decide +kernel
theorem dX6_seekBest_155 : decode prog_8_method_2_code 155 = .ok (.return_, 1) := by decide +kernel
theorem dX6_startCounting_0 : decode prog_8_method_3_code 0 = .ok (.aload_n 0, 1) := by decide +kernel
theorem dX6_startCounting_1 : decode prog_8_method_3_code 1 = .ok (.iconst 0, 1) := by decide +kernel
theorem dX6_startCounting_2 : decode prog_8_method_3_code 2 = .ok (.putfield 70, 3) := by decide +kernel
theorem dX6_startCounting_5 : decode prog_8_method_3_code 5 = .ok (.aload_n 0, 1) := by decide +kernel
theorem dX6_startCounting_6 : decode prog_8_method_3_code 6 = .ok (.iconst (-1), 1) := by decide +kernel
theorem dX6_startCounting_7 : decode prog_8_method_3_code 7 = .ok (.putfield 73, 3) := by decide +kernel
theorem dX6_startCounting_10 : decode prog_8_method_3_code 10 = .ok (.return_, 1) := by decide +kernel
theorem dX6_countIn_0 : decode prog_8_method_4_code 0 = .ok (.aload_n 0, 1) := by decide +kernel
theorem dX6_countIn_1 : decode prog_8_method_4_code 1 = .ok (.getfield 70, 3) := by decide +kernel
theorem dX6_countIn_4 : decode prog_8_method_4_code 4 = .ok (.ifCond .ne 8, 3) := by decide +kernel
theorem dX6_countIn_7 : decode prog_8_method_4_code 7 = .ok (.aload_n 0, 1) := by decide +kernel
theorem dX6_countIn_8 : decode prog_8_method_4_code 8 = .ok (.iload_n 1, 1) := by decide +kernel
theorem dX6_countIn_9 : decode prog_8_method_4_code 9 = .ok (.putfield 73, 3) := by decide +kernel
theorem dX6_countIn_12 : decode prog_8_method_4_code 12 = .ok (.aload_n 0, 1) := by decide +kernel
theorem dX6_countIn_13 : decode prog_8_method_4_code 13 = .ok (.dup, 1) := by decide +kernel
theorem dX6_countIn_14 : decode prog_8_method_4_code 14 = .ok (.getfield 70, 3) := by decide +kernel
theorem dX6_countIn_17 : decode prog_8_method_4_code 17 = .ok (.iconst 1, 1) := by decide +kernel
theorem dX6_countIn_18 : decode prog_8_method_4_code 18 = .ok (.iadd, 1) := by decide +kernel
theorem dX6_countIn_19 : decode prog_8_method_4_code 19 = .ok (.putfield 70, 3) := by decide +kernel
theorem dX6_countIn_22 : decode prog_8_method_4_code 22 = .ok (.return_, 1) := by decide +kernel
theorem dX6_countEmpty_0 : decode prog_8_method_5_code 0 = .ok (.aload_n 0, 1) := by decide +kernel
theorem dX6_countEmpty_1 : decode prog_8_method_5_code 1 = .ok (.invokevirtual 76, 3) := by decide +kernel
theorem dX6_countEmpty_4 : decode prog_8_method_5_code 4 = .ok (.iconst 0, 1) := by decide +kernel
theorem dX6_countEmpty_5 : decode prog_8_method_5_code 5 = .ok (.istore_n 2, 1) := by decide +kernel
theorem dX6_countEmpty_6 : decode prog_8_method_5_code 6 = .ok (.iload_n 2, 1) := by decide +kernel
theorem dX6_countEmpty_7 : decode prog_8_method_5_code 7 = .ok (.sipush 720, 3) := by decide +kernel
theorem dX6_countEmpty_10 : decode prog_8_method_5_code 10 = .ok (.if_icmp .ge 70, 3) := by decide +kernel
theorem dX6_countEmpty_13 : decode prog_8_method_5_code 13 = .ok (.aload_n 0, 1) := by decide +kernel
theorem dX6_countEmpty_14 : decode prog_8_method_5_code 14 = .ok (.getfield 19, 3) := by decide +kernel
theorem dX6_countEmpty_17 : decode prog_8_method_5_code 17 = .ok (.iload_n 2, 1) := by decide +kernel
theorem dX6_countEmpty_18 : decode prog_8_method_5_code 18 = .ok (.invokevirtual 53, 3) := by decide +kernel
theorem dX6_countEmpty_21 : decode prog_8_method_5_code 21 = .ok (.ifCond .ne 6, 3) := by decide +kernel
theorem dX6_countEmpty_24 : decode prog_8_method_5_code 24 = .ok (.goto 50, 3) := by decide +kernel
theorem dX6_countEmpty_27 : decode prog_8_method_5_code 27 = .ok (.aload_n 0, 1) := by decide +kernel
theorem dX6_countEmpty_28 : decode prog_8_method_5_code 28 = .ok (.getfield 19, 3) := by decide +kernel
theorem dX6_countEmpty_31 : decode prog_8_method_5_code 31 = .ok (.invokevirtual 57, 3) := by decide +kernel
theorem dX6_countEmpty_34 : decode prog_8_method_5_code 34 = .ok (.aload_n 0, 1) := by decide +kernel
theorem dX6_countEmpty_35 : decode prog_8_method_5_code 35 = .ok (.getfield 19, 3) := by decide +kernel
theorem dX6_countEmpty_38 : decode prog_8_method_5_code 38 = .ok (.iconst 1, 1) := by decide +kernel
theorem dX6_countEmpty_39 : decode prog_8_method_5_code 39 = .ok (.iload_n 1, 1) := by decide +kernel
theorem dX6_countEmpty_40 : decode prog_8_method_5_code 40 = .ok (.ishl, 1) := by decide +kernel
theorem dX6_countEmpty_41 : decode prog_8_method_5_code 41 = .ok (.invokevirtual 60, 3) := by decide +kernel
theorem dX6_countEmpty_44 : decode prog_8_method_5_code 44 = .ok (.ifCond .eq 30, 3) := by decide +kernel
theorem dX6_countEmpty_47 : decode prog_8_method_5_code 47 = .ok (.aload_n 0, 1) := by decide +kernel
theorem dX6_countEmpty_48 : decode prog_8_method_5_code 48 = .ok (.getfield 19, 3) := by decide +kernel
theorem dX6_countEmpty_51 : decode prog_8_method_5_code 51 = .ok (.iconst 1, 1) := by decide +kernel
theorem dX6_countEmpty_52 : decode prog_8_method_5_code 52 = .ok (.iload_n 1, 1) := by decide +kernel
theorem dX6_countEmpty_53 : decode prog_8_method_5_code 53 = .ok (.ishl, 1) := by decide +kernel
theorem dX6_countEmpty_54 : decode prog_8_method_5_code 54 = .ok (.invokevirtual 79, 3) := by decide +kernel
theorem dX6_countEmpty_57 : decode prog_8_method_5_code 57 = .ok (.ifCond .ne 17, 3) := by decide +kernel
theorem dX6_countEmpty_60 : decode prog_8_method_5_code 60 = .ok (.aload_n 0, 1) := by decide +kernel
theorem dX6_countEmpty_61 : decode prog_8_method_5_code 61 = .ok (.aload_n 0, 1) := by decide +kernel
theorem dX6_countEmpty_62 : decode prog_8_method_5_code 62 = .ok (.getfield 19, 3) := by decide +kernel
theorem dX6_countEmpty_65 : decode prog_8_method_5_code 65 = .ok (.getfield 63, 3) := by decide +kernel
theorem dX6_countEmpty_68 : decode prog_8_method_5_code 68 = .ok (.invokevirtual 67, 3) := by decide +kernel
theorem dX6_countEmpty_71 : decode prog_8_method_5_code 71 = .ok (.invokevirtual 82, 3) := by decide +kernel
theorem dX6_countEmpty_74 : decode prog_8_method_5_code 74 = .ok (.iinc 2 1, 3) := by decide +kernel
theorem dX6_countEmpty_77 : decode prog_8_method_5_code 77 = .ok (.goto (-71), 3) := by decide +kernel
theorem dX6_countEmpty_80 : decode prog_8_method_5_code 80 = .ok (.return_, 1) := by decide +kernel
theorem dX6_countSaid_0 : decode prog_8_method_6_code 0 = .ok (.aload_n 0, 1) := by decide +kernel
theorem dX6_countSaid_1 : decode prog_8_method_6_code 1 = .ok (.invokevirtual 76, 3) := by decide +kernel
theorem dX6_countSaid_4 : decode prog_8_method_6_code 4 = .ok (.iconst 0, 1) := by decide +kernel
theorem dX6_countSaid_5 : decode prog_8_method_6_code 5 = .ok (.istore_n 3, 1) := by decide +kernel
theorem dX6_countSaid_6 : decode prog_8_method_6_code 6 = .ok (.iload_n 3, 1) := by decide +kernel
theorem dX6_countSaid_7 : decode prog_8_method_6_code 7 = .ok (.sipush 720, 3) := by decide +kernel
theorem dX6_countSaid_10 : decode prog_8_method_6_code 10 = .ok (.if_icmp .ge 69, 3) := by decide +kernel
theorem dX6_countSaid_13 : decode prog_8_method_6_code 13 = .ok (.aload_n 0, 1) := by decide +kernel
theorem dX6_countSaid_14 : decode prog_8_method_6_code 14 = .ok (.getfield 19, 3) := by decide +kernel
theorem dX6_countSaid_17 : decode prog_8_method_6_code 17 = .ok (.iload_n 3, 1) := by decide +kernel
theorem dX6_countSaid_18 : decode prog_8_method_6_code 18 = .ok (.invokevirtual 53, 3) := by decide +kernel
theorem dX6_countSaid_21 : decode prog_8_method_6_code 21 = .ok (.ifCond .ne 6, 3) := by decide +kernel
theorem dX6_countSaid_24 : decode prog_8_method_6_code 24 = .ok (.goto 49, 3) := by decide +kernel
theorem dX6_countSaid_27 : decode prog_8_method_6_code 27 = .ok (.aload_n 0, 1) := by decide +kernel
theorem dX6_countSaid_28 : decode prog_8_method_6_code 28 = .ok (.getfield 19, 3) := by decide +kernel
theorem dX6_countSaid_31 : decode prog_8_method_6_code 31 = .ok (.invokevirtual 57, 3) := by decide +kernel
theorem dX6_countSaid_34 : decode prog_8_method_6_code 34 = .ok (.aload_n 0, 1) := by decide +kernel
theorem dX6_countSaid_35 : decode prog_8_method_6_code 35 = .ok (.getfield 19, 3) := by decide +kernel
theorem dX6_countSaid_38 : decode prog_8_method_6_code 38 = .ok (.iconst 1, 1) := by decide +kernel
theorem dX6_countSaid_39 : decode prog_8_method_6_code 39 = .ok (.iload_n 1, 1) := by decide +kernel
theorem dX6_countSaid_40 : decode prog_8_method_6_code 40 = .ok (.ishl, 1) := by decide +kernel
theorem dX6_countSaid_41 : decode prog_8_method_6_code 41 = .ok (.invokevirtual 60, 3) := by decide +kernel
theorem dX6_countSaid_44 : decode prog_8_method_6_code 44 = .ok (.ifCond .eq 29, 3) := by decide +kernel
theorem dX6_countSaid_47 : decode prog_8_method_6_code 47 = .ok (.aload_n 0, 1) := by decide +kernel
theorem dX6_countSaid_48 : decode prog_8_method_6_code 48 = .ok (.getfield 19, 3) := by decide +kernel
theorem dX6_countSaid_51 : decode prog_8_method_6_code 51 = .ok (.iload_n 1, 1) := by decide +kernel
theorem dX6_countSaid_52 : decode prog_8_method_6_code 52 = .ok (.invokevirtual 86, 3) := by decide +kernel
theorem dX6_countSaid_55 : decode prog_8_method_6_code 55 = .ok (.iload_n 2, 1) := by decide +kernel
theorem dX6_countSaid_56 : decode prog_8_method_6_code 56 = .ok (.if_icmp .ne 17, 3) := by decide +kernel
theorem dX6_countSaid_59 : decode prog_8_method_6_code 59 = .ok (.aload_n 0, 1) := by decide +kernel
theorem dX6_countSaid_60 : decode prog_8_method_6_code 60 = .ok (.aload_n 0, 1) := by decide +kernel
theorem dX6_countSaid_61 : decode prog_8_method_6_code 61 = .ok (.getfield 19, 3) := by decide +kernel
theorem dX6_countSaid_64 : decode prog_8_method_6_code 64 = .ok (.getfield 63, 3) := by decide +kernel
theorem dX6_countSaid_67 : decode prog_8_method_6_code 67 = .ok (.invokevirtual 67, 3) := by decide +kernel
theorem dX6_countSaid_70 : decode prog_8_method_6_code 70 = .ok (.invokevirtual 82, 3) := by decide +kernel
theorem dX6_countSaid_73 : decode prog_8_method_6_code 73 = .ok (.iinc 3 1, 3) := by decide +kernel
theorem dX6_countSaid_76 : decode prog_8_method_6_code 76 = .ok (.goto (-70), 3) := by decide +kernel
theorem dX6_countSaid_79 : decode prog_8_method_6_code 79 = .ok (.return_, 1) := by decide +kernel
theorem dX6_countRests_0 : decode prog_8_method_7_code 0 = .ok (.iconst 0, 1) := by decide +kernel
theorem dX6_countRests_1 : decode prog_8_method_7_code 1 = .ok (.istore 7, 2) := by decide +kernel
theorem dX6_countRests_3 : decode prog_8_method_7_code 3 = .ok (.iload 7, 2) := by decide +kernel
theorem dX6_countRests_5 : decode prog_8_method_7_code 5 = .ok (.iconst 4, 1) := by decide +kernel
theorem dX6_countRests_6 : decode prog_8_method_7_code 6 = .ok (.if_icmp .ge 79, 3) := by decide +kernel
theorem dX6_countRests_9 : decode prog_8_method_7_code 9 = .ok (.lload_n 1, 1) := by decide +kernel
theorem dX6_countRests_10 : decode prog_8_method_7_code 10 = .ok (.iload_n 3, 1) := by decide +kernel
theorem dX6_countRests_11 : decode prog_8_method_7_code 11 = .ok (.iload 5, 2) := by decide +kernel
theorem dX6_countRests_13 : decode prog_8_method_7_code 13 = .ok (.iload 7, 2) := by decide +kernel
theorem dX6_countRests_15 : decode prog_8_method_7_code 15 = .ok (.iconst 1, 1) := by decide +kernel
theorem dX6_countRests_16 : decode prog_8_method_7_code 16 = .ok (.ishr, 1) := by decide +kernel
theorem dX6_countRests_17 : decode prog_8_method_7_code 17 = .ok (.iconst 1, 1) := by decide +kernel
theorem dX6_countRests_18 : decode prog_8_method_7_code 18 = .ok (.if_icmp .ne 8, 3) := by decide +kernel
theorem dX6_countRests_21 : decode prog_8_method_7_code 21 = .ok (.iload 6, 2) := by decide +kernel
theorem dX6_countRests_23 : decode prog_8_method_7_code 23 = .ok (.goto 7, 3) := by decide +kernel
theorem dX6_countRests_26 : decode prog_8_method_7_code 26 = .ok (.iconst 1, 1) := by decide +kernel
theorem dX6_countRests_27 : decode prog_8_method_7_code 27 = .ok (.iload 6, 2) := by decide +kernel
theorem dX6_countRests_29 : decode prog_8_method_7_code 29 = .ok (.isub, 1) := by decide +kernel
theorem dX6_countRests_30 : decode prog_8_method_7_code 30 = .ok (.invokestatic 89, 3) := by decide +kernel
theorem dX6_countRests_33 : decode prog_8_method_7_code 33 = .ok (.lstore 8, 2) := by decide +kernel
theorem dX6_countRests_35 : decode prog_8_method_7_code 35 = .ok (.lload 8, 2) := by decide +kernel
theorem dX6_countRests_37 : decode prog_8_method_7_code 37 = .ok (.iload 4, 2) := by decide +kernel
theorem dX6_countRests_39 : decode prog_8_method_7_code 39 = .ok (.iload 5, 2) := by decide +kernel
theorem dX6_countRests_41 : decode prog_8_method_7_code 41 = .ok (.iload 7, 2) := by decide +kernel
theorem dX6_countRests_43 : decode prog_8_method_7_code 43 = .ok (.iconst 1, 1) := by decide +kernel
theorem dX6_countRests_44 : decode prog_8_method_7_code 44 = .ok (.iand, 1) := by decide +kernel
theorem dX6_countRests_45 : decode prog_8_method_7_code 45 = .ok (.iconst 1, 1) := by decide +kernel
theorem dX6_countRests_46 : decode prog_8_method_7_code 46 = .ok (.if_icmp .ne 8, 3) := by decide +kernel
theorem dX6_countRests_49 : decode prog_8_method_7_code 49 = .ok (.iload 6, 2) := by decide +kernel
theorem dX6_countRests_51 : decode prog_8_method_7_code 51 = .ok (.goto 7, 3) := by decide +kernel
theorem dX6_countRests_54 : decode prog_8_method_7_code 54 = .ok (.iconst 1, 1) := by decide +kernel
theorem dX6_countRests_55 : decode prog_8_method_7_code 55 = .ok (.iload 6, 2) := by decide +kernel
theorem dX6_countRests_57 : decode prog_8_method_7_code 57 = .ok (.isub, 1) := by decide +kernel
theorem dX6_countRests_58 : decode prog_8_method_7_code 58 = .ok (.invokestatic 89, 3) := by decide +kernel
theorem dX6_countRests_61 : decode prog_8_method_7_code 61 = .ok (.lstore 8, 2) := by decide +kernel
theorem dX6_countRests_63 : decode prog_8_method_7_code 63 = .ok (.aload_n 0, 1) := by decide +kernel
theorem dX6_countRests_64 : decode prog_8_method_7_code 64 = .ok (.getfield 9, 3) := by decide +kernel
theorem dX6_countRests_67 : decode prog_8_method_7_code 67 = .ok (.iload 7, 2) := by decide +kernel
theorem dX6_countRests_69 : decode prog_8_method_7_code 69 = .ok (.aload_n 0, 1) := by decide +kernel
theorem dX6_countRests_70 : decode prog_8_method_7_code 70 = .ok (.getfield 19, 3) := by decide +kernel
theorem dX6_countRests_73 : decode prog_8_method_7_code 73 = .ok (.lload 8, 2) := by decide +kernel
theorem dX6_countRests_75 : decode prog_8_method_7_code 75 = .ok (.invokevirtual 93, 3) := by decide +kernel
theorem dX6_countRests_78 : decode prog_8_method_7_code 78 = .ok (.iastore, 1) := by decide +kernel
theorem dX6_countRests_79 : decode prog_8_method_7_code 79 = .ok (.iinc 7 1, 3) := by decide +kernel
theorem dX6_countRests_82 : decode prog_8_method_7_code 82 = .ok (.goto (-79), 3) := by decide +kernel
theorem dX6_countRests_85 : decode prog_8_method_7_code 85 = .ok (.aload_n 0, 1) := by decide +kernel
theorem dX6_countRests_86 : decode prog_8_method_7_code 86 = .ok (.invokevirtual 76, 3) := by decide +kernel
theorem dX6_countRests_89 : decode prog_8_method_7_code 89 = .ok (.iconst 0, 1) := by decide +kernel
theorem dX6_countRests_90 : decode prog_8_method_7_code 90 = .ok (.istore 7, 2) := by decide +kernel
theorem dX6_countRests_92 : decode prog_8_method_7_code 92 = .ok (.iload 7, 2) := by decide +kernel
theorem dX6_countRests_94 : decode prog_8_method_7_code 94 = .ok (.iconst 4, 1) := by decide +kernel
theorem dX6_countRests_95 : decode prog_8_method_7_code 95 = .ok (.if_icmp .ge 53, 3) := by decide +kernel
theorem dX6_countRests_98 : decode prog_8_method_7_code 98 = .ok (.aload_n 0, 1) := by decide +kernel
theorem dX6_countRests_99 : decode prog_8_method_7_code 99 = .ok (.getfield 9, 3) := by decide +kernel
theorem dX6_countRests_102 : decode prog_8_method_7_code 102 = .ok (.iload 7, 2) := by decide +kernel
theorem dX6_countRests_104 : decode prog_8_method_7_code 104 = .ok (.iconst 2, 1) := by decide +kernel
theorem dX6_countRests_105 : decode prog_8_method_7_code 105 = .ok (.ixor, 1) := by decide +kernel
theorem dX6_countRests_106 : decode prog_8_method_7_code 106 = .ok (.iaload, 1) := by decide +kernel
theorem dX6_countRests_107 : decode prog_8_method_7_code 107 = .ok (.aload_n 0, 1) := by decide +kernel
theorem dX6_countRests_108 : decode prog_8_method_7_code 108 = .ok (.getfield 9, 3) := by decide +kernel
theorem dX6_countRests_111 : decode prog_8_method_7_code 111 = .ok (.iload 7, 2) := by decide +kernel
theorem dX6_countRests_113 : decode prog_8_method_7_code 113 = .ok (.iaload, 1) := by decide +kernel
theorem dX6_countRests_114 : decode prog_8_method_7_code 114 = .ok (.if_icmp .gt 28, 3) := by decide +kernel
theorem dX6_countRests_117 : decode prog_8_method_7_code 117 = .ok (.aload_n 0, 1) := by decide +kernel
theorem dX6_countRests_118 : decode prog_8_method_7_code 118 = .ok (.getfield 9, 3) := by decide +kernel
theorem dX6_countRests_121 : decode prog_8_method_7_code 121 = .ok (.iload 7, 2) := by decide +kernel
theorem dX6_countRests_123 : decode prog_8_method_7_code 123 = .ok (.iconst 1, 1) := by decide +kernel
theorem dX6_countRests_124 : decode prog_8_method_7_code 124 = .ok (.ixor, 1) := by decide +kernel
theorem dX6_countRests_125 : decode prog_8_method_7_code 125 = .ok (.iaload, 1) := by decide +kernel
theorem dX6_countRests_126 : decode prog_8_method_7_code 126 = .ok (.aload_n 0, 1) := by decide +kernel
theorem dX6_countRests_127 : decode prog_8_method_7_code 127 = .ok (.getfield 9, 3) := by decide +kernel
theorem dX6_countRests_130 : decode prog_8_method_7_code 130 = .ok (.iload 7, 2) := by decide +kernel
theorem dX6_countRests_132 : decode prog_8_method_7_code 132 = .ok (.iaload, 1) := by decide +kernel
theorem dX6_countRests_133 : decode prog_8_method_7_code 133 = .ok (.if_icmp .gt 9, 3) := by decide +kernel
theorem dX6_countRests_136 : decode prog_8_method_7_code 136 = .ok (.aload_n 0, 1) := by decide +kernel
theorem dX6_countRests_137 : decode prog_8_method_7_code 137 = .ok (.iload 7, 2) := by decide +kernel
theorem dX6_countRests_139 : decode prog_8_method_7_code 139 = .ok (.invokevirtual 82, 3) := by decide +kernel
theorem dX6_countRests_142 : decode prog_8_method_7_code 142 = .ok (.iinc 7 1, 3) := by decide +kernel
theorem dX6_countRests_145 : decode prog_8_method_7_code 145 = .ok (.goto (-53), 3) := by decide +kernel
theorem dX6_countRests_148 : decode prog_8_method_7_code 148 = .ok (.return_, 1) := by decide +kernel
theorem dX6_stance_0 : decode prog_8_method_8_code 0 = .ok (.lload_n 0, 1) := by decide +kernel
theorem dX6_stance_1 : decode prog_8_method_8_code 1 = .ok (.iload_n 2, 1) := by decide +kernel
theorem dX6_stance_2 : decode prog_8_method_8_code 2 = .ok (.lload_n 0, 1) := by decide +kernel
theorem dX6_stance_3 : decode prog_8_method_8_code 3 = .ok (.iload_n 2, 1) := by decide +kernel
theorem dX6_stance_4 : decode prog_8_method_8_code 4 = .ok (.invokestatic 97, 3) := by decide +kernel
theorem dX6_stance_7 : decode prog_8_method_8_code 7 = .ok (.iload_n 3, 1) := by decide +kernel
theorem dX6_stance_8 : decode prog_8_method_8_code 8 = .ok (.iload 4, 2) := by decide +kernel
theorem dX6_stance_10 : decode prog_8_method_8_code 10 = .ok (.invokestatic 103, 3) := by decide +kernel
theorem dX6_stance_13 : decode prog_8_method_8_code 13 = .ok (.invokestatic 107, 3) := by decide +kernel
theorem dX6_stance_16 : decode prog_8_method_8_code 16 = .ok (.lreturn, 1) := by decide +kernel
theorem dX6_outcomes_0 : decode prog_8_method_9_code 0 = .ok (.lconst 1, 1) := by decide +kernel
theorem dX6_outcomes_1 : decode prog_8_method_9_code 1 = .ok (.aload_n 0, 1) := by decide +kernel
theorem dX6_outcomes_2 : decode prog_8_method_9_code 2 = .ok (.getfield 19, 3) := by decide +kernel
theorem dX6_outcomes_5 : decode prog_8_method_9_code 5 = .ok (.iconst 0, 1) := by decide +kernel
theorem dX6_outcomes_6 : decode prog_8_method_9_code 6 = .ok (.invokevirtual 111, 3) := by decide +kernel
theorem dX6_outcomes_9 : decode prog_8_method_9_code 9 = .ok (.lshl, 1) := by decide +kernel
theorem dX6_outcomes_10 : decode prog_8_method_9_code 10 = .ok (.lstore_n 1, 1) := by decide +kernel
theorem dX6_outcomes_11 : decode prog_8_method_9_code 11 = .ok (.iconst 0, 1) := by decide +kernel
theorem dX6_outcomes_12 : decode prog_8_method_9_code 12 = .ok (.istore_n 3, 1) := by decide +kernel
theorem dX6_outcomes_13 : decode prog_8_method_9_code 13 = .ok (.iload_n 3, 1) := by decide +kernel
theorem dX6_outcomes_14 : decode prog_8_method_9_code 14 = .ok (.sipush 720, 3) := by decide +kernel
theorem dX6_outcomes_17 : decode prog_8_method_9_code 17 = .ok (.if_icmp .ge 81, 3) := by decide +kernel
theorem dX6_outcomes_20 : decode prog_8_method_9_code 20 = .ok (.aload_n 0, 1) := by decide +kernel
theorem dX6_outcomes_21 : decode prog_8_method_9_code 21 = .ok (.getfield 19, 3) := by decide +kernel
theorem dX6_outcomes_24 : decode prog_8_method_9_code 24 = .ok (.iload_n 3, 1) := by decide +kernel
theorem dX6_outcomes_25 : decode prog_8_method_9_code 25 = .ok (.invokevirtual 53, 3) := by decide +kernel
theorem dX6_outcomes_28 : decode prog_8_method_9_code 28 = .ok (.ifCond .ne 6, 3) := by decide +kernel
theorem dX6_outcomes_31 : decode prog_8_method_9_code 31 = .ok (.goto 61, 3) := by decide +kernel
theorem dX6_outcomes_34 : decode prog_8_method_9_code 34 = .ok (.aload_n 0, 1) := by decide +kernel
theorem dX6_outcomes_35 : decode prog_8_method_9_code 35 = .ok (.getfield 19, 3) := by decide +kernel
theorem dX6_outcomes_38 : decode prog_8_method_9_code 38 = .ok (.invokevirtual 57, 3) := by decide +kernel
theorem dX6_outcomes_41 : decode prog_8_method_9_code 41 = .ok (.iconst 0, 1) := by decide +kernel
theorem dX6_outcomes_42 : decode prog_8_method_9_code 42 = .ok (.istore 4, 2) := by decide +kernel
theorem dX6_outcomes_44 : decode prog_8_method_9_code 44 = .ok (.iload 4, 2) := by decide +kernel
theorem dX6_outcomes_46 : decode prog_8_method_9_code 46 = .ok (.aload_n 0, 1) := by decide +kernel
theorem dX6_outcomes_47 : decode prog_8_method_9_code 47 = .ok (.getfield 15, 3) := by decide +kernel
theorem dX6_outcomes_50 : decode prog_8_method_9_code 50 = .ok (.getfield 46, 3) := by decide +kernel
theorem dX6_outcomes_53 : decode prog_8_method_9_code 53 = .ok (.if_icmp .ge 39, 3) := by decide +kernel
theorem dX6_outcomes_56 : decode prog_8_method_9_code 56 = .ok (.aload_n 0, 1) := by decide +kernel
theorem dX6_outcomes_57 : decode prog_8_method_9_code 57 = .ok (.getfield 19, 3) := by decide +kernel
theorem dX6_outcomes_60 : decode prog_8_method_9_code 60 = .ok (.iconst 1, 1) := by decide +kernel
theorem dX6_outcomes_61 : decode prog_8_method_9_code 61 = .ok (.iload 4, 2) := by decide +kernel
theorem dX6_outcomes_63 : decode prog_8_method_9_code 63 = .ok (.ishl, 1) := by decide +kernel
theorem dX6_outcomes_64 : decode prog_8_method_9_code 64 = .ok (.invokevirtual 60, 3) := by decide +kernel
theorem dX6_outcomes_67 : decode prog_8_method_9_code 67 = .ok (.ifCond .eq 19, 3) := by decide +kernel
theorem dX6_outcomes_70 : decode prog_8_method_9_code 70 = .ok (.lload_n 1, 1) := by decide +kernel
theorem dX6_outcomes_71 : decode prog_8_method_9_code 71 = .ok (.lconst 1, 1) := by decide +kernel
theorem dX6_outcomes_72 : decode prog_8_method_9_code 72 = .ok (.aload_n 0, 1) := by decide +kernel
theorem dX6_outcomes_73 : decode prog_8_method_9_code 73 = .ok (.getfield 19, 3) := by decide +kernel
theorem dX6_outcomes_76 : decode prog_8_method_9_code 76 = .ok (.iconst 1, 1) := by decide +kernel
theorem dX6_outcomes_77 : decode prog_8_method_9_code 77 = .ok (.iload 4, 2) := by decide +kernel
theorem dX6_outcomes_79 : decode prog_8_method_9_code 79 = .ok (.ishl, 1) := by decide +kernel
theorem dX6_outcomes_80 : decode prog_8_method_9_code 80 = .ok (.invokevirtual 111, 3) := by decide +kernel
theorem dX6_outcomes_83 : decode prog_8_method_9_code 83 = .ok (.lshl, 1) := by decide +kernel
theorem dX6_outcomes_84 : decode prog_8_method_9_code 84 = .ok (.lor, 1) := by decide +kernel
theorem dX6_outcomes_85 : decode prog_8_method_9_code 85 = .ok (.lstore_n 1, 1) := by decide +kernel
theorem dX6_outcomes_86 : decode prog_8_method_9_code 86 = .ok (.iinc 4 1, 3) := by decide +kernel
theorem dX6_outcomes_89 : decode prog_8_method_9_code 89 = .ok (.goto (-45), 3) := by decide +kernel
theorem dX6_outcomes_92 : decode prog_8_method_9_code 92 = .ok (.iinc 3 1, 3) := by decide +kernel
theorem dX6_outcomes_95 : decode prog_8_method_9_code 95 = .ok (.goto (-82), 3) := by decide +kernel
theorem dX6_outcomes_98 : decode prog_8_method_9_code 98 = .ok (.lload_n 1, 1) := by decide +kernel
theorem dX6_outcomes_99 : decode prog_8_method_9_code 99 = .ok (.lreturn, 1) := by decide +kernel
theorem dX6_seekPlan_0 : decode prog_8_method_10_code 0 = .ok (.aload_n 0, 1) := by decide +kernel
theorem dX6_seekPlan_1 : decode prog_8_method_10_code 1 = .ok (.getfield 19, 3) := by decide +kernel
theorem dX6_seekPlan_4 : decode prog_8_method_10_code 4 = .ok (.iload_n 1, 1) := by decide +kernel
theorem dX6_seekPlan_5 : decode prog_8_method_10_code 5 = .ok (.lload_n 2, 1) := by decide +kernel
theorem dX6_seekPlan_6 : decode prog_8_method_10_code 6 = .ok (.invokevirtual 26, 3) := by decide +kernel
theorem dX6_seekPlan_9 : decode prog_8_method_10_code 9 = .ok (.aload_n 0, 1) := by decide +kernel
theorem dX6_seekPlan_10 : decode prog_8_method_10_code 10 = .ok (.aload_n 0, 1) := by decide +kernel
theorem dX6_seekPlan_11 : decode prog_8_method_10_code 11 = .ok (.iconst 0, 1) := by decide +kernel
theorem dX6_seekPlan_12 : decode prog_8_method_10_code 12 = .ok (.iload 4, 2) := by decide +kernel
theorem dX6_seekPlan_14 : decode prog_8_method_10_code 14 = .ok (.invokevirtual 114, 3) := by decide +kernel
theorem dX6_seekPlan_17 : decode prog_8_method_10_code 17 = .ok (.putfield 36, 3) := by decide +kernel
theorem dX6_seekPlan_20 : decode prog_8_method_10_code 20 = .ok (.aload_n 0, 1) := by decide +kernel
theorem dX6_seekPlan_21 : decode prog_8_method_10_code 21 = .ok (.iconst (-1), 1) := by decide +kernel
theorem dX6_seekPlan_22 : decode prog_8_method_10_code 22 = .ok (.putfield 40, 3) := by decide +kernel
theorem dX6_seekPlan_25 : decode prog_8_method_10_code 25 = .ok (.aload_n 0, 1) := by decide +kernel
theorem dX6_seekPlan_26 : decode prog_8_method_10_code 26 = .ok (.iconst (-1), 1) := by decide +kernel
theorem dX6_seekPlan_27 : decode prog_8_method_10_code 27 = .ok (.putfield 43, 3) := by decide +kernel
theorem dX6_seekPlan_30 : decode prog_8_method_10_code 30 = .ok (.iconst 0, 1) := by decide +kernel
theorem dX6_seekPlan_31 : decode prog_8_method_10_code 31 = .ok (.istore 5, 2) := by decide +kernel
theorem dX6_seekPlan_33 : decode prog_8_method_10_code 33 = .ok (.iload 5, 2) := by decide +kernel
theorem dX6_seekPlan_35 : decode prog_8_method_10_code 35 = .ok (.bipush 24, 2) := by decide +kernel
theorem dX6_seekPlan_37 : decode prog_8_method_10_code 37 = .ok (.if_icmp .ge 119, 3) := by decide +kernel
theorem dX6_seekPlan_40 : decode prog_8_method_10_code 40 = .ok (.aload_n 0, 1) := by decide +kernel
theorem dX6_seekPlan_41 : decode prog_8_method_10_code 41 = .ok (.getfield 19, 3) := by decide +kernel
theorem dX6_seekPlan_44 : decode prog_8_method_10_code 44 = .ok (.iload 5, 2) := by decide +kernel
theorem dX6_seekPlan_46 : decode prog_8_method_10_code 46 = .ok (.invokestatic 118, 3) := by decide +kernel
theorem dX6_seekPlan_49 : decode prog_8_method_10_code 49 = .ok (.invokevirtual 53, 3) := by decide +kernel
theorem dX6_seekPlan_52 : decode prog_8_method_10_code 52 = .ok (.ifCond .ne 6, 3) := by decide +kernel
theorem dX6_seekPlan_55 : decode prog_8_method_10_code 55 = .ok (.goto 95, 3) := by decide +kernel
theorem dX6_seekPlan_58 : decode prog_8_method_10_code 58 = .ok (.aload_n 0, 1) := by decide +kernel
theorem dX6_seekPlan_59 : decode prog_8_method_10_code 59 = .ok (.getfield 19, 3) := by decide +kernel
theorem dX6_seekPlan_62 : decode prog_8_method_10_code 62 = .ok (.invokevirtual 57, 3) := by decide +kernel
theorem dX6_seekPlan_65 : decode prog_8_method_10_code 65 = .ok (.iconst 0, 1) := by decide +kernel
theorem dX6_seekPlan_66 : decode prog_8_method_10_code 66 = .ok (.istore 6, 2) := by decide +kernel
theorem dX6_seekPlan_68 : decode prog_8_method_10_code 68 = .ok (.iload 6, 2) := by decide +kernel
theorem dX6_seekPlan_70 : decode prog_8_method_10_code 70 = .ok (.aload_n 0, 1) := by decide +kernel
theorem dX6_seekPlan_71 : decode prog_8_method_10_code 71 = .ok (.getfield 15, 3) := by decide +kernel
theorem dX6_seekPlan_74 : decode prog_8_method_10_code 74 = .ok (.getfield 46, 3) := by decide +kernel
theorem dX6_seekPlan_77 : decode prog_8_method_10_code 77 = .ok (.if_icmp .ge 73, 3) := by decide +kernel
theorem dX6_seekPlan_80 : decode prog_8_method_10_code 80 = .ok (.aload_n 0, 1) := by decide +kernel
theorem dX6_seekPlan_81 : decode prog_8_method_10_code 81 = .ok (.getfield 19, 3) := by decide +kernel
theorem dX6_seekPlan_84 : decode prog_8_method_10_code 84 = .ok (.iconst 1, 1) := by decide +kernel
theorem dX6_seekPlan_85 : decode prog_8_method_10_code 85 = .ok (.iload 6, 2) := by decide +kernel
theorem dX6_seekPlan_87 : decode prog_8_method_10_code 87 = .ok (.ishl, 1) := by decide +kernel
theorem dX6_seekPlan_88 : decode prog_8_method_10_code 88 = .ok (.invokevirtual 60, 3) := by decide +kernel
theorem dX6_seekPlan_91 : decode prog_8_method_10_code 91 = .ok (.ifCond .ne 6, 3) := by decide +kernel
theorem dX6_seekPlan_94 : decode prog_8_method_10_code 94 = .ok (.goto 50, 3) := by decide +kernel
theorem dX6_seekPlan_97 : decode prog_8_method_10_code 97 = .ok (.aload_n 0, 1) := by decide +kernel
theorem dX6_seekPlan_98 : decode prog_8_method_10_code 98 = .ok (.iconst 1, 1) := by decide +kernel
theorem dX6_seekPlan_99 : decode prog_8_method_10_code 99 = .ok (.iload 6, 2) := by decide +kernel
theorem dX6_seekPlan_101 : decode prog_8_method_10_code 101 = .ok (.ishl, 1) := by decide +kernel
theorem dX6_seekPlan_102 : decode prog_8_method_10_code 102 = .ok (.iload 4, 2) := by decide +kernel
theorem dX6_seekPlan_104 : decode prog_8_method_10_code 104 = .ok (.invokevirtual 114, 3) := by decide +kernel
theorem dX6_seekPlan_107 : decode prog_8_method_10_code 107 = .ok (.istore 7, 2) := by decide +kernel
theorem dX6_seekPlan_109 : decode prog_8_method_10_code 109 = .ok (.iload 7, 2) := by decide +kernel
theorem dX6_seekPlan_111 : decode prog_8_method_10_code 111 = .ok (.aload_n 0, 1) := by decide +kernel
theorem dX6_seekPlan_112 : decode prog_8_method_10_code 112 = .ok (.getfield 36, 3) := by decide +kernel
theorem dX6_seekPlan_115 : decode prog_8_method_10_code 115 = .ok (.if_icmp .le 29, 3) := by decide +kernel
theorem dX6_seekPlan_118 : decode prog_8_method_10_code 118 = .ok (.aload_n 0, 1) := by decide +kernel
theorem dX6_seekPlan_119 : decode prog_8_method_10_code 119 = .ok (.iload 7, 2) := by decide +kernel
theorem dX6_seekPlan_121 : decode prog_8_method_10_code 121 = .ok (.putfield 36, 3) := by decide +kernel
theorem dX6_seekPlan_124 : decode prog_8_method_10_code 124 = .ok (.aload_n 0, 1) := by decide +kernel
theorem dX6_seekPlan_125 : decode prog_8_method_10_code 125 = .ok (.aload_n 0, 1) := by decide +kernel
theorem dX6_seekPlan_126 : decode prog_8_method_10_code 126 = .ok (.getfield 19, 3) := by decide +kernel
theorem dX6_seekPlan_129 : decode prog_8_method_10_code 129 = .ok (.getfield 63, 3) := by decide +kernel
theorem dX6_seekPlan_132 : decode prog_8_method_10_code 132 = .ok (.invokevirtual 67, 3) := by decide +kernel
theorem dX6_seekPlan_135 : decode prog_8_method_10_code 135 = .ok (.putfield 40, 3) := by decide +kernel
theorem dX6_seekPlan_138 : decode prog_8_method_10_code 138 = .ok (.aload_n 0, 1) := by decide +kernel
theorem dX6_seekPlan_139 : decode prog_8_method_10_code 139 = .ok (.iload 6, 2) := by decide +kernel
theorem dX6_seekPlan_141 : decode prog_8_method_10_code 141 = .ok (.putfield 43, 3) := by decide +kernel
theorem dX6_seekPlan_144 : decode prog_8_method_10_code 144 = .ok (.iinc 6 1, 3) := by decide +kernel
theorem dX6_seekPlan_147 : decode prog_8_method_10_code 147 = .ok (.goto (-79), 3) := by decide +kernel
theorem dX6_seekPlan_150 : decode prog_8_method_10_code 150 = .ok (.iinc 5 1, 3) := by decide +kernel
theorem dX6_seekPlan_153 : decode prog_8_method_10_code 153 = .ok (.goto (-120), 3) := by decide +kernel
theorem dX6_seekPlan_156 : decode prog_8_method_10_code 156 = .ok (.return_, 1) := by decide +kernel
theorem dX6_sumOfPlan_0 : decode prog_8_method_11_code 0 = .ok (.iload_n 2, 1) := by decide +kernel
theorem dX6_sumOfPlan_1 : decode prog_8_method_11_code 1 = .ok (.ifCond .ne 12, 3) := by decide +kernel
theorem dX6_sumOfPlan_4 : decode prog_8_method_11_code 4 = .ok (.aload_n 0, 1) := by decide +kernel
theorem dX6_sumOfPlan_5 : decode prog_8_method_11_code 5 = .ok (.getfield 19, 3) := by decide +kernel
theorem dX6_sumOfPlan_8 : decode prog_8_method_11_code 8 = .ok (.iload_n 1, 1) := by decide +kernel
theorem dX6_sumOfPlan_9 : decode prog_8_method_11_code 9 = .ok (.invokevirtual 32, 3) := by decide +kernel
theorem dX6_sumOfPlan_12 : decode prog_8_method_11_code 12 = .ok (.ireturn, 1) := by decide +kernel
theorem dX6_sumOfPlan_13 : decode prog_8_method_11_code 13 = .ok (.aload_n 0, 1) := by decide +kernel
theorem dX6_sumOfPlan_14 : decode prog_8_method_11_code 14 = .ok (.getfield 23, 3) := by decide +kernel
theorem dX6_sumOfPlan_17 : decode prog_8_method_11_code 17 = .ok (.aload_n 0, 1) := by decide +kernel
theorem dX6_sumOfPlan_18 : decode prog_8_method_11_code 18 = .ok (.getfield 19, 3) := by decide +kernel
theorem dX6_sumOfPlan_21 : decode prog_8_method_11_code 21 = .ok (.iload_n 1, 1) := by decide +kernel
theorem dX6_sumOfPlan_22 : decode prog_8_method_11_code 22 = .ok (.invokevirtual 111, 3) := by decide +kernel
theorem dX6_sumOfPlan_25 : decode prog_8_method_11_code 25 = .ok (.aload_n 0, 1) := by decide +kernel
theorem dX6_sumOfPlan_26 : decode prog_8_method_11_code 26 = .ok (.getfield 19, 3) := by decide +kernel
theorem dX6_sumOfPlan_29 : decode prog_8_method_11_code 29 = .ok (.iload_n 1, 1) := by decide +kernel
theorem dX6_sumOfPlan_30 : decode prog_8_method_11_code 30 = .ok (.invokevirtual 121, 3) := by decide +kernel
theorem dX6_sumOfPlan_33 : decode prog_8_method_11_code 33 = .ok (.invokevirtual 26, 3) := by decide +kernel
theorem dX6_sumOfPlan_36 : decode prog_8_method_11_code 36 = .ok (.aload_n 0, 1) := by decide +kernel
theorem dX6_sumOfPlan_37 : decode prog_8_method_11_code 37 = .ok (.getfield 23, 3) := by decide +kernel
theorem dX6_sumOfPlan_40 : decode prog_8_method_11_code 40 = .ok (.iconst 0, 1) := by decide +kernel
theorem dX6_sumOfPlan_41 : decode prog_8_method_11_code 41 = .ok (.invokevirtual 32, 3) := by decide +kernel
theorem dX6_sumOfPlan_44 : decode prog_8_method_11_code 44 = .ok (.istore_n 3, 1) := by decide +kernel
theorem dX6_sumOfPlan_45 : decode prog_8_method_11_code 45 = .ok (.iconst 0, 1) := by decide +kernel
theorem dX6_sumOfPlan_46 : decode prog_8_method_11_code 46 = .ok (.istore 4, 2) := by decide +kernel
theorem dX6_sumOfPlan_48 : decode prog_8_method_11_code 48 = .ok (.iload 4, 2) := by decide +kernel
theorem dX6_sumOfPlan_50 : decode prog_8_method_11_code 50 = .ok (.bipush 24, 2) := by decide +kernel
theorem dX6_sumOfPlan_52 : decode prog_8_method_11_code 52 = .ok (.if_icmp .ge 85, 3) := by decide +kernel
theorem dX6_sumOfPlan_55 : decode prog_8_method_11_code 55 = .ok (.aload_n 0, 1) := by decide +kernel
theorem dX6_sumOfPlan_56 : decode prog_8_method_11_code 56 = .ok (.getfield 23, 3) := by decide +kernel
theorem dX6_sumOfPlan_59 : decode prog_8_method_11_code 59 = .ok (.iload 4, 2) := by decide +kernel
theorem dX6_sumOfPlan_61 : decode prog_8_method_11_code 61 = .ok (.invokestatic 118, 3) := by decide +kernel
theorem dX6_sumOfPlan_64 : decode prog_8_method_11_code 64 = .ok (.invokevirtual 53, 3) := by decide +kernel
theorem dX6_sumOfPlan_67 : decode prog_8_method_11_code 67 = .ok (.ifCond .ne 6, 3) := by decide +kernel
theorem dX6_sumOfPlan_70 : decode prog_8_method_11_code 70 = .ok (.goto 61, 3) := by decide +kernel
theorem dX6_sumOfPlan_73 : decode prog_8_method_11_code 73 = .ok (.aload_n 0, 1) := by decide +kernel
theorem dX6_sumOfPlan_74 : decode prog_8_method_11_code 74 = .ok (.getfield 23, 3) := by decide +kernel
theorem dX6_sumOfPlan_77 : decode prog_8_method_11_code 77 = .ok (.invokevirtual 57, 3) := by decide +kernel
theorem dX6_sumOfPlan_80 : decode prog_8_method_11_code 80 = .ok (.iconst 0, 1) := by decide +kernel
theorem dX6_sumOfPlan_81 : decode prog_8_method_11_code 81 = .ok (.istore 5, 2) := by decide +kernel
theorem dX6_sumOfPlan_83 : decode prog_8_method_11_code 83 = .ok (.iload 5, 2) := by decide +kernel
theorem dX6_sumOfPlan_85 : decode prog_8_method_11_code 85 = .ok (.aload_n 0, 1) := by decide +kernel
theorem dX6_sumOfPlan_86 : decode prog_8_method_11_code 86 = .ok (.getfield 15, 3) := by decide +kernel
theorem dX6_sumOfPlan_89 : decode prog_8_method_11_code 89 = .ok (.getfield 46, 3) := by decide +kernel
theorem dX6_sumOfPlan_92 : decode prog_8_method_11_code 92 = .ok (.if_icmp .ge 39, 3) := by decide +kernel
theorem dX6_sumOfPlan_95 : decode prog_8_method_11_code 95 = .ok (.aload_n 0, 1) := by decide +kernel
theorem dX6_sumOfPlan_96 : decode prog_8_method_11_code 96 = .ok (.getfield 23, 3) := by decide +kernel
theorem dX6_sumOfPlan_99 : decode prog_8_method_11_code 99 = .ok (.iconst 1, 1) := by decide +kernel
theorem dX6_sumOfPlan_100 : decode prog_8_method_11_code 100 = .ok (.iload 5, 2) := by decide +kernel
theorem dX6_sumOfPlan_102 : decode prog_8_method_11_code 102 = .ok (.ishl, 1) := by decide +kernel
theorem dX6_sumOfPlan_103 : decode prog_8_method_11_code 103 = .ok (.invokevirtual 60, 3) := by decide +kernel
theorem dX6_sumOfPlan_106 : decode prog_8_method_11_code 106 = .ok (.ifCond .eq 19, 3) := by decide +kernel
theorem dX6_sumOfPlan_109 : decode prog_8_method_11_code 109 = .ok (.iload_n 3, 1) := by decide +kernel
theorem dX6_sumOfPlan_110 : decode prog_8_method_11_code 110 = .ok (.aload_n 0, 1) := by decide +kernel
theorem dX6_sumOfPlan_111 : decode prog_8_method_11_code 111 = .ok (.getfield 23, 3) := by decide +kernel
theorem dX6_sumOfPlan_114 : decode prog_8_method_11_code 114 = .ok (.iconst 1, 1) := by decide +kernel
theorem dX6_sumOfPlan_115 : decode prog_8_method_11_code 115 = .ok (.iload 5, 2) := by decide +kernel
theorem dX6_sumOfPlan_117 : decode prog_8_method_11_code 117 = .ok (.ishl, 1) := by decide +kernel
theorem dX6_sumOfPlan_118 : decode prog_8_method_11_code 118 = .ok (.invokevirtual 32, 3) := by decide +kernel
theorem dX6_sumOfPlan_121 : decode prog_8_method_11_code 121 = .ok (.invokestatic 125, 3) := by decide +kernel
theorem dX6_sumOfPlan_124 : decode prog_8_method_11_code 124 = .ok (.istore_n 3, 1) := by decide +kernel
theorem dX6_sumOfPlan_125 : decode prog_8_method_11_code 125 = .ok (.iinc 5 1, 3) := by decide +kernel
theorem dX6_sumOfPlan_128 : decode prog_8_method_11_code 128 = .ok (.goto (-45), 3) := by decide +kernel
theorem dX6_sumOfPlan_131 : decode prog_8_method_11_code 131 = .ok (.iinc 4 1, 3) := by decide +kernel
theorem dX6_sumOfPlan_134 : decode prog_8_method_11_code 134 = .ok (.goto (-86), 3) := by decide +kernel
theorem dX6_sumOfPlan_137 : decode prog_8_method_11_code 137 = .ok (.iload_n 3, 1) := by decide +kernel
theorem dX6_sumOfPlan_138 : decode prog_8_method_11_code 138 = .ok (.ireturn, 1) := by decide +kernel
theorem dX6_sumOfSiege_0 : decode prog_8_method_12_code 0 = .ok (.aload_n 0, 1) := by decide +kernel
theorem dX6_sumOfSiege_1 : decode prog_8_method_12_code 1 = .ok (.getfield 15, 3) := by decide +kernel
theorem dX6_sumOfSiege_4 : decode prog_8_method_12_code 4 = .ok (.getfield 131, 3) := by decide +kernel
theorem dX6_sumOfSiege_7 : decode prog_8_method_12_code 7 = .ok (.ifCond .ne 5, 3) := by decide +kernel
theorem dX6_sumOfSiege_10 : decode prog_8_method_12_code 10 = .ok (.iconst 0, 1) := by decide +kernel
theorem dX6_sumOfSiege_11 : decode prog_8_method_12_code 11 = .ok (.ireturn, 1) := by decide +kernel
theorem dX6_sumOfSiege_12 : decode prog_8_method_12_code 12 = .ok (.iload_n 3, 1) := by decide +kernel
theorem dX6_sumOfSiege_13 : decode prog_8_method_12_code 13 = .ok (.iconst 1, 1) := by decide +kernel
theorem dX6_sumOfSiege_14 : decode prog_8_method_12_code 14 = .ok (.iload_n 1, 1) := by decide +kernel
theorem dX6_sumOfSiege_15 : decode prog_8_method_12_code 15 = .ok (.aload_n 0, 1) := by decide +kernel
theorem dX6_sumOfSiege_16 : decode prog_8_method_12_code 16 = .ok (.getfield 15, 3) := by decide +kernel
theorem dX6_sumOfSiege_19 : decode prog_8_method_12_code 19 = .ok (.getfield 131, 3) := by decide +kernel
theorem dX6_sumOfSiege_22 : decode prog_8_method_12_code 22 = .ok (.irem, 1) := by decide +kernel
theorem dX6_sumOfSiege_23 : decode prog_8_method_12_code 23 = .ok (.ishl, 1) := by decide +kernel
theorem dX6_sumOfSiege_24 : decode prog_8_method_12_code 24 = .ok (.ixor, 1) := by decide +kernel
theorem dX6_sumOfSiege_25 : decode prog_8_method_12_code 25 = .ok (.istore 6, 2) := by decide +kernel
theorem dX6_sumOfSiege_27 : decode prog_8_method_12_code 27 = .ok (.iload_n 2, 1) := by decide +kernel
theorem dX6_sumOfSiege_28 : decode prog_8_method_12_code 28 = .ok (.iconst 1, 1) := by decide +kernel
theorem dX6_sumOfSiege_29 : decode prog_8_method_12_code 29 = .ok (.if_icmp .ne 16, 3) := by decide +kernel
theorem dX6_sumOfSiege_32 : decode prog_8_method_12_code 32 = .ok (.aload_n 0, 1) := by decide +kernel
theorem dX6_sumOfSiege_33 : decode prog_8_method_12_code 33 = .ok (.iload 6, 2) := by decide +kernel
theorem dX6_sumOfSiege_35 : decode prog_8_method_12_code 35 = .ok (.lload 4, 2) := by decide +kernel
theorem dX6_sumOfSiege_37 : decode prog_8_method_12_code 37 = .ok (.invokevirtual 134, 3) := by decide +kernel
theorem dX6_sumOfSiege_40 : decode prog_8_method_12_code 40 = .ok (.aload_n 0, 1) := by decide +kernel
theorem dX6_sumOfSiege_41 : decode prog_8_method_12_code 41 = .ok (.getfield 36, 3) := by decide +kernel
theorem dX6_sumOfSiege_44 : decode prog_8_method_12_code 44 = .ok (.ireturn, 1) := by decide +kernel
theorem dX6_sumOfSiege_45 : decode prog_8_method_12_code 45 = .ok (.lload 4, 2) := by decide +kernel
theorem dX6_sumOfSiege_47 : decode prog_8_method_12_code 47 = .ok (.lstore 7, 2) := by decide +kernel
theorem dX6_sumOfSiege_49 : decode prog_8_method_12_code 49 = .ok (.iconst 0, 1) := by decide +kernel
theorem dX6_sumOfSiege_50 : decode prog_8_method_12_code 50 = .ok (.istore 9, 2) := by decide +kernel
theorem dX6_sumOfSiege_52 : decode prog_8_method_12_code 52 = .ok (.iload 9, 2) := by decide +kernel
theorem dX6_sumOfSiege_54 : decode prog_8_method_12_code 54 = .ok (.aload_n 0, 1) := by decide +kernel
theorem dX6_sumOfSiege_55 : decode prog_8_method_12_code 55 = .ok (.getfield 15, 3) := by decide +kernel
theorem dX6_sumOfSiege_58 : decode prog_8_method_12_code 58 = .ok (.getfield 46, 3) := by decide +kernel
theorem dX6_sumOfSiege_61 : decode prog_8_method_12_code 61 = .ok (.if_icmp .ge 41, 3) := by decide +kernel
theorem dX6_sumOfSiege_64 : decode prog_8_method_12_code 64 = .ok (.iload_n 2, 1) := by decide +kernel
theorem dX6_sumOfSiege_65 : decode prog_8_method_12_code 65 = .ok (.iconst 2, 1) := by decide +kernel
theorem dX6_sumOfSiege_66 : decode prog_8_method_12_code 66 = .ok (.if_icmp .ne 36, 3) := by decide +kernel
theorem dX6_sumOfSiege_69 : decode prog_8_method_12_code 69 = .ok (.lload 7, 2) := by decide +kernel
theorem dX6_sumOfSiege_71 : decode prog_8_method_12_code 71 = .ok (.iload 9, 2) := by decide +kernel
theorem dX6_sumOfSiege_73 : decode prog_8_method_12_code 73 = .ok (.iload_n 1, 1) := by decide +kernel
theorem dX6_sumOfSiege_74 : decode prog_8_method_12_code 74 = .ok (.bipush 8, 2) := by decide +kernel
theorem dX6_sumOfSiege_76 : decode prog_8_method_12_code 76 = .ok (.idiv, 1) := by decide +kernel
theorem dX6_sumOfSiege_77 : decode prog_8_method_12_code 77 = .ok (.aload_n 0, 1) := by decide +kernel
theorem dX6_sumOfSiege_78 : decode prog_8_method_12_code 78 = .ok (.getfield 15, 3) := by decide +kernel
theorem dX6_sumOfSiege_81 : decode prog_8_method_12_code 81 = .ok (.getfield 131, 3) := by decide +kernel
theorem dX6_sumOfSiege_84 : decode prog_8_method_12_code 84 = .ok (.irem, 1) := by decide +kernel
theorem dX6_sumOfSiege_85 : decode prog_8_method_12_code 85 = .ok (.iload_n 1, 1) := by decide +kernel
theorem dX6_sumOfSiege_86 : decode prog_8_method_12_code 86 = .ok (.bipush 64, 2) := by decide +kernel
theorem dX6_sumOfSiege_88 : decode prog_8_method_12_code 88 = .ok (.idiv, 1) := by decide +kernel
theorem dX6_sumOfSiege_89 : decode prog_8_method_12_code 89 = .ok (.iconst 2, 1) := by decide +kernel
theorem dX6_sumOfSiege_90 : decode prog_8_method_12_code 90 = .ok (.irem, 1) := by decide +kernel
theorem dX6_sumOfSiege_91 : decode prog_8_method_12_code 91 = .ok (.invokestatic 89, 3) := by decide +kernel
theorem dX6_sumOfSiege_94 : decode prog_8_method_12_code 94 = .ok (.lstore 7, 2) := by decide +kernel
theorem dX6_sumOfSiege_96 : decode prog_8_method_12_code 96 = .ok (.iinc 9 1, 3) := by decide +kernel
theorem dX6_sumOfSiege_99 : decode prog_8_method_12_code 99 = .ok (.goto (-47), 3) := by decide +kernel
theorem dX6_sumOfSiege_102 : decode prog_8_method_12_code 102 = .ok (.aload_n 0, 1) := by decide +kernel
theorem dX6_sumOfSiege_103 : decode prog_8_method_12_code 103 = .ok (.getfield 15, 3) := by decide +kernel
theorem dX6_sumOfSiege_106 : decode prog_8_method_12_code 106 = .ok (.aload_n 0, 1) := by decide +kernel
theorem dX6_sumOfSiege_107 : decode prog_8_method_12_code 107 = .ok (.getfield 15, 3) := by decide +kernel
theorem dX6_sumOfSiege_110 : decode prog_8_method_12_code 110 = .ok (.iload 6, 2) := by decide +kernel
theorem dX6_sumOfSiege_112 : decode prog_8_method_12_code 112 = .ok (.aload_n 0, 1) := by decide +kernel
theorem dX6_sumOfSiege_113 : decode prog_8_method_12_code 113 = .ok (.getfield 15, 3) := by decide +kernel
theorem dX6_sumOfSiege_116 : decode prog_8_method_12_code 116 = .ok (.lload 7, 2) := by decide +kernel
theorem dX6_sumOfSiege_118 : decode prog_8_method_12_code 118 = .ok (.invokevirtual 137, 3) := by decide +kernel
theorem dX6_sumOfSiege_121 : decode prog_8_method_12_code 121 = .ok (.invokevirtual 140, 3) := by decide +kernel
theorem dX6_sumOfSiege_124 : decode prog_8_method_12_code 124 = .ok (.invokevirtual 143, 3) := by decide +kernel
theorem dX6_sumOfSiege_127 : decode prog_8_method_12_code 127 = .ok (.ireturn, 1) := by decide +kernel
theorem dX7_init_0 : decode prog_9_method_1_code 0 = .ok (.aload_n 0, 1) := by decide +kernel
theorem dX7_init_1 : decode prog_9_method_1_code 1 = .ok (.invokespecial 3, 3) := by decide +kernel
theorem dX7_init_4 : decode prog_9_method_1_code 4 = .ok (.return_, 1) := by decide +kernel
theorem dX7_isKind_0 : decode prog_9_method_2_code 0 = .ok (.iload_n 0, 1) := by decide +kernel
theorem dX7_isKind_1 : decode prog_9_method_2_code 1 = .ok (.ifCond .lt 12, 3) := by decide +kernel
theorem dX7_isKind_4 : decode prog_9_method_2_code 4 = .ok (.iload_n 0, 1) := by decide +kernel
theorem dX7_isKind_5 : decode prog_9_method_2_code 5 = .ok (.iconst 5, 1) := by decide +kernel
theorem dX7_isKind_6 : decode prog_9_method_2_code 6 = .ok (.if_icmp .ge 7, 3) := by decide +kernel
theorem dX7_isKind_9 : decode prog_9_method_2_code 9 = .ok (.iconst 1, 1) := by decide +kernel
theorem dX7_isKind_10 : decode prog_9_method_2_code 10 = .ok (.goto 4, 3) := by decide +kernel
theorem dX7_isKind_13 : decode prog_9_method_2_code 13 = .ok (.iconst 0, 1) := by decide +kernel
theorem dX7_isKind_14 : decode prog_9_method_2_code 14 = .ok (.ireturn, 1) := by decide +kernel
theorem dX7_isPair_0 : decode prog_9_method_3_code 0 = .ok (.iload_n 0, 1) := by decide +kernel
theorem dX7_isPair_1 : decode prog_9_method_3_code 1 = .ok (.iconst 1, 1) := by decide +kernel
theorem dX7_isPair_2 : decode prog_9_method_3_code 2 = .ok (.if_icmp .eq 13, 3) := by decide +kernel
theorem dX7_isPair_5 : decode prog_9_method_3_code 5 = .ok (.iload_n 0, 1) := by decide +kernel
theorem dX7_isPair_6 : decode prog_9_method_3_code 6 = .ok (.iconst 2, 1) := by decide +kernel
theorem dX7_isPair_7 : decode prog_9_method_3_code 7 = .ok (.if_icmp .eq 8, 3) := by decide +kernel
theorem dX7_isPair_10 : decode prog_9_method_3_code 10 = .ok (.iload_n 0, 1) := by decide +kernel
theorem dX7_isPair_11 : decode prog_9_method_3_code 11 = .ok (.iconst 3, 1) := by decide +kernel
theorem dX7_isPair_12 : decode prog_9_method_3_code 12 = .ok (.if_icmp .ne 7, 3) := by decide +kernel
theorem dX7_isPair_15 : decode prog_9_method_3_code 15 = .ok (.iconst 1, 1) := by decide +kernel
theorem dX7_isPair_16 : decode prog_9_method_3_code 16 = .ok (.goto 4, 3) := by decide +kernel
theorem dX7_isPair_19 : decode prog_9_method_3_code 19 = .ok (.iconst 0, 1) := by decide +kernel
theorem dX7_isPair_20 : decode prog_9_method_3_code 20 = .ok (.ireturn, 1) := by decide +kernel
theorem dX7_put_0 : decode prog_9_method_4_code 0 = .ok (.iload_n 1, 1) := by decide +kernel
theorem dX7_put_1 : decode prog_9_method_4_code 1 = .ok (.invokestatic 9, 3) := by decide +kernel
theorem dX7_put_4 : decode prog_9_method_4_code 4 = .ok (.istore 6, 2) := by decide +kernel
theorem dX7_put_6 : decode prog_9_method_4_code 6 = .ok (.aload_n 0, 1) := by decide +kernel
theorem dX7_put_7 : decode prog_9_method_4_code 7 = .ok (.iload_n 1, 1) := by decide +kernel
theorem dX7_put_8 : decode prog_9_method_4_code 8 = .ok (.putfield 13, 3) := by decide +kernel
theorem dX7_put_11 : decode prog_9_method_4_code 11 = .ok (.aload_n 0, 1) := by decide +kernel
theorem dX7_put_12 : decode prog_9_method_4_code 12 = .ok (.iload_n 2, 1) := by decide +kernel
theorem dX7_put_13 : decode prog_9_method_4_code 13 = .ok (.putfield 17, 3) := by decide +kernel
theorem dX7_put_16 : decode prog_9_method_4_code 16 = .ok (.aload_n 0, 1) := by decide +kernel
theorem dX7_put_17 : decode prog_9_method_4_code 17 = .ok (.iload_n 3, 1) := by decide +kernel
theorem dX7_put_18 : decode prog_9_method_4_code 18 = .ok (.putfield 20, 3) := by decide +kernel
theorem dX7_put_21 : decode prog_9_method_4_code 21 = .ok (.aload_n 0, 1) := by decide +kernel
theorem dX7_put_22 : decode prog_9_method_4_code 22 = .ok (.iload 6, 2) := by decide +kernel
theorem dX7_put_24 : decode prog_9_method_4_code 24 = .ok (.ifCond .eq 8, 3) := by decide +kernel
theorem dX7_put_27 : decode prog_9_method_4_code 27 = .ok (.iload 4, 2) := by decide +kernel
theorem dX7_put_29 : decode prog_9_method_4_code 29 = .ok (.goto 4, 3) := by decide +kernel
theorem dX7_put_32 : decode prog_9_method_4_code 32 = .ok (.iconst 0, 1) := by decide +kernel
theorem dX7_put_33 : decode prog_9_method_4_code 33 = .ok (.putfield 23, 3) := by decide +kernel
theorem dX7_put_36 : decode prog_9_method_4_code 36 = .ok (.aload_n 0, 1) := by decide +kernel
theorem dX7_put_37 : decode prog_9_method_4_code 37 = .ok (.iload 6, 2) := by decide +kernel
theorem dX7_put_39 : decode prog_9_method_4_code 39 = .ok (.ifCond .eq 8, 3) := by decide +kernel
theorem dX7_put_42 : decode prog_9_method_4_code 42 = .ok (.iload 5, 2) := by decide +kernel
theorem dX7_put_44 : decode prog_9_method_4_code 44 = .ok (.goto 4, 3) := by decide +kernel
theorem dX7_put_47 : decode prog_9_method_4_code 47 = .ok (.iconst 0, 1) := by decide +kernel
theorem dX7_put_48 : decode prog_9_method_4_code 48 = .ok (.putfield 26, 3) := by decide +kernel
theorem dX7_put_51 : decode prog_9_method_4_code 51 = .ok (.return_, 1) := by decide +kernel
theorem dX7_comeTo_0 : decode prog_9_method_5_code 0 = .ok (.aload_n 0, 1) := by decide +kernel
theorem dX7_comeTo_1 : decode prog_9_method_5_code 1 = .ok (.iload_n 1, 1) := by decide +kernel
theorem dX7_comeTo_2 : decode prog_9_method_5_code 2 = .ok (.sipush 144, 3) := by decide +kernel
theorem dX7_comeTo_5 : decode prog_9_method_5_code 5 = .ok (.idiv, 1) := by decide +kernel
theorem dX7_comeTo_6 : decode prog_9_method_5_code 6 = .ok (.putfield 13, 3) := by decide +kernel
theorem dX7_comeTo_9 : decode prog_9_method_5_code 9 = .ok (.aload_n 0, 1) := by decide +kernel
theorem dX7_comeTo_10 : decode prog_9_method_5_code 10 = .ok (.iload_n 1, 1) := by decide +kernel
theorem dX7_comeTo_11 : decode prog_9_method_5_code 11 = .ok (.bipush 24, 2) := by decide +kernel
theorem dX7_comeTo_13 : decode prog_9_method_5_code 13 = .ok (.idiv, 1) := by decide +kernel
theorem dX7_comeTo_14 : decode prog_9_method_5_code 14 = .ok (.bipush 6, 2) := by decide +kernel
theorem dX7_comeTo_16 : decode prog_9_method_5_code 16 = .ok (.irem, 1) := by decide +kernel
theorem dX7_comeTo_17 : decode prog_9_method_5_code 17 = .ok (.putfield 17, 3) := by decide +kernel
theorem dX7_comeTo_20 : decode prog_9_method_5_code 20 = .ok (.aload_n 0, 1) := by decide +kernel
theorem dX7_comeTo_21 : decode prog_9_method_5_code 21 = .ok (.iload_n 1, 1) := by decide +kernel
theorem dX7_comeTo_22 : decode prog_9_method_5_code 22 = .ok (.bipush 12, 2) := by decide +kernel
theorem dX7_comeTo_24 : decode prog_9_method_5_code 24 = .ok (.idiv, 1) := by decide +kernel
theorem dX7_comeTo_25 : decode prog_9_method_5_code 25 = .ok (.iconst 2, 1) := by decide +kernel
theorem dX7_comeTo_26 : decode prog_9_method_5_code 26 = .ok (.irem, 1) := by decide +kernel
theorem dX7_comeTo_27 : decode prog_9_method_5_code 27 = .ok (.putfield 20, 3) := by decide +kernel
theorem dX7_comeTo_30 : decode prog_9_method_5_code 30 = .ok (.aload_n 0, 1) := by decide +kernel
theorem dX7_comeTo_31 : decode prog_9_method_5_code 31 = .ok (.iload_n 1, 1) := by decide +kernel
theorem dX7_comeTo_32 : decode prog_9_method_5_code 32 = .ok (.iconst 2, 1) := by decide +kernel
theorem dX7_comeTo_33 : decode prog_9_method_5_code 33 = .ok (.idiv, 1) := by decide +kernel
theorem dX7_comeTo_34 : decode prog_9_method_5_code 34 = .ok (.bipush 6, 2) := by decide +kernel
theorem dX7_comeTo_36 : decode prog_9_method_5_code 36 = .ok (.irem, 1) := by decide +kernel
theorem dX7_comeTo_37 : decode prog_9_method_5_code 37 = .ok (.putfield 23, 3) := by decide +kernel
theorem dX7_comeTo_40 : decode prog_9_method_5_code 40 = .ok (.aload_n 0, 1) := by decide +kernel
theorem dX7_comeTo_41 : decode prog_9_method_5_code 41 = .ok (.iload_n 1, 1) := by decide +kernel
theorem dX7_comeTo_42 : decode prog_9_method_5_code 42 = .ok (.iconst 2, 1) := by decide +kernel
theorem dX7_comeTo_43 : decode prog_9_method_5_code 43 = .ok (.irem, 1) := by decide +kernel
theorem dX7_comeTo_44 : decode prog_9_method_5_code 44 = .ok (.putfield 26, 3) := by decide +kernel
theorem dX7_comeTo_47 : decode prog_9_method_5_code 47 = .ok (.aload_n 0, 1) := by decide +kernel
theorem dX7_comeTo_48 : decode prog_9_method_5_code 48 = .ok (.getfield 17, 3) := by decide +kernel
theorem dX7_comeTo_51 : decode prog_9_method_5_code 51 = .ok (.iload_n 2, 1) := by decide +kernel
theorem dX7_comeTo_52 : decode prog_9_method_5_code 52 = .ok (.if_icmp .lt 5, 3) := by decide +kernel
theorem dX7_comeTo_55 : decode prog_9_method_5_code 55 = .ok (.iconst 0, 1) := by decide +kernel
theorem dX7_comeTo_56 : decode prog_9_method_5_code 56 = .ok (.ireturn, 1) := by decide +kernel
theorem dX7_comeTo_57 : decode prog_9_method_5_code 57 = .ok (.aload_n 0, 1) := by decide +kernel
theorem dX7_comeTo_58 : decode prog_9_method_5_code 58 = .ok (.getfield 13, 3) := by decide +kernel
theorem dX7_comeTo_61 : decode prog_9_method_5_code 61 = .ok (.invokestatic 9, 3) := by decide +kernel
theorem dX7_comeTo_64 : decode prog_9_method_5_code 64 = .ok (.ifCond .eq 30, 3) := by decide +kernel
theorem dX7_comeTo_67 : decode prog_9_method_5_code 67 = .ok (.aload_n 0, 1) := by decide +kernel
theorem dX7_comeTo_68 : decode prog_9_method_5_code 68 = .ok (.getfield 23, 3) := by decide +kernel
theorem dX7_comeTo_71 : decode prog_9_method_5_code 71 = .ok (.iload_n 2, 1) := by decide +kernel
theorem dX7_comeTo_72 : decode prog_9_method_5_code 72 = .ok (.if_icmp .ge 18, 3) := by decide +kernel
theorem dX7_comeTo_75 : decode prog_9_method_5_code 75 = .ok (.aload_n 0, 1) := by decide +kernel
theorem dX7_comeTo_76 : decode prog_9_method_5_code 76 = .ok (.getfield 23, 3) := by decide +kernel
theorem dX7_comeTo_79 : decode prog_9_method_5_code 79 = .ok (.aload_n 0, 1) := by decide +kernel
theorem dX7_comeTo_80 : decode prog_9_method_5_code 80 = .ok (.getfield 17, 3) := by decide +kernel
theorem dX7_comeTo_83 : decode prog_9_method_5_code 83 = .ok (.if_icmp .eq 7, 3) := by decide +kernel
theorem dX7_comeTo_86 : decode prog_9_method_5_code 86 = .ok (.iconst 1, 1) := by decide +kernel
theorem dX7_comeTo_87 : decode prog_9_method_5_code 87 = .ok (.goto 26, 3) := by decide +kernel
theorem dX7_comeTo_90 : decode prog_9_method_5_code 90 = .ok (.iconst 0, 1) := by decide +kernel
theorem dX7_comeTo_91 : decode prog_9_method_5_code 91 = .ok (.goto 22, 3) := by decide +kernel
theorem dX7_comeTo_94 : decode prog_9_method_5_code 94 = .ok (.aload_n 0, 1) := by decide +kernel
theorem dX7_comeTo_95 : decode prog_9_method_5_code 95 = .ok (.getfield 23, 3) := by decide +kernel
theorem dX7_comeTo_98 : decode prog_9_method_5_code 98 = .ok (.ifCond .ne 14, 3) := by decide +kernel
theorem dX7_comeTo_101 : decode prog_9_method_5_code 101 = .ok (.aload_n 0, 1) := by decide +kernel
theorem dX7_comeTo_102 : decode prog_9_method_5_code 102 = .ok (.getfield 26, 3) := by decide +kernel
theorem dX7_comeTo_105 : decode prog_9_method_5_code 105 = .ok (.ifCond .ne 7, 3) := by decide +kernel
theorem dX7_comeTo_108 : decode prog_9_method_5_code 108 = .ok (.iconst 1, 1) := by decide +kernel
theorem dX7_comeTo_109 : decode prog_9_method_5_code 109 = .ok (.goto 4, 3) := by decide +kernel
theorem dX7_comeTo_112 : decode prog_9_method_5_code 112 = .ok (.iconst 0, 1) := by decide +kernel
theorem dX7_comeTo_113 : decode prog_9_method_5_code 113 = .ok (.ireturn, 1) := by decide +kernel
theorem dX7_placeOfSingle_0 : decode prog_9_method_6_code 0 = .ok (.iload_n 0, 1) := by decide +kernel
theorem dX7_placeOfSingle_1 : decode prog_9_method_6_code 1 = .ok (.bipush 12, 2) := by decide +kernel
theorem dX7_placeOfSingle_3 : decode prog_9_method_6_code 3 = .ok (.if_icmp .ge 7, 3) := by decide +kernel
theorem dX7_placeOfSingle_6 : decode prog_9_method_6_code 6 = .ok (.iconst 0, 1) := by decide +kernel
theorem dX7_placeOfSingle_7 : decode prog_9_method_6_code 7 = .ok (.goto 4, 3) := by decide +kernel
theorem dX7_placeOfSingle_10 : decode prog_9_method_6_code 10 = .ok (.iconst 4, 1) := by decide +kernel
theorem dX7_placeOfSingle_11 : decode prog_9_method_6_code 11 = .ok (.istore_n 1, 1) := by decide +kernel
theorem dX7_placeOfSingle_12 : decode prog_9_method_6_code 12 = .ok (.sipush 144, 3) := by decide +kernel
theorem dX7_placeOfSingle_15 : decode prog_9_method_6_code 15 = .ok (.iload_n 1, 1) := by decide +kernel
theorem dX7_placeOfSingle_16 : decode prog_9_method_6_code 16 = .ok (.imul, 1) := by decide +kernel
theorem dX7_placeOfSingle_17 : decode prog_9_method_6_code 17 = .ok (.bipush 24, 2) := by decide +kernel
theorem dX7_placeOfSingle_19 : decode prog_9_method_6_code 19 = .ok (.iload_n 0, 1) := by decide +kernel
theorem dX7_placeOfSingle_20 : decode prog_9_method_6_code 20 = .ok (.iconst 2, 1) := by decide +kernel
theorem dX7_placeOfSingle_21 : decode prog_9_method_6_code 21 = .ok (.idiv, 1) := by decide +kernel
theorem dX7_placeOfSingle_22 : decode prog_9_method_6_code 22 = .ok (.bipush 6, 2) := by decide +kernel
theorem dX7_placeOfSingle_24 : decode prog_9_method_6_code 24 = .ok (.irem, 1) := by decide +kernel
theorem dX7_placeOfSingle_25 : decode prog_9_method_6_code 25 = .ok (.imul, 1) := by decide +kernel
theorem dX7_placeOfSingle_26 : decode prog_9_method_6_code 26 = .ok (.iadd, 1) := by decide +kernel
theorem dX7_placeOfSingle_27 : decode prog_9_method_6_code 27 = .ok (.bipush 12, 2) := by decide +kernel
theorem dX7_placeOfSingle_29 : decode prog_9_method_6_code 29 = .ok (.iload_n 0, 1) := by decide +kernel
theorem dX7_placeOfSingle_30 : decode prog_9_method_6_code 30 = .ok (.iconst 2, 1) := by decide +kernel
theorem dX7_placeOfSingle_31 : decode prog_9_method_6_code 31 = .ok (.irem, 1) := by decide +kernel
theorem dX7_placeOfSingle_32 : decode prog_9_method_6_code 32 = .ok (.imul, 1) := by decide +kernel
theorem dX7_placeOfSingle_33 : decode prog_9_method_6_code 33 = .ok (.iadd, 1) := by decide +kernel
theorem dX7_placeOfSingle_34 : decode prog_9_method_6_code 34 = .ok (.ireturn, 1) := by decide +kernel
theorem dX7_number_0 : decode prog_9_method_7_code 0 = .ok (.sipush 10000, 3) := by decide +kernel
theorem dX7_number_3 : decode prog_9_method_7_code 3 = .ok (.aload_n 0, 1) := by decide +kernel
theorem dX7_number_4 : decode prog_9_method_7_code 4 = .ok (.getfield 13, 3) := by decide +kernel
theorem dX7_number_7 : decode prog_9_method_7_code 7 = .ok (.imul, 1) := by decide +kernel
theorem dX7_number_8 : decode prog_9_method_7_code 8 = .ok (.sipush 1000, 3) := by decide +kernel
theorem dX7_number_11 : decode prog_9_method_7_code 11 = .ok (.aload_n 0, 1) := by decide +kernel
theorem dX7_number_12 : decode prog_9_method_7_code 12 = .ok (.getfield 17, 3) := by decide +kernel
theorem dX7_number_15 : decode prog_9_method_7_code 15 = .ok (.imul, 1) := by decide +kernel
theorem dX7_number_16 : decode prog_9_method_7_code 16 = .ok (.iadd, 1) := by decide +kernel
theorem dX7_number_17 : decode prog_9_method_7_code 17 = .ok (.bipush 100, 2) := by decide +kernel
theorem dX7_number_19 : decode prog_9_method_7_code 19 = .ok (.aload_n 0, 1) := by decide +kernel
theorem dX7_number_20 : decode prog_9_method_7_code 20 = .ok (.getfield 20, 3) := by decide +kernel
theorem dX7_number_23 : decode prog_9_method_7_code 23 = .ok (.imul, 1) := by decide +kernel
theorem dX7_number_24 : decode prog_9_method_7_code 24 = .ok (.iadd, 1) := by decide +kernel
theorem dX7_number_25 : decode prog_9_method_7_code 25 = .ok (.bipush 10, 2) := by decide +kernel
theorem dX7_number_27 : decode prog_9_method_7_code 27 = .ok (.aload_n 0, 1) := by decide +kernel
theorem dX7_number_28 : decode prog_9_method_7_code 28 = .ok (.getfield 23, 3) := by decide +kernel
theorem dX7_number_31 : decode prog_9_method_7_code 31 = .ok (.imul, 1) := by decide +kernel
theorem dX7_number_32 : decode prog_9_method_7_code 32 = .ok (.iadd, 1) := by decide +kernel
theorem dX7_number_33 : decode prog_9_method_7_code 33 = .ok (.aload_n 0, 1) := by decide +kernel
theorem dX7_number_34 : decode prog_9_method_7_code 34 = .ok (.getfield 26, 3) := by decide +kernel
theorem dX7_number_37 : decode prog_9_method_7_code 37 = .ok (.iadd, 1) := by decide +kernel
theorem dX7_number_38 : decode prog_9_method_7_code 38 = .ok (.ireturn, 1) := by decide +kernel
theorem dX7_stands_0 : decode prog_9_method_8_code 0 = .ok (.iload_n 1, 1) := by decide +kernel
theorem dX7_stands_1 : decode prog_9_method_8_code 1 = .ok (.aload_n 0, 1) := by decide +kernel
theorem dX7_stands_2 : decode prog_9_method_8_code 2 = .ok (.getfield 17, 3) := by decide +kernel
theorem dX7_stands_5 : decode prog_9_method_8_code 5 = .ok (.ishr, 1) := by decide +kernel
theorem dX7_stands_6 : decode prog_9_method_8_code 6 = .ok (.iconst 1, 1) := by decide +kernel
theorem dX7_stands_7 : decode prog_9_method_8_code 7 = .ok (.iand, 1) := by decide +kernel
theorem dX7_stands_8 : decode prog_9_method_8_code 8 = .ok (.aload_n 0, 1) := by decide +kernel
theorem dX7_stands_9 : decode prog_9_method_8_code 9 = .ok (.getfield 20, 3) := by decide +kernel
theorem dX7_stands_12 : decode prog_9_method_8_code 12 = .ok (.if_icmp .ne 7, 3) := by decide +kernel
theorem dX7_stands_15 : decode prog_9_method_8_code 15 = .ok (.iconst 1, 1) := by decide +kernel
theorem dX7_stands_16 : decode prog_9_method_8_code 16 = .ok (.goto 4, 3) := by decide +kernel
theorem dX7_stands_19 : decode prog_9_method_8_code 19 = .ok (.iconst 0, 1) := by decide +kernel
theorem dX7_stands_20 : decode prog_9_method_8_code 20 = .ok (.istore_n 2, 1) := by decide +kernel
theorem dX7_stands_21 : decode prog_9_method_8_code 21 = .ok (.iload_n 1, 1) := by decide +kernel
theorem dX7_stands_22 : decode prog_9_method_8_code 22 = .ok (.aload_n 0, 1) := by decide +kernel
theorem dX7_stands_23 : decode prog_9_method_8_code 23 = .ok (.getfield 23, 3) := by decide +kernel
theorem dX7_stands_26 : decode prog_9_method_8_code 26 = .ok (.ishr, 1) := by decide +kernel
theorem dX7_stands_27 : decode prog_9_method_8_code 27 = .ok (.iconst 1, 1) := by decide +kernel
theorem dX7_stands_28 : decode prog_9_method_8_code 28 = .ok (.iand, 1) := by decide +kernel
theorem dX7_stands_29 : decode prog_9_method_8_code 29 = .ok (.aload_n 0, 1) := by decide +kernel
theorem dX7_stands_30 : decode prog_9_method_8_code 30 = .ok (.getfield 26, 3) := by decide +kernel
theorem dX7_stands_33 : decode prog_9_method_8_code 33 = .ok (.if_icmp .ne 7, 3) := by decide +kernel
theorem dX7_stands_36 : decode prog_9_method_8_code 36 = .ok (.iconst 1, 1) := by decide +kernel
theorem dX7_stands_37 : decode prog_9_method_8_code 37 = .ok (.goto 4, 3) := by decide +kernel
theorem dX7_stands_40 : decode prog_9_method_8_code 40 = .ok (.iconst 0, 1) := by decide +kernel
theorem dX7_stands_41 : decode prog_9_method_8_code 41 = .ok (.istore_n 3, 1) := by decide +kernel
theorem dX7_stands_42 : decode prog_9_method_8_code 42 = .ok (.aload_n 0, 1) := by decide +kernel
theorem dX7_stands_43 : decode prog_9_method_8_code 43 = .ok (.getfield 13, 3) := by decide +kernel
theorem dX7_stands_46 : decode prog_9_method_8_code 46 = .ok (.tableswitch 68 1 3 #[26, 40, 54], 26) := by decide +kernel
theorem dX7_stands_72 : decode prog_9_method_8_code 72 = .ok (.iload_n 2, 1) := by decide +kernel
theorem dX7_stands_73 : decode prog_9_method_8_code 73 = .ok (.ifCond .eq 11, 3) := by decide +kernel
theorem dX7_stands_76 : decode prog_9_method_8_code 76 = .ok (.iload_n 3, 1) := by decide +kernel
theorem dX7_stands_77 : decode prog_9_method_8_code 77 = .ok (.ifCond .eq 7, 3) := by decide +kernel
theorem dX7_stands_80 : decode prog_9_method_8_code 80 = .ok (.iconst 1, 1) := by decide +kernel
theorem dX7_stands_81 : decode prog_9_method_8_code 81 = .ok (.goto 4, 3) := by decide +kernel
theorem dX7_stands_84 : decode prog_9_method_8_code 84 = .ok (.iconst 0, 1) := by decide +kernel
theorem dX7_stands_85 : decode prog_9_method_8_code 85 = .ok (.ireturn, 1) := by decide +kernel
theorem dX7_stands_86 : decode prog_9_method_8_code 86 = .ok (.iload_n 2, 1) := by decide +kernel
theorem dX7_stands_87 : decode prog_9_method_8_code 87 = .ok (.ifCond .ne 7, 3) := by decide +kernel
theorem dX7_stands_90 : decode prog_9_method_8_code 90 = .ok (.iload_n 3, 1) := by decide +kernel
theorem dX7_stands_91 : decode prog_9_method_8_code 91 = .ok (.ifCond .eq 7, 3) := by decide +kernel
theorem dX7_stands_94 : decode prog_9_method_8_code 94 = .ok (.iconst 1, 1) := by decide +kernel
theorem dX7_stands_95 : decode prog_9_method_8_code 95 = .ok (.goto 4, 3) := by decide +kernel
theorem dX7_stands_98 : decode prog_9_method_8_code 98 = .ok (.iconst 0, 1) := by decide +kernel
theorem dX7_stands_99 : decode prog_9_method_8_code 99 = .ok (.ireturn, 1) := by decide +kernel
theorem dX7_stands_100 : decode prog_9_method_8_code 100 = .ok (.iload_n 2, 1) := by decide +kernel
theorem dX7_stands_101 : decode prog_9_method_8_code 101 = .ok (.ifCond .eq 7, 3) := by decide +kernel
theorem dX7_stands_104 : decode prog_9_method_8_code 104 = .ok (.iload_n 3, 1) := by decide +kernel
theorem dX7_stands_105 : decode prog_9_method_8_code 105 = .ok (.ifCond .eq 7, 3) := by decide +kernel
theorem dX7_stands_108 : decode prog_9_method_8_code 108 = .ok (.iconst 1, 1) := by decide +kernel
theorem dX7_stands_109 : decode prog_9_method_8_code 109 = .ok (.goto 4, 3) := by decide +kernel
theorem dX7_stands_112 : decode prog_9_method_8_code 112 = .ok (.iconst 0, 1) := by decide +kernel
theorem dX7_stands_113 : decode prog_9_method_8_code 113 = .ok (.ireturn, 1) := by decide +kernel
theorem dX7_stands_114 : decode prog_9_method_8_code 114 = .ok (.iload_n 2, 1) := by decide +kernel
theorem dX7_stands_115 : decode prog_9_method_8_code 115 = .ok (.ireturn, 1) := by decide +kernel
theorem dX7_believed_0 : decode prog_9_method_9_code 0 = .ok (.aload_n 0, 1) := by decide +kernel
theorem dX7_believed_1 : decode prog_9_method_9_code 1 = .ok (.getfield 13, 3) := by decide +kernel
theorem dX7_believed_4 : decode prog_9_method_9_code 4 = .ok (.tableswitch 82 1 3 #[28, 52, 66], 28) := by decide +kernel
theorem dX7_believed_32 : decode prog_9_method_9_code 32 = .ok (.iload_n 1, 1) := by decide +kernel
theorem dX7_believed_33 : decode prog_9_method_9_code 33 = .ok (.aload_n 0, 1) := by decide +kernel
theorem dX7_believed_34 : decode prog_9_method_9_code 34 = .ok (.getfield 17, 3) := by decide +kernel
theorem dX7_believed_37 : decode prog_9_method_9_code 37 = .ok (.aload_n 0, 1) := by decide +kernel
theorem dX7_believed_38 : decode prog_9_method_9_code 38 = .ok (.getfield 20, 3) := by decide +kernel
theorem dX7_believed_41 : decode prog_9_method_9_code 41 = .ok (.invokestatic 29, 3) := by decide +kernel
theorem dX7_believed_44 : decode prog_9_method_9_code 44 = .ok (.aload_n 0, 1) := by decide +kernel
theorem dX7_believed_45 : decode prog_9_method_9_code 45 = .ok (.getfield 23, 3) := by decide +kernel
theorem dX7_believed_48 : decode prog_9_method_9_code 48 = .ok (.aload_n 0, 1) := by decide +kernel
theorem dX7_believed_49 : decode prog_9_method_9_code 49 = .ok (.getfield 26, 3) := by decide +kernel
theorem dX7_believed_52 : decode prog_9_method_9_code 52 = .ok (.invokestatic 29, 3) := by decide +kernel
theorem dX7_believed_55 : decode prog_9_method_9_code 55 = .ok (.ireturn, 1) := by decide +kernel
theorem dX7_believed_56 : decode prog_9_method_9_code 56 = .ok (.aload_n 0, 1) := by decide +kernel
theorem dX7_believed_57 : decode prog_9_method_9_code 57 = .ok (.iload_n 1, 1) := by decide +kernel
theorem dX7_believed_58 : decode prog_9_method_9_code 58 = .ok (.aload_n 0, 1) := by decide +kernel
theorem dX7_believed_59 : decode prog_9_method_9_code 59 = .ok (.getfield 20, 3) := by decide +kernel
theorem dX7_believed_62 : decode prog_9_method_9_code 62 = .ok (.aload_n 0, 1) := by decide +kernel
theorem dX7_believed_63 : decode prog_9_method_9_code 63 = .ok (.getfield 26, 3) := by decide +kernel
theorem dX7_believed_66 : decode prog_9_method_9_code 66 = .ok (.invokevirtual 35, 3) := by decide +kernel
theorem dX7_believed_69 : decode prog_9_method_9_code 69 = .ok (.ireturn, 1) := by decide +kernel
theorem dX7_believed_70 : decode prog_9_method_9_code 70 = .ok (.aload_n 0, 1) := by decide +kernel
theorem dX7_believed_71 : decode prog_9_method_9_code 71 = .ok (.iload_n 1, 1) := by decide +kernel
theorem dX7_believed_72 : decode prog_9_method_9_code 72 = .ok (.iconst 1, 1) := by decide +kernel
theorem dX7_believed_73 : decode prog_9_method_9_code 73 = .ok (.aload_n 0, 1) := by decide +kernel
theorem dX7_believed_74 : decode prog_9_method_9_code 74 = .ok (.getfield 20, 3) := by decide +kernel
theorem dX7_believed_77 : decode prog_9_method_9_code 77 = .ok (.isub, 1) := by decide +kernel
theorem dX7_believed_78 : decode prog_9_method_9_code 78 = .ok (.aload_n 0, 1) := by decide +kernel
theorem dX7_believed_79 : decode prog_9_method_9_code 79 = .ok (.getfield 26, 3) := by decide +kernel
theorem dX7_believed_82 : decode prog_9_method_9_code 82 = .ok (.invokevirtual 35, 3) := by decide +kernel
theorem dX7_believed_85 : decode prog_9_method_9_code 85 = .ok (.ireturn, 1) := by decide +kernel
theorem dX7_believed_86 : decode prog_9_method_9_code 86 = .ok (.iload_n 1, 1) := by decide +kernel
theorem dX7_believed_87 : decode prog_9_method_9_code 87 = .ok (.aload_n 0, 1) := by decide +kernel
theorem dX7_believed_88 : decode prog_9_method_9_code 88 = .ok (.getfield 17, 3) := by decide +kernel
theorem dX7_believed_91 : decode prog_9_method_9_code 91 = .ok (.aload_n 0, 1) := by decide +kernel
theorem dX7_believed_92 : decode prog_9_method_9_code 92 = .ok (.getfield 20, 3) := by decide +kernel
theorem dX7_believed_95 : decode prog_9_method_9_code 95 = .ok (.invokestatic 29, 3) := by decide +kernel
theorem dX7_believed_98 : decode prog_9_method_9_code 98 = .ok (.ireturn, 1) := by decide +kernel
theorem dX7_doubted_0 : decode prog_9_method_10_code 0 = .ok (.aload_n 0, 1) := by decide +kernel
theorem dX7_doubted_1 : decode prog_9_method_10_code 1 = .ok (.getfield 13, 3) := by decide +kernel
theorem dX7_doubted_4 : decode prog_9_method_10_code 4 = .ok (.tableswitch 100 1 3 #[28, 46, 74], 28) := by decide +kernel
theorem dX7_doubted_32 : decode prog_9_method_10_code 32 = .ok (.aload_n 0, 1) := by decide +kernel
theorem dX7_doubted_33 : decode prog_9_method_10_code 33 = .ok (.iload_n 1, 1) := by decide +kernel
theorem dX7_doubted_34 : decode prog_9_method_10_code 34 = .ok (.iconst 1, 1) := by decide +kernel
theorem dX7_doubted_35 : decode prog_9_method_10_code 35 = .ok (.aload_n 0, 1) := by decide +kernel
theorem dX7_doubted_36 : decode prog_9_method_10_code 36 = .ok (.getfield 20, 3) := by decide +kernel
theorem dX7_doubted_39 : decode prog_9_method_10_code 39 = .ok (.isub, 1) := by decide +kernel
theorem dX7_doubted_40 : decode prog_9_method_10_code 40 = .ok (.iconst 1, 1) := by decide +kernel
theorem dX7_doubted_41 : decode prog_9_method_10_code 41 = .ok (.aload_n 0, 1) := by decide +kernel
theorem dX7_doubted_42 : decode prog_9_method_10_code 42 = .ok (.getfield 26, 3) := by decide +kernel
theorem dX7_doubted_45 : decode prog_9_method_10_code 45 = .ok (.isub, 1) := by decide +kernel
theorem dX7_doubted_46 : decode prog_9_method_10_code 46 = .ok (.invokevirtual 35, 3) := by decide +kernel
theorem dX7_doubted_49 : decode prog_9_method_10_code 49 = .ok (.ireturn, 1) := by decide +kernel
theorem dX7_doubted_50 : decode prog_9_method_10_code 50 = .ok (.iload_n 1, 1) := by decide +kernel
theorem dX7_doubted_51 : decode prog_9_method_10_code 51 = .ok (.aload_n 0, 1) := by decide +kernel
theorem dX7_doubted_52 : decode prog_9_method_10_code 52 = .ok (.getfield 17, 3) := by decide +kernel
theorem dX7_doubted_55 : decode prog_9_method_10_code 55 = .ok (.iconst 1, 1) := by decide +kernel
theorem dX7_doubted_56 : decode prog_9_method_10_code 56 = .ok (.aload_n 0, 1) := by decide +kernel
theorem dX7_doubted_57 : decode prog_9_method_10_code 57 = .ok (.getfield 20, 3) := by decide +kernel
theorem dX7_doubted_60 : decode prog_9_method_10_code 60 = .ok (.isub, 1) := by decide +kernel
theorem dX7_doubted_61 : decode prog_9_method_10_code 61 = .ok (.invokestatic 29, 3) := by decide +kernel
theorem dX7_doubted_64 : decode prog_9_method_10_code 64 = .ok (.aload_n 0, 1) := by decide +kernel
theorem dX7_doubted_65 : decode prog_9_method_10_code 65 = .ok (.getfield 23, 3) := by decide +kernel
theorem dX7_doubted_68 : decode prog_9_method_10_code 68 = .ok (.iconst 1, 1) := by decide +kernel
theorem dX7_doubted_69 : decode prog_9_method_10_code 69 = .ok (.aload_n 0, 1) := by decide +kernel
theorem dX7_doubted_70 : decode prog_9_method_10_code 70 = .ok (.getfield 26, 3) := by decide +kernel
theorem dX7_doubted_73 : decode prog_9_method_10_code 73 = .ok (.isub, 1) := by decide +kernel
theorem dX7_doubted_74 : decode prog_9_method_10_code 74 = .ok (.invokestatic 29, 3) := by decide +kernel
theorem dX7_doubted_77 : decode prog_9_method_10_code 77 = .ok (.ireturn, 1) := by decide +kernel
theorem dX7_doubted_78 : decode prog_9_method_10_code 78 = .ok (.iload_n 1, 1) := by decide +kernel
theorem dX7_doubted_79 : decode prog_9_method_10_code 79 = .ok (.aload_n 0, 1) := by decide +kernel
theorem dX7_doubted_80 : decode prog_9_method_10_code 80 = .ok (.getfield 17, 3) := by decide +kernel
theorem dX7_doubted_83 : decode prog_9_method_10_code 83 = .ok (.aload_n 0, 1) := by decide +kernel
theorem dX7_doubted_84 : decode prog_9_method_10_code 84 = .ok (.getfield 20, 3) := by decide +kernel
theorem dX7_doubted_87 : decode prog_9_method_10_code 87 = .ok (.invokestatic 29, 3) := by decide +kernel
theorem dX7_doubted_90 : decode prog_9_method_10_code 90 = .ok (.aload_n 0, 1) := by decide +kernel
theorem dX7_doubted_91 : decode prog_9_method_10_code 91 = .ok (.getfield 23, 3) := by decide +kernel
theorem dX7_doubted_94 : decode prog_9_method_10_code 94 = .ok (.iconst 1, 1) := by decide +kernel
theorem dX7_doubted_95 : decode prog_9_method_10_code 95 = .ok (.aload_n 0, 1) := by decide +kernel
theorem dX7_doubted_96 : decode prog_9_method_10_code 96 = .ok (.getfield 26, 3) := by decide +kernel
theorem dX7_doubted_99 : decode prog_9_method_10_code 99 = .ok (.isub, 1) := by decide +kernel
theorem dX7_doubted_100 : decode prog_9_method_10_code 100 = .ok (.invokestatic 29, 3) := by decide +kernel
theorem dX7_doubted_103 : decode prog_9_method_10_code 103 = .ok (.ireturn, 1) := by decide +kernel
theorem dX7_doubted_104 : decode prog_9_method_10_code 104 = .ok (.iload_n 1, 1) := by decide +kernel
theorem dX7_doubted_105 : decode prog_9_method_10_code 105 = .ok (.aload_n 0, 1) := by decide +kernel
theorem dX7_doubted_106 : decode prog_9_method_10_code 106 = .ok (.getfield 17, 3) := by decide +kernel
theorem dX7_doubted_109 : decode prog_9_method_10_code 109 = .ok (.iconst 1, 1) := by decide +kernel
theorem dX7_doubted_110 : decode prog_9_method_10_code 110 = .ok (.aload_n 0, 1) := by decide +kernel
theorem dX7_doubted_111 : decode prog_9_method_10_code 111 = .ok (.getfield 20, 3) := by decide +kernel
theorem dX7_doubted_114 : decode prog_9_method_10_code 114 = .ok (.isub, 1) := by decide +kernel
theorem dX7_doubted_115 : decode prog_9_method_10_code 115 = .ok (.invokestatic 29, 3) := by decide +kernel
theorem dX7_doubted_118 : decode prog_9_method_10_code 118 = .ok (.ireturn, 1) := by decide +kernel
theorem dX7_oneAtLeast_0 : decode prog_9_method_11_code 0 = .ok (.iload_n 1, 1) := by decide +kernel
theorem dX7_oneAtLeast_1 : decode prog_9_method_11_code 1 = .ok (.aload_n 0, 1) := by decide +kernel
theorem dX7_oneAtLeast_2 : decode prog_9_method_11_code 2 = .ok (.getfield 17, 3) := by decide +kernel
theorem dX7_oneAtLeast_5 : decode prog_9_method_11_code 5 = .ok (.iconst 1, 1) := by decide +kernel
theorem dX7_oneAtLeast_6 : decode prog_9_method_11_code 6 = .ok (.iload_n 2, 1) := by decide +kernel
theorem dX7_oneAtLeast_7 : decode prog_9_method_11_code 7 = .ok (.isub, 1) := by decide +kernel
theorem dX7_oneAtLeast_8 : decode prog_9_method_11_code 8 = .ok (.invokestatic 38, 3) := by decide +kernel
theorem dX7_oneAtLeast_11 : decode prog_9_method_11_code 11 = .ok (.ifCond .eq 13, 3) := by decide +kernel
theorem dX7_oneAtLeast_14 : decode prog_9_method_11_code 14 = .ok (.iload_n 1, 1) := by decide +kernel
theorem dX7_oneAtLeast_15 : decode prog_9_method_11_code 15 = .ok (.aload_n 0, 1) := by decide +kernel
theorem dX7_oneAtLeast_16 : decode prog_9_method_11_code 16 = .ok (.getfield 23, 3) := by decide +kernel
theorem dX7_oneAtLeast_19 : decode prog_9_method_11_code 19 = .ok (.iload_n 3, 1) := by decide +kernel
theorem dX7_oneAtLeast_20 : decode prog_9_method_11_code 20 = .ok (.invokestatic 29, 3) := by decide +kernel
theorem dX7_oneAtLeast_23 : decode prog_9_method_11_code 23 = .ok (.ireturn, 1) := by decide +kernel
theorem dX7_oneAtLeast_24 : decode prog_9_method_11_code 24 = .ok (.iload_n 1, 1) := by decide +kernel
theorem dX7_oneAtLeast_25 : decode prog_9_method_11_code 25 = .ok (.aload_n 0, 1) := by decide +kernel
theorem dX7_oneAtLeast_26 : decode prog_9_method_11_code 26 = .ok (.getfield 23, 3) := by decide +kernel
theorem dX7_oneAtLeast_29 : decode prog_9_method_11_code 29 = .ok (.iconst 1, 1) := by decide +kernel
theorem dX7_oneAtLeast_30 : decode prog_9_method_11_code 30 = .ok (.iload_n 3, 1) := by decide +kernel
theorem dX7_oneAtLeast_31 : decode prog_9_method_11_code 31 = .ok (.isub, 1) := by decide +kernel
theorem dX7_oneAtLeast_32 : decode prog_9_method_11_code 32 = .ok (.invokestatic 38, 3) := by decide +kernel
theorem dX7_oneAtLeast_35 : decode prog_9_method_11_code 35 = .ok (.ifCond .eq 15, 3) := by decide +kernel
theorem dX7_oneAtLeast_38 : decode prog_9_method_11_code 38 = .ok (.iload_n 1, 1) := by decide +kernel
theorem dX7_oneAtLeast_39 : decode prog_9_method_11_code 39 = .ok (.aload_n 0, 1) := by decide +kernel
theorem dX7_oneAtLeast_40 : decode prog_9_method_11_code 40 = .ok (.getfield 17, 3) := by decide +kernel
theorem dX7_oneAtLeast_43 : decode prog_9_method_11_code 43 = .ok (.iload_n 2, 1) := by decide +kernel
theorem dX7_oneAtLeast_44 : decode prog_9_method_11_code 44 = .ok (.invokestatic 29, 3) := by decide +kernel
theorem dX7_oneAtLeast_47 : decode prog_9_method_11_code 47 = .ok (.goto 4, 3) := by decide +kernel
theorem dX7_oneAtLeast_50 : decode prog_9_method_11_code 50 = .ok (.iload_n 1, 1) := by decide +kernel
theorem dX7_oneAtLeast_51 : decode prog_9_method_11_code 51 = .ok (.ireturn, 1) := by decide +kernel
