theorem dX8_init_0 : decode prog_1_method_1_code 0 = .ok (.aload_n 0, 1) := by decide +kernel
theorem dX8_init_1 : decode prog_1_method_1_code 1 = .ok (.invokespecial 1, 3) := by decide +kernel
theorem dX8_init_4 : decode prog_1_method_1_code 4 = .ok (.aload_n 0, 1) := by decide +kernel
theorem dX8_init_5 : decode prog_1_method_1_code 5 = .ok (.new 7, 3) := by decide +kernel
theorem dX8_init_8 : decode prog_1_method_1_code 8 = .ok (.dup, 1) := by decide +kernel
theorem dX8_init_9 : decode prog_1_method_1_code 9 = .ok (.invokespecial 9, 3) := by decide +kernel
theorem dX8_init_12 : decode prog_1_method_1_code 12 = .ok (.putfield 10, 3) := by decide +kernel
theorem dX8_init_15 : decode prog_1_method_1_code 15 = .ok (.aload_n 0, 1) := by decide +kernel
theorem dX8_init_16 : decode prog_1_method_1_code 16 = .ok (.new 16, 3) := by decide +kernel
theorem dX8_init_19 : decode prog_1_method_1_code 19 = .ok (.dup, 1) := by decide +kernel
theorem dX8_init_20 : decode prog_1_method_1_code 20 = .ok (.invokespecial 18, 3) := by decide +kernel
theorem dX8_init_23 : decode prog_1_method_1_code 23 = .ok (.putfield 19, 3) := by decide +kernel
theorem dX8_init_26 : decode prog_1_method_1_code 26 = .ok (.aload_n 0, 1) := by decide +kernel
theorem dX8_init_27 : decode prog_1_method_1_code 27 = .ok (.new 23, 3) := by decide +kernel
theorem dX8_init_30 : decode prog_1_method_1_code 30 = .ok (.dup, 1) := by decide +kernel
theorem dX8_init_31 : decode prog_1_method_1_code 31 = .ok (.invokespecial 25, 3) := by decide +kernel
theorem dX8_init_34 : decode prog_1_method_1_code 34 = .ok (.putfield 26, 3) := by decide +kernel
theorem dX8_init_37 : decode prog_1_method_1_code 37 = .ok (.aload_n 0, 1) := by decide +kernel
theorem dX8_init_38 : decode prog_1_method_1_code 38 = .ok (.new 30, 3) := by decide +kernel
theorem dX8_init_41 : decode prog_1_method_1_code 41 = .ok (.dup, 1) := by decide +kernel
theorem dX8_init_42 : decode prog_1_method_1_code 42 = .ok (.invokespecial 32, 3) := by decide +kernel
theorem dX8_init_45 : decode prog_1_method_1_code 45 = .ok (.putfield 33, 3) := by decide +kernel
theorem dX8_init_48 : decode prog_1_method_1_code 48 = .ok (.aload_n 0, 1) := by decide +kernel
theorem dX8_init_49 : decode prog_1_method_1_code 49 = .ok (.new 37, 3) := by decide +kernel
theorem dX8_init_52 : decode prog_1_method_1_code 52 = .ok (.dup, 1) := by decide +kernel
theorem dX8_init_53 : decode prog_1_method_1_code 53 = .ok (.aload_n 0, 1) := by decide +kernel
theorem dX8_init_54 : decode prog_1_method_1_code 54 = .ok (.getfield 10, 3) := by decide +kernel
theorem dX8_init_57 : decode prog_1_method_1_code 57 = .ok (.invokespecial 39, 3) := by decide +kernel
theorem dX8_init_60 : decode prog_1_method_1_code 60 = .ok (.putfield 42, 3) := by decide +kernel
theorem dX8_init_63 : decode prog_1_method_1_code 63 = .ok (.aload_n 0, 1) := by decide +kernel
theorem dX8_init_64 : decode prog_1_method_1_code 64 = .ok (.new 46, 3) := by decide +kernel
theorem dX8_init_67 : decode prog_1_method_1_code 67 = .ok (.dup, 1) := by decide +kernel
theorem dX8_init_68 : decode prog_1_method_1_code 68 = .ok (.aload_n 0, 1) := by decide +kernel
theorem dX8_init_69 : decode prog_1_method_1_code 69 = .ok (.getfield 10, 3) := by decide +kernel
theorem dX8_init_72 : decode prog_1_method_1_code 72 = .ok (.aload_n 0, 1) := by decide +kernel
theorem dX8_init_73 : decode prog_1_method_1_code 73 = .ok (.getfield 42, 3) := by decide +kernel
theorem dX8_init_76 : decode prog_1_method_1_code 76 = .ok (.new 37, 3) := by decide +kernel
theorem dX8_init_79 : decode prog_1_method_1_code 79 = .ok (.dup, 1) := by decide +kernel
theorem dX8_init_80 : decode prog_1_method_1_code 80 = .ok (.aload_n 0, 1) := by decide +kernel
theorem dX8_init_81 : decode prog_1_method_1_code 81 = .ok (.getfield 10, 3) := by decide +kernel
theorem dX8_init_84 : decode prog_1_method_1_code 84 = .ok (.invokespecial 39, 3) := by decide +kernel
theorem dX8_init_87 : decode prog_1_method_1_code 87 = .ok (.invokespecial 48, 3) := by decide +kernel
theorem dX8_init_90 : decode prog_1_method_1_code 90 = .ok (.putfield 51, 3) := by decide +kernel
theorem dX8_init_93 : decode prog_1_method_1_code 93 = .ok (.return_, 1) := by decide +kernel
theorem dX8_write_0 : decode prog_1_method_2_code 0 = .ok (.iload_n 1, 1) := by decide +kernel
theorem dX8_write_1 : decode prog_1_method_2_code 1 = .ok (.ifCond .lt 10, 3) := by decide +kernel
theorem dX8_write_4 : decode prog_1_method_2_code 4 = .ok (.iload_n 1, 1) := by decide +kernel
theorem dX8_write_5 : decode prog_1_method_2_code 5 = .ok (.sipush 255, 3) := by decide +kernel
theorem dX8_write_8 : decode prog_1_method_2_code 8 = .ok (.if_icmp .le 6, 3) := by decide +kernel
theorem dX8_write_11 : decode prog_1_method_2_code 11 = .ok (.bipush (-3), 2) := by decide +kernel
theorem dX8_write_13 : decode prog_1_method_2_code 13 = .ok (.ireturn, 1) := by decide +kernel
theorem dX8_write_14 : decode prog_1_method_2_code 14 = .ok (.aload_n 0, 1) := by decide +kernel
theorem dX8_write_15 : decode prog_1_method_2_code 15 = .ok (.getfield 19, 3) := by decide +kernel
theorem dX8_write_18 : decode prog_1_method_2_code 18 = .ok (.iload_n 1, 1) := by decide +kernel
theorem dX8_write_19 : decode prog_1_method_2_code 19 = .ok (.invokevirtual 55, 3) := by decide +kernel
theorem dX8_write_22 : decode prog_1_method_2_code 22 = .ok (.ifCond .eq 13, 3) := by decide +kernel
theorem dX8_write_25 : decode prog_1_method_2_code 25 = .ok (.aload_n 0, 1) := by decide +kernel
theorem dX8_write_26 : decode prog_1_method_2_code 26 = .ok (.getfield 19, 3) := by decide +kernel
theorem dX8_write_29 : decode prog_1_method_2_code 29 = .ok (.getfield 59, 3) := by decide +kernel
theorem dX8_write_32 : decode prog_1_method_2_code 32 = .ok (.goto 5, 3) := by decide +kernel
theorem dX8_write_35 : decode prog_1_method_2_code 35 = .ok (.bipush (-5), 2) := by decide +kernel
theorem dX8_write_37 : decode prog_1_method_2_code 37 = .ok (.ireturn, 1) := by decide +kernel
theorem dX8_erase_0 : decode prog_1_method_3_code 0 = .ok (.aload_n 0, 1) := by decide +kernel
theorem dX8_erase_1 : decode prog_1_method_3_code 1 = .ok (.getfield 19, 3) := by decide +kernel
theorem dX8_erase_4 : decode prog_1_method_3_code 4 = .ok (.getfield 59, 3) := by decide +kernel
theorem dX8_erase_7 : decode prog_1_method_3_code 7 = .ok (.istore_n 1, 1) := by decide +kernel
theorem dX8_erase_8 : decode prog_1_method_3_code 8 = .ok (.aload_n 0, 1) := by decide +kernel
theorem dX8_erase_9 : decode prog_1_method_3_code 9 = .ok (.getfield 19, 3) := by decide +kernel
theorem dX8_erase_12 : decode prog_1_method_3_code 12 = .ok (.iconst 0, 1) := by decide +kernel
theorem dX8_erase_13 : decode prog_1_method_3_code 13 = .ok (.putfield 59, 3) := by decide +kernel
theorem dX8_erase_16 : decode prog_1_method_3_code 16 = .ok (.iload_n 1, 1) := by decide +kernel
theorem dX8_erase_17 : decode prog_1_method_3_code 17 = .ok (.ireturn, 1) := by decide +kernel
theorem dX8_fault_0 : decode prog_1_method_4_code 0 = .ok (.aload_n 0, 1) := by decide +kernel
theorem dX8_fault_1 : decode prog_1_method_4_code 1 = .ok (.getfield 19, 3) := by decide +kernel
theorem dX8_fault_4 : decode prog_1_method_4_code 4 = .ok (.aload_n 0, 1) := by decide +kernel
theorem dX8_fault_5 : decode prog_1_method_4_code 5 = .ok (.getfield 10, 3) := by decide +kernel
theorem dX8_fault_8 : decode prog_1_method_4_code 8 = .ok (.invokevirtual 63, 3) := by decide +kernel
theorem dX8_fault_11 : decode prog_1_method_4_code 11 = .ok (.ireturn, 1) := by decide +kernel
theorem dX8_city_0 : decode prog_1_method_5_code 0 = .ok (.aload_n 0, 1) := by decide +kernel
theorem dX8_city_1 : decode prog_1_method_5_code 1 = .ok (.getfield 19, 3) := by decide +kernel
theorem dX8_city_4 : decode prog_1_method_5_code 4 = .ok (.aload_n 0, 1) := by decide +kernel
theorem dX8_city_5 : decode prog_1_method_5_code 5 = .ok (.getfield 10, 3) := by decide +kernel
theorem dX8_city_8 : decode prog_1_method_5_code 8 = .ok (.invokevirtual 63, 3) := by decide +kernel
theorem dX8_city_11 : decode prog_1_method_5_code 11 = .ok (.iconst (-1), 1) := by decide +kernel
theorem dX8_city_12 : decode prog_1_method_5_code 12 = .ok (.if_icmp .eq 6, 3) := by decide +kernel
theorem dX8_city_15 : decode prog_1_method_5_code 15 = .ok (.bipush (-4), 2) := by decide +kernel
theorem dX8_city_17 : decode prog_1_method_5_code 17 = .ok (.ireturn, 1) := by decide +kernel
theorem dX8_city_18 : decode prog_1_method_5_code 18 = .ok (.iconst 0, 1) := by decide +kernel
theorem dX8_city_19 : decode prog_1_method_5_code 19 = .ok (.istore_n 1, 1) := by decide +kernel
theorem dX8_city_20 : decode prog_1_method_5_code 20 = .ok (.iload_n 1, 1) := by decide +kernel
theorem dX8_city_21 : decode prog_1_method_5_code 21 = .ok (.aload_n 0, 1) := by decide +kernel
theorem dX8_city_22 : decode prog_1_method_5_code 22 = .ok (.getfield 19, 3) := by decide +kernel
theorem dX8_city_25 : decode prog_1_method_5_code 25 = .ok (.getfield 67, 3) := by decide +kernel
theorem dX8_city_28 : decode prog_1_method_5_code 28 = .ok (.if_icmp .ge 25, 3) := by decide +kernel
theorem dX8_city_31 : decode prog_1_method_5_code 31 = .ok (.aload_n 0, 1) := by decide +kernel
theorem dX8_city_32 : decode prog_1_method_5_code 32 = .ok (.getfield 10, 3) := by decide +kernel
theorem dX8_city_35 : decode prog_1_method_5_code 35 = .ok (.aload_n 0, 1) := by decide +kernel
theorem dX8_city_36 : decode prog_1_method_5_code 36 = .ok (.getfield 19, 3) := by decide +kernel
theorem dX8_city_39 : decode prog_1_method_5_code 39 = .ok (.getfield 70, 3) := by decide +kernel
theorem dX8_city_42 : decode prog_1_method_5_code 42 = .ok (.iload_n 1, 1) := by decide +kernel
theorem dX8_city_43 : decode prog_1_method_5_code 43 = .ok (.aaload, 1) := by decide +kernel
theorem dX8_city_44 : decode prog_1_method_5_code 44 = .ok (.invokevirtual 74, 3) := by decide +kernel
theorem dX8_city_47 : decode prog_1_method_5_code 47 = .ok (.iinc 1 1, 3) := by decide +kernel
theorem dX8_city_50 : decode prog_1_method_5_code 50 = .ok (.goto (-30), 3) := by decide +kernel
theorem dX8_city_53 : decode prog_1_method_5_code 53 = .ok (.aload_n 0, 1) := by decide +kernel
theorem dX8_city_54 : decode prog_1_method_5_code 54 = .ok (.getfield 26, 3) := by decide +kernel
theorem dX8_city_57 : decode prog_1_method_5_code 57 = .ok (.aload_n 0, 1) := by decide +kernel
theorem dX8_city_58 : decode prog_1_method_5_code 58 = .ok (.getfield 10, 3) := by decide +kernel
theorem dX8_city_61 : decode prog_1_method_5_code 61 = .ok (.getfield 78, 3) := by decide +kernel
theorem dX8_city_64 : decode prog_1_method_5_code 64 = .ok (.invokevirtual 81, 3) := by decide +kernel
theorem dX8_city_67 : decode prog_1_method_5_code 67 = .ok (.aload_n 0, 1) := by decide +kernel
theorem dX8_city_68 : decode prog_1_method_5_code 68 = .ok (.getfield 33, 3) := by decide +kernel
theorem dX8_city_71 : decode prog_1_method_5_code 71 = .ok (.iconst 0, 1) := by decide +kernel
theorem dX8_city_72 : decode prog_1_method_5_code 72 = .ok (.putfield 85, 3) := by decide +kernel
theorem dX8_city_75 : decode prog_1_method_5_code 75 = .ok (.aload_n 0, 1) := by decide +kernel
theorem dX8_city_76 : decode prog_1_method_5_code 76 = .ok (.getfield 19, 3) := by decide +kernel
theorem dX8_city_79 : decode prog_1_method_5_code 79 = .ok (.iconst 0, 1) := by decide +kernel
theorem dX8_city_80 : decode prog_1_method_5_code 80 = .ok (.putfield 59, 3) := by decide +kernel
theorem dX8_city_83 : decode prog_1_method_5_code 83 = .ok (.aload_n 0, 1) := by decide +kernel
theorem dX8_city_84 : decode prog_1_method_5_code 84 = .ok (.getfield 19, 3) := by decide +kernel
theorem dX8_city_87 : decode prog_1_method_5_code 87 = .ok (.getfield 67, 3) := by decide +kernel
theorem dX8_city_90 : decode prog_1_method_5_code 90 = .ok (.ireturn, 1) := by decide +kernel
theorem dX8_fact_0 : decode prog_1_method_6_code 0 = .ok (.aload_n 0, 1) := by decide +kernel
theorem dX8_fact_1 : decode prog_1_method_6_code 1 = .ok (.getfield 10, 3) := by decide +kernel
theorem dX8_fact_4 : decode prog_1_method_6_code 4 = .ok (.iload_n 1, 1) := by decide +kernel
theorem dX8_fact_5 : decode prog_1_method_6_code 5 = .ok (.invokevirtual 88, 3) := by decide +kernel
theorem dX8_fact_8 : decode prog_1_method_6_code 8 = .ok (.ifCond .ne 6, 3) := by decide +kernel
theorem dX8_fact_11 : decode prog_1_method_6_code 11 = .ok (.bipush (-2), 2) := by decide +kernel
theorem dX8_fact_13 : decode prog_1_method_6_code 13 = .ok (.ireturn, 1) := by decide +kernel
theorem dX8_fact_14 : decode prog_1_method_6_code 14 = .ok (.iload_n 2, 1) := by decide +kernel
theorem dX8_fact_15 : decode prog_1_method_6_code 15 = .ok (.ifCond .lt 8, 3) := by decide +kernel
theorem dX8_fact_18 : decode prog_1_method_6_code 18 = .ok (.iload_n 2, 1) := by decide +kernel
theorem dX8_fact_19 : decode prog_1_method_6_code 19 = .ok (.iconst 2, 1) := by decide +kernel
theorem dX8_fact_20 : decode prog_1_method_6_code 20 = .ok (.if_icmp .le 6, 3) := by decide +kernel
theorem dX8_fact_23 : decode prog_1_method_6_code 23 = .ok (.bipush (-3), 2) := by decide +kernel
theorem dX8_fact_25 : decode prog_1_method_6_code 25 = .ok (.ireturn, 1) := by decide +kernel
theorem dX8_fact_26 : decode prog_1_method_6_code 26 = .ok (.iload_n 2, 1) := by decide +kernel
theorem dX8_fact_27 : decode prog_1_method_6_code 27 = .ok (.iconst 2, 1) := by decide +kernel
theorem dX8_fact_28 : decode prog_1_method_6_code 28 = .ok (.if_icmp .ne 17, 3) := by decide +kernel
theorem dX8_fact_31 : decode prog_1_method_6_code 31 = .ok (.aload_n 0, 1) := by decide +kernel
theorem dX8_fact_32 : decode prog_1_method_6_code 32 = .ok (.getfield 26, 3) := by decide +kernel
theorem dX8_fact_35 : decode prog_1_method_6_code 35 = .ok (.getfield 91, 3) := by decide +kernel
theorem dX8_fact_38 : decode prog_1_method_6_code 38 = .ok (.iload_n 1, 1) := by decide +kernel
theorem dX8_fact_39 : decode prog_1_method_6_code 39 = .ok (.ishr, 1) := by decide +kernel
theorem dX8_fact_40 : decode prog_1_method_6_code 40 = .ok (.iconst 1, 1) := by decide +kernel
theorem dX8_fact_41 : decode prog_1_method_6_code 41 = .ok (.iand, 1) := by decide +kernel
theorem dX8_fact_42 : decode prog_1_method_6_code 42 = .ok (.goto 14, 3) := by decide +kernel
theorem dX8_fact_45 : decode prog_1_method_6_code 45 = .ok (.aload_n 0, 1) := by decide +kernel
theorem dX8_fact_46 : decode prog_1_method_6_code 46 = .ok (.getfield 10, 3) := by decide +kernel
theorem dX8_fact_49 : decode prog_1_method_6_code 49 = .ok (.getfield 94, 3) := by decide +kernel
theorem dX8_fact_52 : decode prog_1_method_6_code 52 = .ok (.iload_n 1, 1) := by decide +kernel
theorem dX8_fact_53 : decode prog_1_method_6_code 53 = .ok (.aaload, 1) := by decide +kernel
theorem dX8_fact_54 : decode prog_1_method_6_code 54 = .ok (.iload_n 2, 1) := by decide +kernel
theorem dX8_fact_55 : decode prog_1_method_6_code 55 = .ok (.iaload, 1) := by decide +kernel
theorem dX8_fact_56 : decode prog_1_method_6_code 56 = .ok (.ireturn, 1) := by decide +kernel
theorem dX8_one_0 : decode prog_1_method_7_code 0 = .ok (.aload_n 0, 1) := by decide +kernel
theorem dX8_one_1 : decode prog_1_method_7_code 1 = .ok (.getfield 10, 3) := by decide +kernel
theorem dX8_one_4 : decode prog_1_method_7_code 4 = .ok (.iload_n 1, 1) := by decide +kernel
theorem dX8_one_5 : decode prog_1_method_7_code 5 = .ok (.invokevirtual 97, 3) := by decide +kernel
theorem dX8_one_8 : decode prog_1_method_7_code 8 = .ok (.ifCond .ne 6, 3) := by decide +kernel
theorem dX8_one_11 : decode prog_1_method_7_code 11 = .ok (.bipush (-2), 2) := by decide +kernel
theorem dX8_one_13 : decode prog_1_method_7_code 13 = .ok (.ireturn, 1) := by decide +kernel
theorem dX8_one_14 : decode prog_1_method_7_code 14 = .ok (.iload_n 2, 1) := by decide +kernel
theorem dX8_one_15 : decode prog_1_method_7_code 15 = .ok (.ifCond .lt 8, 3) := by decide +kernel
theorem dX8_one_18 : decode prog_1_method_7_code 18 = .ok (.iload_n 2, 1) := by decide +kernel
theorem dX8_one_19 : decode prog_1_method_7_code 19 = .ok (.iconst 5, 1) := by decide +kernel
theorem dX8_one_20 : decode prog_1_method_7_code 20 = .ok (.if_icmp .le 8, 3) := by decide +kernel
theorem dX8_one_23 : decode prog_1_method_7_code 23 = .ok (.bipush (-3), 2) := by decide +kernel
theorem dX8_one_25 : decode prog_1_method_7_code 25 = .ok (.goto 14, 3) := by decide +kernel
theorem dX8_one_28 : decode prog_1_method_7_code 28 = .ok (.aload_n 0, 1) := by decide +kernel
theorem dX8_one_29 : decode prog_1_method_7_code 29 = .ok (.getfield 10, 3) := by decide +kernel
theorem dX8_one_32 : decode prog_1_method_7_code 32 = .ok (.getfield 100, 3) := by decide +kernel
theorem dX8_one_35 : decode prog_1_method_7_code 35 = .ok (.iload_n 1, 1) := by decide +kernel
theorem dX8_one_36 : decode prog_1_method_7_code 36 = .ok (.aaload, 1) := by decide +kernel
theorem dX8_one_37 : decode prog_1_method_7_code 37 = .ok (.iload_n 2, 1) := by decide +kernel
theorem dX8_one_38 : decode prog_1_method_7_code 38 = .ok (.iaload, 1) := by decide +kernel
theorem dX8_one_39 : decode prog_1_method_7_code 39 = .ok (.ireturn, 1) := by decide +kernel
theorem dX8_cause_0 : decode prog_1_method_8_code 0 = .ok (.iload_n 1, 1) := by decide +kernel
theorem dX8_cause_1 : decode prog_1_method_8_code 1 = .ok (.ifCond .lt 14, 3) := by decide +kernel
theorem dX8_cause_4 : decode prog_1_method_8_code 4 = .ok (.iload_n 1, 1) := by decide +kernel
theorem dX8_cause_5 : decode prog_1_method_8_code 5 = .ok (.aload_n 0, 1) := by decide +kernel
theorem dX8_cause_6 : decode prog_1_method_8_code 6 = .ok (.getfield 10, 3) := by decide +kernel
theorem dX8_cause_9 : decode prog_1_method_8_code 9 = .ok (.getfield 103, 3) := by decide +kernel
theorem dX8_cause_12 : decode prog_1_method_8_code 12 = .ok (.if_icmp .lt 6, 3) := by decide +kernel
theorem dX8_cause_15 : decode prog_1_method_8_code 15 = .ok (.bipush (-2), 2) := by decide +kernel
theorem dX8_cause_17 : decode prog_1_method_8_code 17 = .ok (.ireturn, 1) := by decide +kernel
theorem dX8_cause_18 : decode prog_1_method_8_code 18 = .ok (.iload_n 2, 1) := by decide +kernel
theorem dX8_cause_19 : decode prog_1_method_8_code 19 = .ok (.ifCond .lt 8, 3) := by decide +kernel
theorem dX8_cause_22 : decode prog_1_method_8_code 22 = .ok (.iload_n 2, 1) := by decide +kernel
theorem dX8_cause_23 : decode prog_1_method_8_code 23 = .ok (.iconst 3, 1) := by decide +kernel
theorem dX8_cause_24 : decode prog_1_method_8_code 24 = .ok (.if_icmp .le 8, 3) := by decide +kernel
theorem dX8_cause_27 : decode prog_1_method_8_code 27 = .ok (.bipush (-3), 2) := by decide +kernel
theorem dX8_cause_29 : decode prog_1_method_8_code 29 = .ok (.goto 14, 3) := by decide +kernel
theorem dX8_cause_32 : decode prog_1_method_8_code 32 = .ok (.aload_n 0, 1) := by decide +kernel
theorem dX8_cause_33 : decode prog_1_method_8_code 33 = .ok (.getfield 10, 3) := by decide +kernel
theorem dX8_cause_36 : decode prog_1_method_8_code 36 = .ok (.getfield 106, 3) := by decide +kernel
theorem dX8_cause_39 : decode prog_1_method_8_code 39 = .ok (.iload_n 1, 1) := by decide +kernel
theorem dX8_cause_40 : decode prog_1_method_8_code 40 = .ok (.aaload, 1) := by decide +kernel
theorem dX8_cause_41 : decode prog_1_method_8_code 41 = .ok (.iload_n 2, 1) := by decide +kernel
theorem dX8_cause_42 : decode prog_1_method_8_code 42 = .ok (.iaload, 1) := by decide +kernel
theorem dX8_cause_43 : decode prog_1_method_8_code 43 = .ok (.ireturn, 1) := by decide +kernel
theorem dX8_belief_0 : decode prog_1_method_9_code 0 = .ok (.aload_n 0, 1) := by decide +kernel
theorem dX8_belief_1 : decode prog_1_method_9_code 1 = .ok (.getfield 10, 3) := by decide +kernel
theorem dX8_belief_4 : decode prog_1_method_9_code 4 = .ok (.iload_n 1, 1) := by decide +kernel
theorem dX8_belief_5 : decode prog_1_method_9_code 5 = .ok (.invokevirtual 97, 3) := by decide +kernel
theorem dX8_belief_8 : decode prog_1_method_9_code 8 = .ok (.ifCond .eq 14, 3) := by decide +kernel
theorem dX8_belief_11 : decode prog_1_method_9_code 11 = .ok (.aload_n 0, 1) := by decide +kernel
theorem dX8_belief_12 : decode prog_1_method_9_code 12 = .ok (.getfield 10, 3) := by decide +kernel
theorem dX8_belief_15 : decode prog_1_method_9_code 15 = .ok (.iload_n 2, 1) := by decide +kernel
theorem dX8_belief_16 : decode prog_1_method_9_code 16 = .ok (.invokevirtual 88, 3) := by decide +kernel
theorem dX8_belief_19 : decode prog_1_method_9_code 19 = .ok (.ifCond .ne 6, 3) := by decide +kernel
theorem dX8_belief_22 : decode prog_1_method_9_code 22 = .ok (.bipush (-2), 2) := by decide +kernel
theorem dX8_belief_24 : decode prog_1_method_9_code 24 = .ok (.ireturn, 1) := by decide +kernel
theorem dX8_belief_25 : decode prog_1_method_9_code 25 = .ok (.aload_n 0, 1) := by decide +kernel
theorem dX8_belief_26 : decode prog_1_method_9_code 26 = .ok (.getfield 26, 3) := by decide +kernel
theorem dX8_belief_29 : decode prog_1_method_9_code 29 = .ok (.getfield 109, 3) := by decide +kernel
theorem dX8_belief_32 : decode prog_1_method_9_code 32 = .ok (.iload_n 1, 1) := by decide +kernel
theorem dX8_belief_33 : decode prog_1_method_9_code 33 = .ok (.invokestatic 113, 3) := by decide +kernel
theorem dX8_belief_36 : decode prog_1_method_9_code 36 = .ok (.istore_n 3, 1) := by decide +kernel
theorem dX8_belief_37 : decode prog_1_method_9_code 37 = .ok (.iload_n 3, 1) := by decide +kernel
theorem dX8_belief_38 : decode prog_1_method_9_code 38 = .ok (.iload_n 2, 1) := by decide +kernel
theorem dX8_belief_39 : decode prog_1_method_9_code 39 = .ok (.iconst 0, 1) := by decide +kernel
theorem dX8_belief_40 : decode prog_1_method_9_code 40 = .ok (.invokestatic 119, 3) := by decide +kernel
theorem dX8_belief_43 : decode prog_1_method_9_code 43 = .ok (.ifCond .eq 7, 3) := by decide +kernel
theorem dX8_belief_46 : decode prog_1_method_9_code 46 = .ok (.iconst 0, 1) := by decide +kernel
theorem dX8_belief_47 : decode prog_1_method_9_code 47 = .ok (.goto 17, 3) := by decide +kernel
theorem dX8_belief_50 : decode prog_1_method_9_code 50 = .ok (.iload_n 3, 1) := by decide +kernel
theorem dX8_belief_51 : decode prog_1_method_9_code 51 = .ok (.iload_n 2, 1) := by decide +kernel
theorem dX8_belief_52 : decode prog_1_method_9_code 52 = .ok (.iconst 1, 1) := by decide +kernel
theorem dX8_belief_53 : decode prog_1_method_9_code 53 = .ok (.invokestatic 119, 3) := by decide +kernel
theorem dX8_belief_56 : decode prog_1_method_9_code 56 = .ok (.ifCond .eq 7, 3) := by decide +kernel
theorem dX8_belief_59 : decode prog_1_method_9_code 59 = .ok (.iconst 1, 1) := by decide +kernel
theorem dX8_belief_60 : decode prog_1_method_9_code 60 = .ok (.goto 4, 3) := by decide +kernel
theorem dX8_belief_63 : decode prog_1_method_9_code 63 = .ok (.iconst (-1), 1) := by decide +kernel
theorem dX8_belief_64 : decode prog_1_method_9_code 64 = .ok (.ireturn, 1) := by decide +kernel
theorem dX8_as_0 : decode prog_1_method_10_code 0 = .ok (.aload_n 0, 1) := by decide +kernel
theorem dX8_as_1 : decode prog_1_method_10_code 1 = .ok (.getfield 10, 3) := by decide +kernel
theorem dX8_as_4 : decode prog_1_method_10_code 4 = .ok (.iload_n 1, 1) := by decide +kernel
theorem dX8_as_5 : decode prog_1_method_10_code 5 = .ok (.invokevirtual 97, 3) := by decide +kernel
theorem dX8_as_8 : decode prog_1_method_10_code 8 = .ok (.ifCond .ne 6, 3) := by decide +kernel
theorem dX8_as_11 : decode prog_1_method_10_code 11 = .ok (.bipush (-2), 2) := by decide +kernel
theorem dX8_as_13 : decode prog_1_method_10_code 13 = .ok (.ireturn, 1) := by decide +kernel
theorem dX8_as_14 : decode prog_1_method_10_code 14 = .ok (.iload_n 2, 1) := by decide +kernel
theorem dX8_as_15 : decode prog_1_method_10_code 15 = .ok (.ifCond .lt 11, 3) := by decide +kernel
theorem dX8_as_18 : decode prog_1_method_10_code 18 = .ok (.iload_n 2, 1) := by decide +kernel
theorem dX8_as_19 : decode prog_1_method_10_code 19 = .ok (.getstatic 123, 3) := by decide +kernel
theorem dX8_as_22 : decode prog_1_method_10_code 22 = .ok (.arraylength, 1) := by decide +kernel
theorem dX8_as_23 : decode prog_1_method_10_code 23 = .ok (.if_icmp .lt 6, 3) := by decide +kernel
theorem dX8_as_26 : decode prog_1_method_10_code 26 = .ok (.bipush (-3), 2) := by decide +kernel
theorem dX8_as_28 : decode prog_1_method_10_code 28 = .ok (.ireturn, 1) := by decide +kernel
theorem dX8_as_29 : decode prog_1_method_10_code 29 = .ok (.getstatic 123, 3) := by decide +kernel
theorem dX8_as_32 : decode prog_1_method_10_code 32 = .ok (.aload_n 0, 1) := by decide +kernel
theorem dX8_as_33 : decode prog_1_method_10_code 33 = .ok (.getfield 10, 3) := by decide +kernel
theorem dX8_as_36 : decode prog_1_method_10_code 36 = .ok (.getfield 100, 3) := by decide +kernel
theorem dX8_as_39 : decode prog_1_method_10_code 39 = .ok (.iload_n 1, 1) := by decide +kernel
theorem dX8_as_40 : decode prog_1_method_10_code 40 = .ok (.aaload, 1) := by decide +kernel
theorem dX8_as_41 : decode prog_1_method_10_code 41 = .ok (.iconst 0, 1) := by decide +kernel
theorem dX8_as_42 : decode prog_1_method_10_code 42 = .ok (.iaload, 1) := by decide +kernel
theorem dX8_as_43 : decode prog_1_method_10_code 43 = .ok (.iconst 1, 1) := by decide +kernel
theorem dX8_as_44 : decode prog_1_method_10_code 44 = .ok (.iadd, 1) := by decide +kernel
theorem dX8_as_45 : decode prog_1_method_10_code 45 = .ok (.iload_n 2, 1) := by decide +kernel
theorem dX8_as_46 : decode prog_1_method_10_code 46 = .ok (.invokestatic 127, 3) := by decide +kernel
theorem dX8_as_49 : decode prog_1_method_10_code 49 = .ok (.ifCond .ne 6, 3) := by decide +kernel
theorem dX8_as_52 : decode prog_1_method_10_code 52 = .ok (.bipush (-4), 2) := by decide +kernel
theorem dX8_as_54 : decode prog_1_method_10_code 54 = .ok (.ireturn, 1) := by decide +kernel
theorem dX8_as_55 : decode prog_1_method_10_code 55 = .ok (.aload_n 0, 1) := by decide +kernel
theorem dX8_as_56 : decode prog_1_method_10_code 56 = .ok (.getfield 10, 3) := by decide +kernel
theorem dX8_as_59 : decode prog_1_method_10_code 59 = .ok (.iload_n 1, 1) := by decide +kernel
theorem dX8_as_60 : decode prog_1_method_10_code 60 = .ok (.invokevirtual 131, 3) := by decide +kernel
theorem dX8_as_63 : decode prog_1_method_10_code 63 = .ok (.ifCond .eq 7, 3) := by decide +kernel
theorem dX8_as_66 : decode prog_1_method_10_code 66 = .ok (.iconst 1, 1) := by decide +kernel
theorem dX8_as_67 : decode prog_1_method_10_code 67 = .ok (.goto 4, 3) := by decide +kernel
theorem dX8_as_70 : decode prog_1_method_10_code 70 = .ok (.iconst 0, 1) := by decide +kernel
theorem dX8_as_71 : decode prog_1_method_10_code 71 = .ok (.ireturn, 1) := by decide +kernel
theorem dX8_sayingAs_0 : decode prog_1_method_11_code 0 = .ok (.iload_n 1, 1) := by decide +kernel
theorem dX8_sayingAs_1 : decode prog_1_method_11_code 1 = .ok (.ifCond .lt 23, 3) := by decide +kernel
theorem dX8_sayingAs_4 : decode prog_1_method_11_code 4 = .ok (.iload_n 1, 1) := by decide +kernel
theorem dX8_sayingAs_5 : decode prog_1_method_11_code 5 = .ok (.getstatic 134, 3) := by decide +kernel
theorem dX8_sayingAs_8 : decode prog_1_method_11_code 8 = .ok (.arraylength, 1) := by decide +kernel
theorem dX8_sayingAs_9 : decode prog_1_method_11_code 9 = .ok (.if_icmp .ge 15, 3) := by decide +kernel
theorem dX8_sayingAs_12 : decode prog_1_method_11_code 12 = .ok (.iload_n 2, 1) := by decide +kernel
theorem dX8_sayingAs_13 : decode prog_1_method_11_code 13 = .ok (.ifCond .lt 11, 3) := by decide +kernel
theorem dX8_sayingAs_16 : decode prog_1_method_11_code 16 = .ok (.iload_n 2, 1) := by decide +kernel
theorem dX8_sayingAs_17 : decode prog_1_method_11_code 17 = .ok (.getstatic 137, 3) := by decide +kernel
theorem dX8_sayingAs_20 : decode prog_1_method_11_code 20 = .ok (.arraylength, 1) := by decide +kernel
theorem dX8_sayingAs_21 : decode prog_1_method_11_code 21 = .ok (.if_icmp .lt 6, 3) := by decide +kernel
theorem dX8_sayingAs_24 : decode prog_1_method_11_code 24 = .ok (.bipush (-3), 2) := by decide +kernel
theorem dX8_sayingAs_26 : decode prog_1_method_11_code 26 = .ok (.ireturn, 1) := by decide +kernel
theorem dX8_sayingAs_27 : decode prog_1_method_11_code 27 = .ok (.getstatic 137, 3) := by decide +kernel
theorem dX8_sayingAs_30 : decode prog_1_method_11_code 30 = .ok (.getstatic 134, 3) := by decide +kernel
theorem dX8_sayingAs_33 : decode prog_1_method_11_code 33 = .ok (.iload_n 1, 1) := by decide +kernel
theorem dX8_sayingAs_34 : decode prog_1_method_11_code 34 = .ok (.iaload, 1) := by decide +kernel
theorem dX8_sayingAs_35 : decode prog_1_method_11_code 35 = .ok (.iload_n 2, 1) := by decide +kernel
theorem dX8_sayingAs_36 : decode prog_1_method_11_code 36 = .ok (.invokestatic 127, 3) := by decide +kernel
theorem dX8_sayingAs_39 : decode prog_1_method_11_code 39 = .ok (.ifCond .ne 6, 3) := by decide +kernel
theorem dX8_sayingAs_42 : decode prog_1_method_11_code 42 = .ok (.bipush (-4), 2) := by decide +kernel
theorem dX8_sayingAs_44 : decode prog_1_method_11_code 44 = .ok (.ireturn, 1) := by decide +kernel
theorem dX8_sayingAs_45 : decode prog_1_method_11_code 45 = .ok (.iload_n 1, 1) := by decide +kernel
theorem dX8_sayingAs_46 : decode prog_1_method_11_code 46 = .ok (.invokestatic 140, 3) := by decide +kernel
theorem dX8_sayingAs_49 : decode prog_1_method_11_code 49 = .ok (.ifCond .eq 7, 3) := by decide +kernel
theorem dX8_sayingAs_52 : decode prog_1_method_11_code 52 = .ok (.iconst 2, 1) := by decide +kernel
theorem dX8_sayingAs_53 : decode prog_1_method_11_code 53 = .ok (.goto 4, 3) := by decide +kernel
theorem dX8_sayingAs_56 : decode prog_1_method_11_code 56 = .ok (.iconst 1, 1) := by decide +kernel
theorem dX8_sayingAs_57 : decode prog_1_method_11_code 57 = .ok (.ireturn, 1) := by decide +kernel
theorem dX8_isUnder_0 : decode prog_1_method_12_code 0 = .ok (.iload_n 1, 1) := by decide +kernel
theorem dX8_isUnder_1 : decode prog_1_method_12_code 1 = .ok (.istore_n 3, 1) := by decide +kernel
theorem dX8_isUnder_2 : decode prog_1_method_12_code 2 = .ok (.iconst 0, 1) := by decide +kernel
theorem dX8_isUnder_3 : decode prog_1_method_12_code 3 = .ok (.istore 4, 2) := by decide +kernel
theorem dX8_isUnder_5 : decode prog_1_method_12_code 5 = .ok (.iload 4, 2) := by decide +kernel
theorem dX8_isUnder_7 : decode prog_1_method_12_code 7 = .ok (.aload_n 0, 1) := by decide +kernel
theorem dX8_isUnder_8 : decode prog_1_method_12_code 8 = .ok (.arraylength, 1) := by decide +kernel
theorem dX8_isUnder_9 : decode prog_1_method_12_code 9 = .ok (.if_icmp .ge 30, 3) := by decide +kernel
theorem dX8_isUnder_12 : decode prog_1_method_12_code 12 = .ok (.iload_n 3, 1) := by decide +kernel
theorem dX8_isUnder_13 : decode prog_1_method_12_code 13 = .ok (.ifCond .lt 26, 3) := by decide +kernel
theorem dX8_isUnder_16 : decode prog_1_method_12_code 16 = .ok (.iload_n 3, 1) := by decide +kernel
theorem dX8_isUnder_17 : decode prog_1_method_12_code 17 = .ok (.aload_n 0, 1) := by decide +kernel
theorem dX8_isUnder_18 : decode prog_1_method_12_code 18 = .ok (.arraylength, 1) := by decide +kernel
theorem dX8_isUnder_19 : decode prog_1_method_12_code 19 = .ok (.if_icmp .ge 20, 3) := by decide +kernel
theorem dX8_isUnder_22 : decode prog_1_method_12_code 22 = .ok (.iload_n 3, 1) := by decide +kernel
theorem dX8_isUnder_23 : decode prog_1_method_12_code 23 = .ok (.iload_n 2, 1) := by decide +kernel
theorem dX8_isUnder_24 : decode prog_1_method_12_code 24 = .ok (.if_icmp .ne 5, 3) := by decide +kernel
theorem dX8_isUnder_27 : decode prog_1_method_12_code 27 = .ok (.iconst 1, 1) := by decide +kernel
theorem dX8_isUnder_28 : decode prog_1_method_12_code 28 = .ok (.ireturn, 1) := by decide +kernel
theorem dX8_isUnder_29 : decode prog_1_method_12_code 29 = .ok (.aload_n 0, 1) := by decide +kernel
theorem dX8_isUnder_30 : decode prog_1_method_12_code 30 = .ok (.iload_n 3, 1) := by decide +kernel
theorem dX8_isUnder_31 : decode prog_1_method_12_code 31 = .ok (.iaload, 1) := by decide +kernel
theorem dX8_isUnder_32 : decode prog_1_method_12_code 32 = .ok (.istore_n 3, 1) := by decide +kernel
theorem dX8_isUnder_33 : decode prog_1_method_12_code 33 = .ok (.iinc 4 1, 3) := by decide +kernel
theorem dX8_isUnder_36 : decode prog_1_method_12_code 36 = .ok (.goto (-31), 3) := by decide +kernel
theorem dX8_isUnder_39 : decode prog_1_method_12_code 39 = .ok (.iconst 0, 1) := by decide +kernel
theorem dX8_isUnder_40 : decode prog_1_method_12_code 40 = .ok (.ireturn, 1) := by decide +kernel
theorem dX8_so_0 : decode prog_1_method_13_code 0 = .ok (.aload_n 0, 1) := by decide +kernel
theorem dX8_so_1 : decode prog_1_method_13_code 1 = .ok (.iload_n 1, 1) := by decide +kernel
theorem dX8_so_2 : decode prog_1_method_13_code 2 = .ok (.iload_n 2, 1) := by decide +kernel
theorem dX8_so_3 : decode prog_1_method_13_code 3 = .ok (.iload_n 3, 1) := by decide +kernel
theorem dX8_so_4 : decode prog_1_method_13_code 4 = .ok (.iload 4, 2) := by decide +kernel
theorem dX8_so_6 : decode prog_1_method_13_code 6 = .ok (.iload 5, 2) := by decide +kernel
theorem dX8_so_8 : decode prog_1_method_13_code 8 = .ok (.invokevirtual 145, 3) := by decide +kernel
theorem dX8_so_11 : decode prog_1_method_13_code 11 = .ok (.istore 6, 2) := by decide +kernel
theorem dX8_so_13 : decode prog_1_method_13_code 13 = .ok (.iload 6, 2) := by decide +kernel
theorem dX8_so_15 : decode prog_1_method_13_code 15 = .ok (.ifCond .eq 6, 3) := by decide +kernel
theorem dX8_so_18 : decode prog_1_method_13_code 18 = .ok (.iload 6, 2) := by decide +kernel
theorem dX8_so_20 : decode prog_1_method_13_code 20 = .ok (.ireturn, 1) := by decide +kernel
theorem dX8_so_21 : decode prog_1_method_13_code 21 = .ok (.aload_n 0, 1) := by decide +kernel
theorem dX8_so_22 : decode prog_1_method_13_code 22 = .ok (.getfield 42, 3) := by decide +kernel
theorem dX8_so_25 : decode prog_1_method_13_code 25 = .ok (.aload_n 0, 1) := by decide +kernel
theorem dX8_so_26 : decode prog_1_method_13_code 26 = .ok (.getfield 26, 3) := by decide +kernel
theorem dX8_so_29 : decode prog_1_method_13_code 29 = .ok (.getfield 91, 3) := by decide +kernel
theorem dX8_so_32 : decode prog_1_method_13_code 32 = .ok (.aload_n 0, 1) := by decide +kernel
theorem dX8_so_33 : decode prog_1_method_13_code 33 = .ok (.getfield 26, 3) := by decide +kernel
theorem dX8_so_36 : decode prog_1_method_13_code 36 = .ok (.getfield 109, 3) := by decide +kernel
theorem dX8_so_39 : decode prog_1_method_13_code 39 = .ok (.invokevirtual 149, 3) := by decide +kernel
theorem dX8_so_42 : decode prog_1_method_13_code 42 = .ok (.aload_n 0, 1) := by decide +kernel
theorem dX8_so_43 : decode prog_1_method_13_code 43 = .ok (.getfield 42, 3) := by decide +kernel
theorem dX8_so_46 : decode prog_1_method_13_code 46 = .ok (.getfield 153, 3) := by decide +kernel
theorem dX8_so_49 : decode prog_1_method_13_code 49 = .ok (.iload_n 1, 1) := by decide +kernel
theorem dX8_so_50 : decode prog_1_method_13_code 50 = .ok (.iload_n 2, 1) := by decide +kernel
theorem dX8_so_51 : decode prog_1_method_13_code 51 = .ok (.iload_n 3, 1) := by decide +kernel
theorem dX8_so_52 : decode prog_1_method_13_code 52 = .ok (.iload 4, 2) := by decide +kernel
theorem dX8_so_54 : decode prog_1_method_13_code 54 = .ok (.iload 5, 2) := by decide +kernel
theorem dX8_so_56 : decode prog_1_method_13_code 56 = .ok (.invokevirtual 157, 3) := by decide +kernel
theorem dX8_so_59 : decode prog_1_method_13_code 59 = .ok (.aload_n 0, 1) := by decide +kernel
theorem dX8_so_60 : decode prog_1_method_13_code 60 = .ok (.getfield 42, 3) := by decide +kernel
theorem dX8_so_63 : decode prog_1_method_13_code 63 = .ok (.invokevirtual 161, 3) := by decide +kernel
theorem dX8_so_66 : decode prog_1_method_13_code 66 = .ok (.aload_n 0, 1) := by decide +kernel
theorem dX8_so_67 : decode prog_1_method_13_code 67 = .ok (.getfield 42, 3) := by decide +kernel
theorem dX8_so_70 : decode prog_1_method_13_code 70 = .ok (.aload_n 0, 1) := by decide +kernel
theorem dX8_so_71 : decode prog_1_method_13_code 71 = .ok (.getfield 10, 3) := by decide +kernel
theorem dX8_so_74 : decode prog_1_method_13_code 74 = .ok (.invokevirtual 164, 3) := by decide +kernel
theorem dX8_so_77 : decode prog_1_method_13_code 77 = .ok (.invokevirtual 168, 3) := by decide +kernel
theorem dX8_so_80 : decode prog_1_method_13_code 80 = .ok (.ifCond .eq 7, 3) := by decide +kernel
theorem dX8_so_83 : decode prog_1_method_13_code 83 = .ok (.iconst 1, 1) := by decide +kernel
theorem dX8_so_84 : decode prog_1_method_13_code 84 = .ok (.goto 4, 3) := by decide +kernel
theorem dX8_so_87 : decode prog_1_method_13_code 87 = .ok (.iconst 0, 1) := by decide +kernel
theorem dX8_so_88 : decode prog_1_method_13_code 88 = .ok (.ireturn, 1) := by decide +kernel
theorem dX8_say_0 : decode prog_1_method_14_code 0 = .ok (.iload_n 1, 1) := by decide +kernel
theorem dX8_say_1 : decode prog_1_method_14_code 1 = .ok (.iconst 1, 1) := by decide +kernel
theorem dX8_say_2 : decode prog_1_method_14_code 2 = .ok (.if_icmp .lt 14, 3) := by decide +kernel
theorem dX8_say_5 : decode prog_1_method_14_code 5 = .ok (.iload_n 1, 1) := by decide +kernel
theorem dX8_say_6 : decode prog_1_method_14_code 6 = .ok (.aload_n 0, 1) := by decide +kernel
theorem dX8_say_7 : decode prog_1_method_14_code 7 = .ok (.getfield 10, 3) := by decide +kernel
theorem dX8_say_10 : decode prog_1_method_14_code 10 = .ok (.invokevirtual 164, 3) := by decide +kernel
theorem dX8_say_13 : decode prog_1_method_14_code 13 = .ok (.if_icmp .le 6, 3) := by decide +kernel
theorem dX8_say_16 : decode prog_1_method_14_code 16 = .ok (.bipush (-3), 2) := by decide +kernel
theorem dX8_say_18 : decode prog_1_method_14_code 18 = .ok (.ireturn, 1) := by decide +kernel
theorem dX8_say_19 : decode prog_1_method_14_code 19 = .ok (.aload_n 0, 1) := by decide +kernel
theorem dX8_say_20 : decode prog_1_method_14_code 20 = .ok (.iload_n 2, 1) := by decide +kernel
theorem dX8_say_21 : decode prog_1_method_14_code 21 = .ok (.iload_n 3, 1) := by decide +kernel
theorem dX8_say_22 : decode prog_1_method_14_code 22 = .ok (.iload 4, 2) := by decide +kernel
theorem dX8_say_24 : decode prog_1_method_14_code 24 = .ok (.iload 5, 2) := by decide +kernel
theorem dX8_say_26 : decode prog_1_method_14_code 26 = .ok (.iload 6, 2) := by decide +kernel
theorem dX8_say_28 : decode prog_1_method_14_code 28 = .ok (.invokevirtual 145, 3) := by decide +kernel
theorem dX8_say_31 : decode prog_1_method_14_code 31 = .ok (.istore 7, 2) := by decide +kernel
theorem dX8_say_33 : decode prog_1_method_14_code 33 = .ok (.iload 7, 2) := by decide +kernel
theorem dX8_say_35 : decode prog_1_method_14_code 35 = .ok (.ifCond .eq 6, 3) := by decide +kernel
theorem dX8_say_38 : decode prog_1_method_14_code 38 = .ok (.iload 7, 2) := by decide +kernel
theorem dX8_say_40 : decode prog_1_method_14_code 40 = .ok (.ireturn, 1) := by decide +kernel
theorem dX8_say_41 : decode prog_1_method_14_code 41 = .ok (.aload_n 0, 1) := by decide +kernel
theorem dX8_say_42 : decode prog_1_method_14_code 42 = .ok (.getfield 42, 3) := by decide +kernel
theorem dX8_say_45 : decode prog_1_method_14_code 45 = .ok (.aload_n 0, 1) := by decide +kernel
theorem dX8_say_46 : decode prog_1_method_14_code 46 = .ok (.getfield 26, 3) := by decide +kernel
theorem dX8_say_49 : decode prog_1_method_14_code 49 = .ok (.getfield 91, 3) := by decide +kernel
theorem dX8_say_52 : decode prog_1_method_14_code 52 = .ok (.aload_n 0, 1) := by decide +kernel
theorem dX8_say_53 : decode prog_1_method_14_code 53 = .ok (.getfield 26, 3) := by decide +kernel
theorem dX8_say_56 : decode prog_1_method_14_code 56 = .ok (.getfield 109, 3) := by decide +kernel
theorem dX8_say_59 : decode prog_1_method_14_code 59 = .ok (.invokevirtual 149, 3) := by decide +kernel
theorem dX8_say_62 : decode prog_1_method_14_code 62 = .ok (.aload_n 0, 1) := by decide +kernel
theorem dX8_say_63 : decode prog_1_method_14_code 63 = .ok (.getfield 42, 3) := by decide +kernel
theorem dX8_say_66 : decode prog_1_method_14_code 66 = .ok (.getfield 153, 3) := by decide +kernel
theorem dX8_say_69 : decode prog_1_method_14_code 69 = .ok (.iload_n 2, 1) := by decide +kernel
theorem dX8_say_70 : decode prog_1_method_14_code 70 = .ok (.iload_n 3, 1) := by decide +kernel
theorem dX8_say_71 : decode prog_1_method_14_code 71 = .ok (.iload 4, 2) := by decide +kernel
theorem dX8_say_73 : decode prog_1_method_14_code 73 = .ok (.iload 5, 2) := by decide +kernel
theorem dX8_say_75 : decode prog_1_method_14_code 75 = .ok (.iload 6, 2) := by decide +kernel
theorem dX8_say_77 : decode prog_1_method_14_code 77 = .ok (.invokevirtual 157, 3) := by decide +kernel
theorem dX8_say_80 : decode prog_1_method_14_code 80 = .ok (.aload_n 0, 1) := by decide +kernel
theorem dX8_say_81 : decode prog_1_method_14_code 81 = .ok (.getfield 42, 3) := by decide +kernel
theorem dX8_say_84 : decode prog_1_method_14_code 84 = .ok (.invokevirtual 161, 3) := by decide +kernel
theorem dX8_say_87 : decode prog_1_method_14_code 87 = .ok (.aload_n 0, 1) := by decide +kernel
theorem dX8_say_88 : decode prog_1_method_14_code 88 = .ok (.getfield 42, 3) := by decide +kernel
theorem dX8_say_91 : decode prog_1_method_14_code 91 = .ok (.iload_n 1, 1) := by decide +kernel
theorem dX8_say_92 : decode prog_1_method_14_code 92 = .ok (.invokevirtual 168, 3) := by decide +kernel
theorem dX8_say_95 : decode prog_1_method_14_code 95 = .ok (.ifCond .ne 6, 3) := by decide +kernel
theorem dX8_say_98 : decode prog_1_method_14_code 98 = .ok (.bipush (-4), 2) := by decide +kernel
theorem dX8_say_100 : decode prog_1_method_14_code 100 = .ok (.ireturn, 1) := by decide +kernel
theorem dX8_say_101 : decode prog_1_method_14_code 101 = .ok (.aload_n 0, 1) := by decide +kernel
theorem dX8_say_102 : decode prog_1_method_14_code 102 = .ok (.getfield 42, 3) := by decide +kernel
theorem dX8_say_105 : decode prog_1_method_14_code 105 = .ok (.iload_n 1, 1) := by decide +kernel
theorem dX8_say_106 : decode prog_1_method_14_code 106 = .ok (.invokevirtual 171, 3) := by decide +kernel
theorem dX8_say_109 : decode prog_1_method_14_code 109 = .ok (.lstore 8, 2) := by decide +kernel
theorem dX8_say_111 : decode prog_1_method_14_code 111 = .ok (.aload_n 0, 1) := by decide +kernel
theorem dX8_say_112 : decode prog_1_method_14_code 112 = .ok (.getfield 26, 3) := by decide +kernel
theorem dX8_say_115 : decode prog_1_method_14_code 115 = .ok (.getfield 109, 3) := by decide +kernel
theorem dX8_say_118 : decode prog_1_method_14_code 118 = .ok (.lload 8, 2) := by decide +kernel
theorem dX8_say_120 : decode prog_1_method_14_code 120 = .ok (.invokestatic 175, 3) := by decide +kernel
theorem dX8_say_123 : decode prog_1_method_14_code 123 = .ok (.istore 10, 2) := by decide +kernel
theorem dX8_say_125 : decode prog_1_method_14_code 125 = .ok (.aload_n 0, 1) := by decide +kernel
theorem dX8_say_126 : decode prog_1_method_14_code 126 = .ok (.getfield 26, 3) := by decide +kernel
theorem dX8_say_129 : decode prog_1_method_14_code 129 = .ok (.invokevirtual 179, 3) := by decide +kernel
theorem dX8_say_132 : decode prog_1_method_14_code 132 = .ok (.aload_n 0, 1) := by decide +kernel
theorem dX8_say_133 : decode prog_1_method_14_code 133 = .ok (.getfield 26, 3) := by decide +kernel
theorem dX8_say_136 : decode prog_1_method_14_code 136 = .ok (.lload 8, 2) := by decide +kernel
theorem dX8_say_138 : decode prog_1_method_14_code 138 = .ok (.putfield 109, 3) := by decide +kernel
theorem dX8_say_141 : decode prog_1_method_14_code 141 = .ok (.iload 10, 2) := by decide +kernel
theorem dX8_say_143 : decode prog_1_method_14_code 143 = .ok (.ireturn, 1) := by decide +kernel
theorem dX8_refusalOf_0 : decode prog_1_method_15_code 0 = .ok (.iload_n 1, 1) := by decide +kernel
theorem dX8_refusalOf_1 : decode prog_1_method_15_code 1 = .ok (.invokestatic 182, 3) := by decide +kernel
theorem dX8_refusalOf_4 : decode prog_1_method_15_code 4 = .ok (.ifCond .ne 6, 3) := by decide +kernel
theorem dX8_refusalOf_7 : decode prog_1_method_15_code 7 = .ok (.bipush (-3), 2) := by decide +kernel
theorem dX8_refusalOf_9 : decode prog_1_method_15_code 9 = .ok (.ireturn, 1) := by decide +kernel
theorem dX8_refusalOf_10 : decode prog_1_method_15_code 10 = .ok (.iload_n 1, 1) := by decide +kernel
theorem dX8_refusalOf_11 : decode prog_1_method_15_code 11 = .ok (.invokestatic 140, 3) := by decide +kernel
theorem dX8_refusalOf_14 : decode prog_1_method_15_code 14 = .ok (.istore 6, 2) := by decide +kernel
theorem dX8_refusalOf_16 : decode prog_1_method_15_code 16 = .ok (.aload_n 0, 1) := by decide +kernel
theorem dX8_refusalOf_17 : decode prog_1_method_15_code 17 = .ok (.getfield 10, 3) := by decide +kernel
theorem dX8_refusalOf_20 : decode prog_1_method_15_code 20 = .ok (.iload_n 2, 1) := by decide +kernel
theorem dX8_refusalOf_21 : decode prog_1_method_15_code 21 = .ok (.invokevirtual 88, 3) := by decide +kernel
theorem dX8_refusalOf_24 : decode prog_1_method_15_code 24 = .ok (.ifCond .eq 26, 3) := by decide +kernel
theorem dX8_refusalOf_27 : decode prog_1_method_15_code 27 = .ok (.iload 6, 2) := by decide +kernel
theorem dX8_refusalOf_29 : decode prog_1_method_15_code 29 = .ok (.ifCond .eq 24, 3) := by decide +kernel
theorem dX8_refusalOf_32 : decode prog_1_method_15_code 32 = .ok (.aload_n 0, 1) := by decide +kernel
theorem dX8_refusalOf_33 : decode prog_1_method_15_code 33 = .ok (.getfield 10, 3) := by decide +kernel
theorem dX8_refusalOf_36 : decode prog_1_method_15_code 36 = .ok (.iload 4, 2) := by decide +kernel
theorem dX8_refusalOf_38 : decode prog_1_method_15_code 38 = .ok (.invokevirtual 88, 3) := by decide +kernel
theorem dX8_refusalOf_41 : decode prog_1_method_15_code 41 = .ok (.ifCond .eq 9, 3) := by decide +kernel
theorem dX8_refusalOf_44 : decode prog_1_method_15_code 44 = .ok (.iload 4, 2) := by decide +kernel
theorem dX8_refusalOf_46 : decode prog_1_method_15_code 46 = .ok (.iload_n 2, 1) := by decide +kernel
theorem dX8_refusalOf_47 : decode prog_1_method_15_code 47 = .ok (.if_icmp .ne 6, 3) := by decide +kernel
theorem dX8_refusalOf_50 : decode prog_1_method_15_code 50 = .ok (.bipush (-2), 2) := by decide +kernel
theorem dX8_refusalOf_52 : decode prog_1_method_15_code 52 = .ok (.ireturn, 1) := by decide +kernel
theorem dX8_refusalOf_53 : decode prog_1_method_15_code 53 = .ok (.iload_n 3, 1) := by decide +kernel
theorem dX8_refusalOf_54 : decode prog_1_method_15_code 54 = .ok (.invokestatic 185, 3) := by decide +kernel
theorem dX8_refusalOf_57 : decode prog_1_method_15_code 57 = .ok (.ifCond .eq 20, 3) := by decide +kernel
theorem dX8_refusalOf_60 : decode prog_1_method_15_code 60 = .ok (.iload 6, 2) := by decide +kernel
theorem dX8_refusalOf_62 : decode prog_1_method_15_code 62 = .ok (.ifCond .eq 11, 3) := by decide +kernel
theorem dX8_refusalOf_65 : decode prog_1_method_15_code 65 = .ok (.iload 5, 2) := by decide +kernel
theorem dX8_refusalOf_67 : decode prog_1_method_15_code 67 = .ok (.invokestatic 185, 3) := by decide +kernel
theorem dX8_refusalOf_70 : decode prog_1_method_15_code 70 = .ok (.ifCond .eq 7, 3) := by decide +kernel
theorem dX8_refusalOf_73 : decode prog_1_method_15_code 73 = .ok (.iconst 0, 1) := by decide +kernel
theorem dX8_refusalOf_74 : decode prog_1_method_15_code 74 = .ok (.goto 5, 3) := by decide +kernel
theorem dX8_refusalOf_77 : decode prog_1_method_15_code 77 = .ok (.bipush (-3), 2) := by decide +kernel
theorem dX8_refusalOf_79 : decode prog_1_method_15_code 79 = .ok (.ireturn, 1) := by decide +kernel
theorem dX8_isBit_0 : decode prog_1_method_16_code 0 = .ok (.iload_n 0, 1) := by decide +kernel
theorem dX8_isBit_1 : decode prog_1_method_16_code 1 = .ok (.ifCond .eq 8, 3) := by decide +kernel
theorem dX8_isBit_4 : decode prog_1_method_16_code 4 = .ok (.iload_n 0, 1) := by decide +kernel
theorem dX8_isBit_5 : decode prog_1_method_16_code 5 = .ok (.iconst 1, 1) := by decide +kernel
theorem dX8_isBit_6 : decode prog_1_method_16_code 6 = .ok (.if_icmp .ne 7, 3) := by decide +kernel
theorem dX8_isBit_9 : decode prog_1_method_16_code 9 = .ok (.iconst 1, 1) := by decide +kernel
theorem dX8_isBit_10 : decode prog_1_method_16_code 10 = .ok (.goto 4, 3) := by decide +kernel
theorem dX8_isBit_13 : decode prog_1_method_16_code 13 = .ok (.iconst 0, 1) := by decide +kernel
theorem dX8_isBit_14 : decode prog_1_method_16_code 14 = .ok (.ireturn, 1) := by decide +kernel
theorem dX8_night_0 : decode prog_1_method_17_code 0 = .ok (.aload_n 0, 1) := by decide +kernel
theorem dX8_night_1 : decode prog_1_method_17_code 1 = .ok (.getfield 26, 3) := by decide +kernel
theorem dX8_night_4 : decode prog_1_method_17_code 4 = .ok (.getfield 188, 3) := by decide +kernel
theorem dX8_night_7 : decode prog_1_method_17_code 7 = .ok (.sipush 999, 3) := by decide +kernel
theorem dX8_night_10 : decode prog_1_method_17_code 10 = .ok (.if_icmp .lt 6, 3) := by decide +kernel
theorem dX8_night_13 : decode prog_1_method_17_code 13 = .ok (.bipush (-5), 2) := by decide +kernel
theorem dX8_night_15 : decode prog_1_method_17_code 15 = .ok (.ireturn, 1) := by decide +kernel
theorem dX8_night_16 : decode prog_1_method_17_code 16 = .ok (.aload_n 0, 1) := by decide +kernel
theorem dX8_night_17 : decode prog_1_method_17_code 17 = .ok (.getfield 26, 3) := by decide +kernel
theorem dX8_night_20 : decode prog_1_method_17_code 20 = .ok (.invokevirtual 179, 3) := by decide +kernel
theorem dX8_night_23 : decode prog_1_method_17_code 23 = .ok (.aload_n 0, 1) := by decide +kernel
theorem dX8_night_24 : decode prog_1_method_17_code 24 = .ok (.getfield 26, 3) := by decide +kernel
theorem dX8_night_27 : decode prog_1_method_17_code 27 = .ok (.aload_n 0, 1) := by decide +kernel
theorem dX8_night_28 : decode prog_1_method_17_code 28 = .ok (.getfield 10, 3) := by decide +kernel
theorem dX8_night_31 : decode prog_1_method_17_code 31 = .ok (.aload_n 0, 1) := by decide +kernel
theorem dX8_night_32 : decode prog_1_method_17_code 32 = .ok (.getfield 26, 3) := by decide +kernel
theorem dX8_night_35 : decode prog_1_method_17_code 35 = .ok (.getfield 91, 3) := by decide +kernel
theorem dX8_night_38 : decode prog_1_method_17_code 38 = .ok (.aload_n 0, 1) := by decide +kernel
theorem dX8_night_39 : decode prog_1_method_17_code 39 = .ok (.getfield 10, 3) := by decide +kernel
theorem dX8_night_42 : decode prog_1_method_17_code 42 = .ok (.aload_n 0, 1) := by decide +kernel
theorem dX8_night_43 : decode prog_1_method_17_code 43 = .ok (.getfield 26, 3) := by decide +kernel
theorem dX8_night_46 : decode prog_1_method_17_code 46 = .ok (.getfield 109, 3) := by decide +kernel
theorem dX8_night_49 : decode prog_1_method_17_code 49 = .ok (.invokevirtual 191, 3) := by decide +kernel
theorem dX8_night_52 : decode prog_1_method_17_code 52 = .ok (.invokevirtual 195, 3) := by decide +kernel
theorem dX8_night_55 : decode prog_1_method_17_code 55 = .ok (.putfield 91, 3) := by decide +kernel
theorem dX8_night_58 : decode prog_1_method_17_code 58 = .ok (.aload_n 0, 1) := by decide +kernel
theorem dX8_night_59 : decode prog_1_method_17_code 59 = .ok (.getfield 26, 3) := by decide +kernel
theorem dX8_night_62 : decode prog_1_method_17_code 62 = .ok (.dup, 1) := by decide +kernel
theorem dX8_night_63 : decode prog_1_method_17_code 63 = .ok (.getfield 188, 3) := by decide +kernel
theorem dX8_night_66 : decode prog_1_method_17_code 66 = .ok (.iconst 1, 1) := by decide +kernel
theorem dX8_night_67 : decode prog_1_method_17_code 67 = .ok (.iadd, 1) := by decide +kernel
theorem dX8_night_68 : decode prog_1_method_17_code 68 = .ok (.putfield 188, 3) := by decide +kernel
theorem dX8_night_71 : decode prog_1_method_17_code 71 = .ok (.aload_n 0, 1) := by decide +kernel
theorem dX8_night_72 : decode prog_1_method_17_code 72 = .ok (.getfield 10, 3) := by decide +kernel
theorem dX8_night_75 : decode prog_1_method_17_code 75 = .ok (.aload_n 0, 1) := by decide +kernel
theorem dX8_night_76 : decode prog_1_method_17_code 76 = .ok (.getfield 26, 3) := by decide +kernel
theorem dX8_night_79 : decode prog_1_method_17_code 79 = .ok (.getfield 91, 3) := by decide +kernel
theorem dX8_night_82 : decode prog_1_method_17_code 82 = .ok (.invokevirtual 199, 3) := by decide +kernel
theorem dX8_night_85 : decode prog_1_method_17_code 85 = .ok (.sipush 9999, 3) := by decide +kernel
theorem dX8_night_88 : decode prog_1_method_17_code 88 = .ok (.iadd, 1) := by decide +kernel
theorem dX8_night_89 : decode prog_1_method_17_code 89 = .ok (.ireturn, 1) := by decide +kernel
theorem dX8_undo_0 : decode prog_1_method_18_code 0 = .ok (.aload_n 0, 1) := by decide +kernel
theorem dX8_undo_1 : decode prog_1_method_18_code 1 = .ok (.getfield 26, 3) := by decide +kernel
theorem dX8_undo_4 : decode prog_1_method_18_code 4 = .ok (.invokevirtual 203, 3) := by decide +kernel
theorem dX8_undo_7 : decode prog_1_method_18_code 7 = .ok (.ifCond .eq 13, 3) := by decide +kernel
theorem dX8_undo_10 : decode prog_1_method_18_code 10 = .ok (.aload_n 0, 1) := by decide +kernel
theorem dX8_undo_11 : decode prog_1_method_18_code 11 = .ok (.getfield 26, 3) := by decide +kernel
theorem dX8_undo_14 : decode prog_1_method_18_code 14 = .ok (.getfield 207, 3) := by decide +kernel
theorem dX8_undo_17 : decode prog_1_method_18_code 17 = .ok (.goto 5, 3) := by decide +kernel
theorem dX8_undo_20 : decode prog_1_method_18_code 20 = .ok (.bipush (-4), 2) := by decide +kernel
theorem dX8_undo_22 : decode prog_1_method_18_code 22 = .ok (.ireturn, 1) := by decide +kernel
theorem dX8_keep_0 : decode prog_1_method_19_code 0 = .ok (.iload_n 1, 1) := by decide +kernel
theorem dX8_keep_1 : decode prog_1_method_19_code 1 = .ok (.invokestatic 185, 3) := by decide +kernel
theorem dX8_keep_4 : decode prog_1_method_19_code 4 = .ok (.ifCond .ne 6, 3) := by decide +kernel
theorem dX8_keep_7 : decode prog_1_method_19_code 7 = .ok (.bipush (-2), 2) := by decide +kernel
theorem dX8_keep_9 : decode prog_1_method_19_code 9 = .ok (.ireturn, 1) := by decide +kernel
theorem dX8_keep_10 : decode prog_1_method_19_code 10 = .ok (.aload_n 0, 1) := by decide +kernel
theorem dX8_keep_11 : decode prog_1_method_19_code 11 = .ok (.getfield 26, 3) := by decide +kernel
theorem dX8_keep_14 : decode prog_1_method_19_code 14 = .ok (.bipush 8, 2) := by decide +kernel
theorem dX8_keep_16 : decode prog_1_method_19_code 16 = .ok (.iload_n 1, 1) := by decide +kernel
theorem dX8_keep_17 : decode prog_1_method_19_code 17 = .ok (.iadd, 1) := by decide +kernel
theorem dX8_keep_18 : decode prog_1_method_19_code 18 = .ok (.invokevirtual 210, 3) := by decide +kernel
theorem dX8_keep_21 : decode prog_1_method_19_code 21 = .ok (.aload_n 0, 1) := by decide +kernel
theorem dX8_keep_22 : decode prog_1_method_19_code 22 = .ok (.getfield 26, 3) := by decide +kernel
theorem dX8_keep_25 : decode prog_1_method_19_code 25 = .ok (.dup, 1) := by decide +kernel
theorem dX8_keep_26 : decode prog_1_method_19_code 26 = .ok (.getfield 212, 3) := by decide +kernel
theorem dX8_keep_29 : decode prog_1_method_19_code 29 = .ok (.iconst 1, 1) := by decide +kernel
theorem dX8_keep_30 : decode prog_1_method_19_code 30 = .ok (.iload_n 1, 1) := by decide +kernel
theorem dX8_keep_31 : decode prog_1_method_19_code 31 = .ok (.ishl, 1) := by decide +kernel
theorem dX8_keep_32 : decode prog_1_method_19_code 32 = .ok (.ior, 1) := by decide +kernel
theorem dX8_keep_33 : decode prog_1_method_19_code 33 = .ok (.putfield 212, 3) := by decide +kernel
theorem dX8_keep_36 : decode prog_1_method_19_code 36 = .ok (.aload_n 0, 1) := by decide +kernel
theorem dX8_keep_37 : decode prog_1_method_19_code 37 = .ok (.getfield 26, 3) := by decide +kernel
theorem dX8_keep_40 : decode prog_1_method_19_code 40 = .ok (.getfield 188, 3) := by decide +kernel
theorem dX8_keep_43 : decode prog_1_method_19_code 43 = .ok (.ireturn, 1) := by decide +kernel
theorem dX8_back_0 : decode prog_1_method_20_code 0 = .ok (.iload_n 1, 1) := by decide +kernel
theorem dX8_back_1 : decode prog_1_method_20_code 1 = .ok (.invokestatic 185, 3) := by decide +kernel
theorem dX8_back_4 : decode prog_1_method_20_code 4 = .ok (.ifCond .ne 6, 3) := by decide +kernel
theorem dX8_back_7 : decode prog_1_method_20_code 7 = .ok (.bipush (-2), 2) := by decide +kernel
theorem dX8_back_9 : decode prog_1_method_20_code 9 = .ok (.ireturn, 1) := by decide +kernel
theorem dX8_back_10 : decode prog_1_method_20_code 10 = .ok (.aload_n 0, 1) := by decide +kernel
theorem dX8_back_11 : decode prog_1_method_20_code 11 = .ok (.getfield 26, 3) := by decide +kernel
theorem dX8_back_14 : decode prog_1_method_20_code 14 = .ok (.getfield 212, 3) := by decide +kernel
theorem dX8_back_17 : decode prog_1_method_20_code 17 = .ok (.iload_n 1, 1) := by decide +kernel
theorem dX8_back_18 : decode prog_1_method_20_code 18 = .ok (.ishr, 1) := by decide +kernel
theorem dX8_back_19 : decode prog_1_method_20_code 19 = .ok (.iconst 1, 1) := by decide +kernel
theorem dX8_back_20 : decode prog_1_method_20_code 20 = .ok (.iand, 1) := by decide +kernel
theorem dX8_back_21 : decode prog_1_method_20_code 21 = .ok (.ifCond .ne 6, 3) := by decide +kernel
theorem dX8_back_24 : decode prog_1_method_20_code 24 = .ok (.bipush (-4), 2) := by decide +kernel
theorem dX8_back_26 : decode prog_1_method_20_code 26 = .ok (.ireturn, 1) := by decide +kernel
theorem dX8_back_27 : decode prog_1_method_20_code 27 = .ok (.aload_n 0, 1) := by decide +kernel
theorem dX8_back_28 : decode prog_1_method_20_code 28 = .ok (.getfield 26, 3) := by decide +kernel
theorem dX8_back_31 : decode prog_1_method_20_code 31 = .ok (.bipush 8, 2) := by decide +kernel
theorem dX8_back_33 : decode prog_1_method_20_code 33 = .ok (.iload_n 1, 1) := by decide +kernel
theorem dX8_back_34 : decode prog_1_method_20_code 34 = .ok (.iadd, 1) := by decide +kernel
theorem dX8_back_35 : decode prog_1_method_20_code 35 = .ok (.invokevirtual 215, 3) := by decide +kernel
theorem dX8_back_38 : decode prog_1_method_20_code 38 = .ok (.aload_n 0, 1) := by decide +kernel
theorem dX8_back_39 : decode prog_1_method_20_code 39 = .ok (.getfield 26, 3) := by decide +kernel
theorem dX8_back_42 : decode prog_1_method_20_code 42 = .ok (.iconst 0, 1) := by decide +kernel
theorem dX8_back_43 : decode prog_1_method_20_code 43 = .ok (.putfield 207, 3) := by decide +kernel
theorem dX8_back_46 : decode prog_1_method_20_code 46 = .ok (.aload_n 0, 1) := by decide +kernel
theorem dX8_back_47 : decode prog_1_method_20_code 47 = .ok (.getfield 26, 3) := by decide +kernel
theorem dX8_back_50 : decode prog_1_method_20_code 50 = .ok (.getfield 188, 3) := by decide +kernel
theorem dX8_back_53 : decode prog_1_method_20_code 53 = .ok (.ireturn, 1) := by decide +kernel
theorem dX8_coming_0 : decode prog_1_method_21_code 0 = .ok (.iload_n 1, 1) := by decide +kernel
theorem dX8_coming_1 : decode prog_1_method_21_code 1 = .ok (.iconst 1, 1) := by decide +kernel
theorem dX8_coming_2 : decode prog_1_method_21_code 2 = .ok (.if_icmp .lt 16, 3) := by decide +kernel
theorem dX8_coming_5 : decode prog_1_method_21_code 5 = .ok (.iload_n 1, 1) := by decide +kernel
theorem dX8_coming_6 : decode prog_1_method_21_code 6 = .ok (.bipush 20, 2) := by decide +kernel
theorem dX8_coming_8 : decode prog_1_method_21_code 8 = .ok (.if_icmp .gt 10, 3) := by decide +kernel
theorem dX8_coming_11 : decode prog_1_method_21_code 11 = .ok (.iload_n 2, 1) := by decide +kernel
theorem dX8_coming_12 : decode prog_1_method_21_code 12 = .ok (.invokestatic 185, 3) := by decide +kernel
theorem dX8_coming_15 : decode prog_1_method_21_code 15 = .ok (.ifCond .ne 6, 3) := by decide +kernel
theorem dX8_coming_18 : decode prog_1_method_21_code 18 = .ok (.bipush (-3), 2) := by decide +kernel
theorem dX8_coming_20 : decode prog_1_method_21_code 20 = .ok (.ireturn, 1) := by decide +kernel
theorem dX8_coming_21 : decode prog_1_method_21_code 21 = .ok (.aload_n 0, 1) := by decide +kernel
theorem dX8_coming_22 : decode prog_1_method_21_code 22 = .ok (.getfield 10, 3) := by decide +kernel
theorem dX8_coming_25 : decode prog_1_method_21_code 25 = .ok (.aload_n 0, 1) := by decide +kernel
theorem dX8_coming_26 : decode prog_1_method_21_code 26 = .ok (.getfield 26, 3) := by decide +kernel
theorem dX8_coming_29 : decode prog_1_method_21_code 29 = .ok (.getfield 109, 3) := by decide +kernel
theorem dX8_coming_32 : decode prog_1_method_21_code 32 = .ok (.invokevirtual 191, 3) := by decide +kernel
theorem dX8_coming_35 : decode prog_1_method_21_code 35 = .ok (.istore_n 3, 1) := by decide +kernel
theorem dX8_coming_36 : decode prog_1_method_21_code 36 = .ok (.aload_n 0, 1) := by decide +kernel
theorem dX8_coming_37 : decode prog_1_method_21_code 37 = .ok (.getfield 26, 3) := by decide +kernel
theorem dX8_coming_40 : decode prog_1_method_21_code 40 = .ok (.getfield 91, 3) := by decide +kernel
theorem dX8_coming_43 : decode prog_1_method_21_code 43 = .ok (.istore 4, 2) := by decide +kernel
theorem dX8_coming_45 : decode prog_1_method_21_code 45 = .ok (.iconst 0, 1) := by decide +kernel
theorem dX8_coming_46 : decode prog_1_method_21_code 46 = .ok (.istore 5, 2) := by decide +kernel
theorem dX8_coming_48 : decode prog_1_method_21_code 48 = .ok (.iload 5, 2) := by decide +kernel
theorem dX8_coming_50 : decode prog_1_method_21_code 50 = .ok (.iload_n 1, 1) := by decide +kernel
theorem dX8_coming_51 : decode prog_1_method_21_code 51 = .ok (.if_icmp .ge 21, 3) := by decide +kernel
theorem dX8_coming_54 : decode prog_1_method_21_code 54 = .ok (.aload_n 0, 1) := by decide +kernel
theorem dX8_coming_55 : decode prog_1_method_21_code 55 = .ok (.getfield 10, 3) := by decide +kernel
theorem dX8_coming_58 : decode prog_1_method_21_code 58 = .ok (.iload 4, 2) := by decide +kernel
theorem dX8_coming_60 : decode prog_1_method_21_code 60 = .ok (.iload_n 3, 1) := by decide +kernel
theorem dX8_coming_61 : decode prog_1_method_21_code 61 = .ok (.invokevirtual 195, 3) := by decide +kernel
theorem dX8_coming_64 : decode prog_1_method_21_code 64 = .ok (.istore 4, 2) := by decide +kernel
theorem dX8_coming_66 : decode prog_1_method_21_code 66 = .ok (.iinc 5 1, 3) := by decide +kernel
theorem dX8_coming_69 : decode prog_1_method_21_code 69 = .ok (.goto (-21), 3) := by decide +kernel
theorem dX8_coming_72 : decode prog_1_method_21_code 72 = .ok (.iload_n 2, 1) := by decide +kernel
theorem dX8_coming_73 : decode prog_1_method_21_code 73 = .ok (.ifCond .ne 8, 3) := by decide +kernel
theorem dX8_coming_76 : decode prog_1_method_21_code 76 = .ok (.iload 4, 2) := by decide +kernel
theorem dX8_coming_78 : decode prog_1_method_21_code 78 = .ok (.goto 16, 3) := by decide +kernel
theorem dX8_coming_81 : decode prog_1_method_21_code 81 = .ok (.aload_n 0, 1) := by decide +kernel
theorem dX8_coming_82 : decode prog_1_method_21_code 82 = .ok (.getfield 10, 3) := by decide +kernel
theorem dX8_coming_85 : decode prog_1_method_21_code 85 = .ok (.iload 4, 2) := by decide +kernel
theorem dX8_coming_87 : decode prog_1_method_21_code 87 = .ok (.invokevirtual 199, 3) := by decide +kernel
theorem dX8_coming_90 : decode prog_1_method_21_code 90 = .ok (.sipush 9999, 3) := by decide +kernel
theorem dX8_coming_93 : decode prog_1_method_21_code 93 = .ok (.iadd, 1) := by decide +kernel
theorem dX8_coming_94 : decode prog_1_method_21_code 94 = .ok (.ireturn, 1) := by decide +kernel
theorem dX8_best_0 : decode prog_1_method_22_code 0 = .ok (.iload_n 1, 1) := by decide +kernel
theorem dX8_best_1 : decode prog_1_method_22_code 1 = .ok (.ifCond .lt 8, 3) := by decide +kernel
theorem dX8_best_4 : decode prog_1_method_22_code 4 = .ok (.iload_n 1, 1) := by decide +kernel
theorem dX8_best_5 : decode prog_1_method_22_code 5 = .ok (.iconst 2, 1) := by decide +kernel
theorem dX8_best_6 : decode prog_1_method_22_code 6 = .ok (.if_icmp .le 6, 3) := by decide +kernel
theorem dX8_best_9 : decode prog_1_method_22_code 9 = .ok (.bipush (-3), 2) := by decide +kernel
theorem dX8_best_11 : decode prog_1_method_22_code 11 = .ok (.ireturn, 1) := by decide +kernel
theorem dX8_best_12 : decode prog_1_method_22_code 12 = .ok (.aload_n 0, 1) := by decide +kernel
theorem dX8_best_13 : decode prog_1_method_22_code 13 = .ok (.getfield 51, 3) := by decide +kernel
theorem dX8_best_16 : decode prog_1_method_22_code 16 = .ok (.aload_n 0, 1) := by decide +kernel
theorem dX8_best_17 : decode prog_1_method_22_code 17 = .ok (.getfield 26, 3) := by decide +kernel
theorem dX8_best_20 : decode prog_1_method_22_code 20 = .ok (.getfield 91, 3) := by decide +kernel
theorem dX8_best_23 : decode prog_1_method_22_code 23 = .ok (.aload_n 0, 1) := by decide +kernel
theorem dX8_best_24 : decode prog_1_method_22_code 24 = .ok (.getfield 26, 3) := by decide +kernel
theorem dX8_best_27 : decode prog_1_method_22_code 27 = .ok (.getfield 109, 3) := by decide +kernel
theorem dX8_best_30 : decode prog_1_method_22_code 30 = .ok (.invokevirtual 218, 3) := by decide +kernel
theorem dX8_best_33 : decode prog_1_method_22_code 33 = .ok (.iload_n 1, 1) := by decide +kernel
theorem dX8_best_34 : decode prog_1_method_22_code 34 = .ok (.ifCond .ne 17, 3) := by decide +kernel
theorem dX8_best_37 : decode prog_1_method_22_code 37 = .ok (.aload_n 0, 1) := by decide +kernel
theorem dX8_best_38 : decode prog_1_method_22_code 38 = .ok (.getfield 51, 3) := by decide +kernel
theorem dX8_best_41 : decode prog_1_method_22_code 41 = .ok (.getfield 221, 3) := by decide +kernel
theorem dX8_best_44 : decode prog_1_method_22_code 44 = .ok (.sipush 9999, 3) := by decide +kernel
theorem dX8_best_47 : decode prog_1_method_22_code 47 = .ok (.iadd, 1) := by decide +kernel
theorem dX8_best_48 : decode prog_1_method_22_code 48 = .ok (.goto 25, 3) := by decide +kernel
theorem dX8_best_51 : decode prog_1_method_22_code 51 = .ok (.iload_n 1, 1) := by decide +kernel
theorem dX8_best_52 : decode prog_1_method_22_code 52 = .ok (.iconst 1, 1) := by decide +kernel
theorem dX8_best_53 : decode prog_1_method_22_code 53 = .ok (.if_icmp .ne 13, 3) := by decide +kernel
theorem dX8_best_56 : decode prog_1_method_22_code 56 = .ok (.aload_n 0, 1) := by decide +kernel
theorem dX8_best_57 : decode prog_1_method_22_code 57 = .ok (.getfield 51, 3) := by decide +kernel
theorem dX8_best_60 : decode prog_1_method_22_code 60 = .ok (.getfield 224, 3) := by decide +kernel
theorem dX8_best_63 : decode prog_1_method_22_code 63 = .ok (.goto 10, 3) := by decide +kernel
theorem dX8_best_66 : decode prog_1_method_22_code 66 = .ok (.aload_n 0, 1) := by decide +kernel
theorem dX8_best_67 : decode prog_1_method_22_code 67 = .ok (.getfield 51, 3) := by decide +kernel
theorem dX8_best_70 : decode prog_1_method_22_code 70 = .ok (.getfield 227, 3) := by decide +kernel
theorem dX8_best_73 : decode prog_1_method_22_code 73 = .ok (.ireturn, 1) := by decide +kernel
theorem dX8_empty_0 : decode prog_1_method_23_code 0 = .ok (.aload_n 0, 1) := by decide +kernel
theorem dX8_empty_1 : decode prog_1_method_23_code 1 = .ok (.getfield 10, 3) := by decide +kernel
theorem dX8_empty_4 : decode prog_1_method_23_code 4 = .ok (.iload_n 1, 1) := by decide +kernel
theorem dX8_empty_5 : decode prog_1_method_23_code 5 = .ok (.invokevirtual 97, 3) := by decide +kernel
theorem dX8_empty_8 : decode prog_1_method_23_code 8 = .ok (.ifCond .ne 6, 3) := by decide +kernel
theorem dX8_empty_11 : decode prog_1_method_23_code 11 = .ok (.bipush (-2), 2) := by decide +kernel
theorem dX8_empty_13 : decode prog_1_method_23_code 13 = .ok (.ireturn, 1) := by decide +kernel
theorem dX8_empty_14 : decode prog_1_method_23_code 14 = .ok (.iload_n 2, 1) := by decide +kernel
theorem dX8_empty_15 : decode prog_1_method_23_code 15 = .ok (.invokestatic 185, 3) := by decide +kernel
theorem dX8_empty_18 : decode prog_1_method_23_code 18 = .ok (.ifCond .ne 6, 3) := by decide +kernel
theorem dX8_empty_21 : decode prog_1_method_23_code 21 = .ok (.bipush (-3), 2) := by decide +kernel
theorem dX8_empty_23 : decode prog_1_method_23_code 23 = .ok (.ireturn, 1) := by decide +kernel
theorem dX8_empty_24 : decode prog_1_method_23_code 24 = .ok (.aload_n 0, 1) := by decide +kernel
theorem dX8_empty_25 : decode prog_1_method_23_code 25 = .ok (.getfield 42, 3) := by decide +kernel
theorem dX8_empty_28 : decode prog_1_method_23_code 28 = .ok (.aload_n 0, 1) := by decide +kernel
theorem dX8_empty_29 : decode prog_1_method_23_code 29 = .ok (.getfield 26, 3) := by decide +kernel
theorem dX8_empty_32 : decode prog_1_method_23_code 32 = .ok (.getfield 91, 3) := by decide +kernel
theorem dX8_empty_35 : decode prog_1_method_23_code 35 = .ok (.aload_n 0, 1) := by decide +kernel
theorem dX8_empty_36 : decode prog_1_method_23_code 36 = .ok (.getfield 26, 3) := by decide +kernel
theorem dX8_empty_39 : decode prog_1_method_23_code 39 = .ok (.getfield 109, 3) := by decide +kernel
theorem dX8_empty_42 : decode prog_1_method_23_code 42 = .ok (.invokevirtual 149, 3) := by decide +kernel
theorem dX8_empty_45 : decode prog_1_method_23_code 45 = .ok (.aload_n 0, 1) := by decide +kernel
theorem dX8_empty_46 : decode prog_1_method_23_code 46 = .ok (.getfield 51, 3) := by decide +kernel
theorem dX8_empty_49 : decode prog_1_method_23_code 49 = .ok (.iload_n 1, 1) := by decide +kernel
theorem dX8_empty_50 : decode prog_1_method_23_code 50 = .ok (.invokevirtual 230, 3) := by decide +kernel
theorem dX8_empty_53 : decode prog_1_method_23_code 53 = .ok (.iload_n 2, 1) := by decide +kernel
theorem dX8_empty_54 : decode prog_1_method_23_code 54 = .ok (.ifCond .ne 13, 3) := by decide +kernel
theorem dX8_empty_57 : decode prog_1_method_23_code 57 = .ok (.aload_n 0, 1) := by decide +kernel
theorem dX8_empty_58 : decode prog_1_method_23_code 58 = .ok (.getfield 51, 3) := by decide +kernel
theorem dX8_empty_61 : decode prog_1_method_23_code 61 = .ok (.getfield 233, 3) := by decide +kernel
theorem dX8_empty_64 : decode prog_1_method_23_code 64 = .ok (.goto 10, 3) := by decide +kernel
theorem dX8_empty_67 : decode prog_1_method_23_code 67 = .ok (.aload_n 0, 1) := by decide +kernel
theorem dX8_empty_68 : decode prog_1_method_23_code 68 = .ok (.getfield 51, 3) := by decide +kernel
theorem dX8_empty_71 : decode prog_1_method_23_code 71 = .ok (.getfield 234, 3) := by decide +kernel
theorem dX8_empty_74 : decode prog_1_method_23_code 74 = .ok (.ireturn, 1) := by decide +kernel
theorem dX8_said_0 : decode prog_1_method_24_code 0 = .ok (.aload_n 0, 1) := by decide +kernel
theorem dX8_said_1 : decode prog_1_method_24_code 1 = .ok (.getfield 10, 3) := by decide +kernel
theorem dX8_said_4 : decode prog_1_method_24_code 4 = .ok (.iload_n 1, 1) := by decide +kernel
theorem dX8_said_5 : decode prog_1_method_24_code 5 = .ok (.invokevirtual 97, 3) := by decide +kernel
theorem dX8_said_8 : decode prog_1_method_24_code 8 = .ok (.ifCond .ne 6, 3) := by decide +kernel
theorem dX8_said_11 : decode prog_1_method_24_code 11 = .ok (.bipush (-2), 2) := by decide +kernel
theorem dX8_said_13 : decode prog_1_method_24_code 13 = .ok (.ireturn, 1) := by decide +kernel
theorem dX8_said_14 : decode prog_1_method_24_code 14 = .ok (.iload_n 2, 1) := by decide +kernel
theorem dX8_said_15 : decode prog_1_method_24_code 15 = .ok (.invokestatic 185, 3) := by decide +kernel
theorem dX8_said_18 : decode prog_1_method_24_code 18 = .ok (.ifCond .eq 10, 3) := by decide +kernel
theorem dX8_said_21 : decode prog_1_method_24_code 21 = .ok (.iload_n 3, 1) := by decide +kernel
theorem dX8_said_22 : decode prog_1_method_24_code 22 = .ok (.invokestatic 185, 3) := by decide +kernel
theorem dX8_said_25 : decode prog_1_method_24_code 25 = .ok (.ifCond .ne 6, 3) := by decide +kernel
theorem dX8_said_28 : decode prog_1_method_24_code 28 = .ok (.bipush (-3), 2) := by decide +kernel
theorem dX8_said_30 : decode prog_1_method_24_code 30 = .ok (.ireturn, 1) := by decide +kernel
theorem dX8_said_31 : decode prog_1_method_24_code 31 = .ok (.aload_n 0, 1) := by decide +kernel
theorem dX8_said_32 : decode prog_1_method_24_code 32 = .ok (.getfield 42, 3) := by decide +kernel
theorem dX8_said_35 : decode prog_1_method_24_code 35 = .ok (.aload_n 0, 1) := by decide +kernel
theorem dX8_said_36 : decode prog_1_method_24_code 36 = .ok (.getfield 26, 3) := by decide +kernel
theorem dX8_said_39 : decode prog_1_method_24_code 39 = .ok (.getfield 91, 3) := by decide +kernel
theorem dX8_said_42 : decode prog_1_method_24_code 42 = .ok (.aload_n 0, 1) := by decide +kernel
theorem dX8_said_43 : decode prog_1_method_24_code 43 = .ok (.getfield 26, 3) := by decide +kernel
theorem dX8_said_46 : decode prog_1_method_24_code 46 = .ok (.getfield 109, 3) := by decide +kernel
theorem dX8_said_49 : decode prog_1_method_24_code 49 = .ok (.invokevirtual 149, 3) := by decide +kernel
theorem dX8_said_52 : decode prog_1_method_24_code 52 = .ok (.aload_n 0, 1) := by decide +kernel
theorem dX8_said_53 : decode prog_1_method_24_code 53 = .ok (.getfield 51, 3) := by decide +kernel
theorem dX8_said_56 : decode prog_1_method_24_code 56 = .ok (.iload_n 1, 1) := by decide +kernel
theorem dX8_said_57 : decode prog_1_method_24_code 57 = .ok (.iload_n 2, 1) := by decide +kernel
theorem dX8_said_58 : decode prog_1_method_24_code 58 = .ok (.iconst 1, 1) := by decide +kernel
theorem dX8_said_59 : decode prog_1_method_24_code 59 = .ok (.if_icmp .ne 7, 3) := by decide +kernel
theorem dX8_said_62 : decode prog_1_method_24_code 62 = .ok (.iconst 1, 1) := by decide +kernel
theorem dX8_said_63 : decode prog_1_method_24_code 63 = .ok (.goto 4, 3) := by decide +kernel
theorem dX8_said_66 : decode prog_1_method_24_code 66 = .ok (.iconst 0, 1) := by decide +kernel
theorem dX8_said_67 : decode prog_1_method_24_code 67 = .ok (.invokevirtual 237, 3) := by decide +kernel
theorem dX8_said_70 : decode prog_1_method_24_code 70 = .ok (.iload_n 3, 1) := by decide +kernel
theorem dX8_said_71 : decode prog_1_method_24_code 71 = .ok (.ifCond .ne 13, 3) := by decide +kernel
theorem dX8_said_74 : decode prog_1_method_24_code 74 = .ok (.aload_n 0, 1) := by decide +kernel
theorem dX8_said_75 : decode prog_1_method_24_code 75 = .ok (.getfield 51, 3) := by decide +kernel
theorem dX8_said_78 : decode prog_1_method_24_code 78 = .ok (.getfield 233, 3) := by decide +kernel
theorem dX8_said_81 : decode prog_1_method_24_code 81 = .ok (.goto 10, 3) := by decide +kernel
theorem dX8_said_84 : decode prog_1_method_24_code 84 = .ok (.aload_n 0, 1) := by decide +kernel
theorem dX8_said_85 : decode prog_1_method_24_code 85 = .ok (.getfield 51, 3) := by decide +kernel
theorem dX8_said_88 : decode prog_1_method_24_code 88 = .ok (.getfield 234, 3) := by decide +kernel
theorem dX8_said_91 : decode prog_1_method_24_code 91 = .ok (.ireturn, 1) := by decide +kernel
theorem dX8_rests_0 : decode prog_1_method_25_code 0 = .ok (.aload_n 0, 1) := by decide +kernel
theorem dX8_rests_1 : decode prog_1_method_25_code 1 = .ok (.getfield 10, 3) := by decide +kernel
theorem dX8_rests_4 : decode prog_1_method_25_code 4 = .ok (.iload_n 1, 1) := by decide +kernel
theorem dX8_rests_5 : decode prog_1_method_25_code 5 = .ok (.invokevirtual 97, 3) := by decide +kernel
theorem dX8_rests_8 : decode prog_1_method_25_code 8 = .ok (.ifCond .eq 30, 3) := by decide +kernel
theorem dX8_rests_11 : decode prog_1_method_25_code 11 = .ok (.aload_n 0, 1) := by decide +kernel
theorem dX8_rests_12 : decode prog_1_method_25_code 12 = .ok (.getfield 10, 3) := by decide +kernel
theorem dX8_rests_15 : decode prog_1_method_25_code 15 = .ok (.iload_n 2, 1) := by decide +kernel
theorem dX8_rests_16 : decode prog_1_method_25_code 16 = .ok (.invokevirtual 97, 3) := by decide +kernel
theorem dX8_rests_19 : decode prog_1_method_25_code 19 = .ok (.ifCond .eq 19, 3) := by decide +kernel
theorem dX8_rests_22 : decode prog_1_method_25_code 22 = .ok (.iload_n 1, 1) := by decide +kernel
theorem dX8_rests_23 : decode prog_1_method_25_code 23 = .ok (.iload_n 2, 1) := by decide +kernel
theorem dX8_rests_24 : decode prog_1_method_25_code 24 = .ok (.if_icmp .eq 14, 3) := by decide +kernel
theorem dX8_rests_27 : decode prog_1_method_25_code 27 = .ok (.aload_n 0, 1) := by decide +kernel
theorem dX8_rests_28 : decode prog_1_method_25_code 28 = .ok (.getfield 10, 3) := by decide +kernel
theorem dX8_rests_31 : decode prog_1_method_25_code 31 = .ok (.iload_n 3, 1) := by decide +kernel
theorem dX8_rests_32 : decode prog_1_method_25_code 32 = .ok (.invokevirtual 88, 3) := by decide +kernel
theorem dX8_rests_35 : decode prog_1_method_25_code 35 = .ok (.ifCond .ne 6, 3) := by decide +kernel
theorem dX8_rests_38 : decode prog_1_method_25_code 38 = .ok (.bipush (-2), 2) := by decide +kernel
theorem dX8_rests_40 : decode prog_1_method_25_code 40 = .ok (.ireturn, 1) := by decide +kernel
theorem dX8_rests_41 : decode prog_1_method_25_code 41 = .ok (.iload 4, 2) := by decide +kernel
theorem dX8_rests_43 : decode prog_1_method_25_code 43 = .ok (.invokestatic 185, 3) := by decide +kernel
theorem dX8_rests_46 : decode prog_1_method_25_code 46 = .ok (.ifCond .eq 11, 3) := by decide +kernel
theorem dX8_rests_49 : decode prog_1_method_25_code 49 = .ok (.iload 5, 2) := by decide +kernel
theorem dX8_rests_51 : decode prog_1_method_25_code 51 = .ok (.invokestatic 185, 3) := by decide +kernel
theorem dX8_rests_54 : decode prog_1_method_25_code 54 = .ok (.ifCond .ne 6, 3) := by decide +kernel
theorem dX8_rests_57 : decode prog_1_method_25_code 57 = .ok (.bipush (-3), 2) := by decide +kernel
theorem dX8_rests_59 : decode prog_1_method_25_code 59 = .ok (.ireturn, 1) := by decide +kernel
theorem dX8_rests_60 : decode prog_1_method_25_code 60 = .ok (.aload_n 0, 1) := by decide +kernel
theorem dX8_rests_61 : decode prog_1_method_25_code 61 = .ok (.getfield 42, 3) := by decide +kernel
theorem dX8_rests_64 : decode prog_1_method_25_code 64 = .ok (.aload_n 0, 1) := by decide +kernel
theorem dX8_rests_65 : decode prog_1_method_25_code 65 = .ok (.getfield 26, 3) := by decide +kernel
theorem dX8_rests_68 : decode prog_1_method_25_code 68 = .ok (.getfield 91, 3) := by decide +kernel
theorem dX8_rests_71 : decode prog_1_method_25_code 71 = .ok (.aload_n 0, 1) := by decide +kernel
theorem dX8_rests_72 : decode prog_1_method_25_code 72 = .ok (.getfield 26, 3) := by decide +kernel
theorem dX8_rests_75 : decode prog_1_method_25_code 75 = .ok (.getfield 109, 3) := by decide +kernel
theorem dX8_rests_78 : decode prog_1_method_25_code 78 = .ok (.invokevirtual 149, 3) := by decide +kernel
theorem dX8_rests_81 : decode prog_1_method_25_code 81 = .ok (.aload_n 0, 1) := by decide +kernel
theorem dX8_rests_82 : decode prog_1_method_25_code 82 = .ok (.getfield 51, 3) := by decide +kernel
theorem dX8_rests_85 : decode prog_1_method_25_code 85 = .ok (.aload_n 0, 1) := by decide +kernel
theorem dX8_rests_86 : decode prog_1_method_25_code 86 = .ok (.getfield 26, 3) := by decide +kernel
theorem dX8_rests_89 : decode prog_1_method_25_code 89 = .ok (.getfield 109, 3) := by decide +kernel
theorem dX8_rests_92 : decode prog_1_method_25_code 92 = .ok (.iload_n 1, 1) := by decide +kernel
theorem dX8_rests_93 : decode prog_1_method_25_code 93 = .ok (.iload_n 2, 1) := by decide +kernel
theorem dX8_rests_94 : decode prog_1_method_25_code 94 = .ok (.iload_n 3, 1) := by decide +kernel
theorem dX8_rests_95 : decode prog_1_method_25_code 95 = .ok (.iload 4, 2) := by decide +kernel
theorem dX8_rests_97 : decode prog_1_method_25_code 97 = .ok (.invokevirtual 241, 3) := by decide +kernel
theorem dX8_rests_100 : decode prog_1_method_25_code 100 = .ok (.iload 5, 2) := by decide +kernel
theorem dX8_rests_102 : decode prog_1_method_25_code 102 = .ok (.ifCond .ne 13, 3) := by decide +kernel
theorem dX8_rests_105 : decode prog_1_method_25_code 105 = .ok (.aload_n 0, 1) := by decide +kernel
theorem dX8_rests_106 : decode prog_1_method_25_code 106 = .ok (.getfield 51, 3) := by decide +kernel
theorem dX8_rests_109 : decode prog_1_method_25_code 109 = .ok (.getfield 233, 3) := by decide +kernel
theorem dX8_rests_112 : decode prog_1_method_25_code 112 = .ok (.goto 10, 3) := by decide +kernel
theorem dX8_rests_115 : decode prog_1_method_25_code 115 = .ok (.aload_n 0, 1) := by decide +kernel
theorem dX8_rests_116 : decode prog_1_method_25_code 116 = .ok (.getfield 51, 3) := by decide +kernel
theorem dX8_rests_119 : decode prog_1_method_25_code 119 = .ok (.getfield 234, 3) := by decide +kernel
theorem dX8_rests_122 : decode prog_1_method_25_code 122 = .ok (.ireturn, 1) := by decide +kernel
theorem dX8_bet_0 : decode prog_1_method_26_code 0 = .ok (.aload_n 0, 1) := by decide +kernel
theorem dX8_bet_1 : decode prog_1_method_26_code 1 = .ok (.getfield 10, 3) := by decide +kernel
theorem dX8_bet_4 : decode prog_1_method_26_code 4 = .ok (.iload_n 1, 1) := by decide +kernel
theorem dX8_bet_5 : decode prog_1_method_26_code 5 = .ok (.invokevirtual 88, 3) := by decide +kernel
theorem dX8_bet_8 : decode prog_1_method_26_code 8 = .ok (.ifCond .ne 6, 3) := by decide +kernel
theorem dX8_bet_11 : decode prog_1_method_26_code 11 = .ok (.bipush (-2), 2) := by decide +kernel
theorem dX8_bet_13 : decode prog_1_method_26_code 13 = .ok (.ireturn, 1) := by decide +kernel
theorem dX8_bet_14 : decode prog_1_method_26_code 14 = .ok (.iload_n 2, 1) := by decide +kernel
theorem dX8_bet_15 : decode prog_1_method_26_code 15 = .ok (.ifCond .lt 9, 3) := by decide +kernel
theorem dX8_bet_18 : decode prog_1_method_26_code 18 = .ok (.iload_n 2, 1) := by decide +kernel
theorem dX8_bet_19 : decode prog_1_method_26_code 19 = .ok (.bipush 99, 2) := by decide +kernel
theorem dX8_bet_21 : decode prog_1_method_26_code 21 = .ok (.if_icmp .le 6, 3) := by decide +kernel
theorem dX8_bet_24 : decode prog_1_method_26_code 24 = .ok (.bipush (-3), 2) := by decide +kernel
theorem dX8_bet_26 : decode prog_1_method_26_code 26 = .ok (.ireturn, 1) := by decide +kernel
theorem dX8_bet_27 : decode prog_1_method_26_code 27 = .ok (.aload_n 0, 1) := by decide +kernel
theorem dX8_bet_28 : decode prog_1_method_26_code 28 = .ok (.getfield 33, 3) := by decide +kernel
theorem dX8_bet_31 : decode prog_1_method_26_code 31 = .ok (.iload_n 1, 1) := by decide +kernel
theorem dX8_bet_32 : decode prog_1_method_26_code 32 = .ok (.iload_n 2, 1) := by decide +kernel
theorem dX8_bet_33 : decode prog_1_method_26_code 33 = .ok (.invokevirtual 245, 3) := by decide +kernel
theorem dX8_bet_36 : decode prog_1_method_26_code 36 = .ok (.ifCond .eq 13, 3) := by decide +kernel
theorem dX8_bet_39 : decode prog_1_method_26_code 39 = .ok (.aload_n 0, 1) := by decide +kernel
theorem dX8_bet_40 : decode prog_1_method_26_code 40 = .ok (.getfield 33, 3) := by decide +kernel
theorem dX8_bet_43 : decode prog_1_method_26_code 43 = .ok (.getfield 85, 3) := by decide +kernel
theorem dX8_bet_46 : decode prog_1_method_26_code 46 = .ok (.goto 5, 3) := by decide +kernel
theorem dX8_bet_49 : decode prog_1_method_26_code 49 = .ok (.bipush (-5), 2) := by decide +kernel
theorem dX8_bet_51 : decode prog_1_method_26_code 51 = .ok (.ireturn, 1) := by decide +kernel
theorem dX8_call_0 : decode prog_1_method_27_code 0 = .ok (.aload_n 0, 1) := by decide +kernel
theorem dX8_call_1 : decode prog_1_method_27_code 1 = .ok (.getfield 33, 3) := by decide +kernel
theorem dX8_call_4 : decode prog_1_method_27_code 4 = .ok (.getfield 85, 3) := by decide +kernel
theorem dX8_call_7 : decode prog_1_method_27_code 7 = .ok (.istore_n 1, 1) := by decide +kernel
theorem dX8_call_8 : decode prog_1_method_27_code 8 = .ok (.aload_n 0, 1) := by decide +kernel
theorem dX8_call_9 : decode prog_1_method_27_code 9 = .ok (.getfield 33, 3) := by decide +kernel
theorem dX8_call_12 : decode prog_1_method_27_code 12 = .ok (.iconst 0, 1) := by decide +kernel
theorem dX8_call_13 : decode prog_1_method_27_code 13 = .ok (.putfield 85, 3) := by decide +kernel
theorem dX8_call_16 : decode prog_1_method_27_code 16 = .ok (.iload_n 1, 1) := by decide +kernel
theorem dX8_call_17 : decode prog_1_method_27_code 17 = .ok (.ireturn, 1) := by decide +kernel
theorem dX8_sure_0 : decode prog_1_method_28_code 0 = .ok (.iload_n 1, 1) := by decide +kernel
theorem dX8_sure_1 : decode prog_1_method_28_code 1 = .ok (.invokestatic 185, 3) := by decide +kernel
theorem dX8_sure_4 : decode prog_1_method_28_code 4 = .ok (.ifCond .ne 6, 3) := by decide +kernel
theorem dX8_sure_7 : decode prog_1_method_28_code 7 = .ok (.bipush (-3), 2) := by decide +kernel
theorem dX8_sure_9 : decode prog_1_method_28_code 9 = .ok (.ireturn, 1) := by decide +kernel
theorem dX8_sure_10 : decode prog_1_method_28_code 10 = .ok (.aload_n 0, 1) := by decide +kernel
theorem dX8_sure_11 : decode prog_1_method_28_code 11 = .ok (.getfield 42, 3) := by decide +kernel
theorem dX8_sure_14 : decode prog_1_method_28_code 14 = .ok (.aload_n 0, 1) := by decide +kernel
theorem dX8_sure_15 : decode prog_1_method_28_code 15 = .ok (.getfield 26, 3) := by decide +kernel
theorem dX8_sure_18 : decode prog_1_method_28_code 18 = .ok (.getfield 91, 3) := by decide +kernel
theorem dX8_sure_21 : decode prog_1_method_28_code 21 = .ok (.aload_n 0, 1) := by decide +kernel
theorem dX8_sure_22 : decode prog_1_method_28_code 22 = .ok (.getfield 26, 3) := by decide +kernel
theorem dX8_sure_25 : decode prog_1_method_28_code 25 = .ok (.getfield 109, 3) := by decide +kernel
theorem dX8_sure_28 : decode prog_1_method_28_code 28 = .ok (.invokevirtual 149, 3) := by decide +kernel
theorem dX8_sure_31 : decode prog_1_method_28_code 31 = .ok (.aload_n 0, 1) := by decide +kernel
theorem dX8_sure_32 : decode prog_1_method_28_code 32 = .ok (.getfield 33, 3) := by decide +kernel
theorem dX8_sure_35 : decode prog_1_method_28_code 35 = .ok (.aload_n 0, 1) := by decide +kernel
theorem dX8_sure_36 : decode prog_1_method_28_code 36 = .ok (.getfield 51, 3) := by decide +kernel
theorem dX8_sure_39 : decode prog_1_method_28_code 39 = .ok (.invokevirtual 248, 3) := by decide +kernel
theorem dX8_sure_42 : decode prog_1_method_28_code 42 = .ok (.invokevirtual 252, 3) := by decide +kernel
theorem dX8_sure_45 : decode prog_1_method_28_code 45 = .ok (.iload_n 1, 1) := by decide +kernel
theorem dX8_sure_46 : decode prog_1_method_28_code 46 = .ok (.ifCond .ne 13, 3) := by decide +kernel
theorem dX8_sure_49 : decode prog_1_method_28_code 49 = .ok (.aload_n 0, 1) := by decide +kernel
theorem dX8_sure_50 : decode prog_1_method_28_code 50 = .ok (.getfield 33, 3) := by decide +kernel
theorem dX8_sure_53 : decode prog_1_method_28_code 53 = .ok (.getfield 256, 3) := by decide +kernel
theorem dX8_sure_56 : decode prog_1_method_28_code 56 = .ok (.goto 10, 3) := by decide +kernel
theorem dX8_sure_59 : decode prog_1_method_28_code 59 = .ok (.aload_n 0, 1) := by decide +kernel
theorem dX8_sure_60 : decode prog_1_method_28_code 60 = .ok (.getfield 33, 3) := by decide +kernel
theorem dX8_sure_63 : decode prog_1_method_28_code 63 = .ok (.getfield 259, 3) := by decide +kernel
theorem dX8_sure_66 : decode prog_1_method_28_code 66 = .ok (.ireturn, 1) := by decide +kernel
theorem dX8_plan_0 : decode prog_1_method_29_code 0 = .ok (.iload_n 1, 1) := by decide +kernel
theorem dX8_plan_1 : decode prog_1_method_29_code 1 = .ok (.iconst 1, 1) := by decide +kernel
theorem dX8_plan_2 : decode prog_1_method_29_code 2 = .ok (.if_icmp .lt 17, 3) := by decide +kernel
theorem dX8_plan_5 : decode prog_1_method_29_code 5 = .ok (.iload_n 1, 1) := by decide +kernel
theorem dX8_plan_6 : decode prog_1_method_29_code 6 = .ok (.iconst 2, 1) := by decide +kernel
theorem dX8_plan_7 : decode prog_1_method_29_code 7 = .ok (.if_icmp .gt 12, 3) := by decide +kernel
theorem dX8_plan_10 : decode prog_1_method_29_code 10 = .ok (.iload_n 2, 1) := by decide +kernel
theorem dX8_plan_11 : decode prog_1_method_29_code 11 = .ok (.ifCond .lt 8, 3) := by decide +kernel
theorem dX8_plan_14 : decode prog_1_method_29_code 14 = .ok (.iload_n 2, 1) := by decide +kernel
theorem dX8_plan_15 : decode prog_1_method_29_code 15 = .ok (.iconst 2, 1) := by decide +kernel
theorem dX8_plan_16 : decode prog_1_method_29_code 16 = .ok (.if_icmp .le 6, 3) := by decide +kernel
theorem dX8_plan_19 : decode prog_1_method_29_code 19 = .ok (.bipush (-3), 2) := by decide +kernel
theorem dX8_plan_21 : decode prog_1_method_29_code 21 = .ok (.ireturn, 1) := by decide +kernel
theorem dX8_plan_22 : decode prog_1_method_29_code 22 = .ok (.aload_n 0, 1) := by decide +kernel
theorem dX8_plan_23 : decode prog_1_method_29_code 23 = .ok (.getfield 51, 3) := by decide +kernel
theorem dX8_plan_26 : decode prog_1_method_29_code 26 = .ok (.aload_n 0, 1) := by decide +kernel
theorem dX8_plan_27 : decode prog_1_method_29_code 27 = .ok (.getfield 26, 3) := by decide +kernel
theorem dX8_plan_30 : decode prog_1_method_29_code 30 = .ok (.getfield 91, 3) := by decide +kernel
theorem dX8_plan_33 : decode prog_1_method_29_code 33 = .ok (.aload_n 0, 1) := by decide +kernel
theorem dX8_plan_34 : decode prog_1_method_29_code 34 = .ok (.getfield 26, 3) := by decide +kernel
theorem dX8_plan_37 : decode prog_1_method_29_code 37 = .ok (.getfield 109, 3) := by decide +kernel
theorem dX8_plan_40 : decode prog_1_method_29_code 40 = .ok (.iload_n 1, 1) := by decide +kernel
theorem dX8_plan_41 : decode prog_1_method_29_code 41 = .ok (.iconst 2, 1) := by decide +kernel
theorem dX8_plan_42 : decode prog_1_method_29_code 42 = .ok (.if_icmp .ne 7, 3) := by decide +kernel
theorem dX8_plan_45 : decode prog_1_method_29_code 45 = .ok (.iconst 1, 1) := by decide +kernel
theorem dX8_plan_46 : decode prog_1_method_29_code 46 = .ok (.goto 4, 3) := by decide +kernel
theorem dX8_plan_49 : decode prog_1_method_29_code 49 = .ok (.iconst 0, 1) := by decide +kernel
theorem dX8_plan_50 : decode prog_1_method_29_code 50 = .ok (.invokevirtual 262, 3) := by decide +kernel
theorem dX8_plan_53 : decode prog_1_method_29_code 53 = .ok (.iload_n 2, 1) := by decide +kernel
theorem dX8_plan_54 : decode prog_1_method_29_code 54 = .ok (.ifCond .ne 17, 3) := by decide +kernel
theorem dX8_plan_57 : decode prog_1_method_29_code 57 = .ok (.aload_n 0, 1) := by decide +kernel
theorem dX8_plan_58 : decode prog_1_method_29_code 58 = .ok (.getfield 51, 3) := by decide +kernel
theorem dX8_plan_61 : decode prog_1_method_29_code 61 = .ok (.getfield 221, 3) := by decide +kernel
theorem dX8_plan_64 : decode prog_1_method_29_code 64 = .ok (.sipush 9999, 3) := by decide +kernel
theorem dX8_plan_67 : decode prog_1_method_29_code 67 = .ok (.iadd, 1) := by decide +kernel
theorem dX8_plan_68 : decode prog_1_method_29_code 68 = .ok (.goto 25, 3) := by decide +kernel
theorem dX8_plan_71 : decode prog_1_method_29_code 71 = .ok (.iload_n 2, 1) := by decide +kernel
theorem dX8_plan_72 : decode prog_1_method_29_code 72 = .ok (.iconst 1, 1) := by decide +kernel
theorem dX8_plan_73 : decode prog_1_method_29_code 73 = .ok (.if_icmp .ne 13, 3) := by decide +kernel
theorem dX8_plan_76 : decode prog_1_method_29_code 76 = .ok (.aload_n 0, 1) := by decide +kernel
theorem dX8_plan_77 : decode prog_1_method_29_code 77 = .ok (.getfield 51, 3) := by decide +kernel
theorem dX8_plan_80 : decode prog_1_method_29_code 80 = .ok (.getfield 224, 3) := by decide +kernel
theorem dX8_plan_83 : decode prog_1_method_29_code 83 = .ok (.goto 10, 3) := by decide +kernel
theorem dX8_plan_86 : decode prog_1_method_29_code 86 = .ok (.aload_n 0, 1) := by decide +kernel
theorem dX8_plan_87 : decode prog_1_method_29_code 87 = .ok (.getfield 51, 3) := by decide +kernel
theorem dX8_plan_90 : decode prog_1_method_29_code 90 = .ok (.getfield 227, 3) := by decide +kernel
theorem dX8_plan_93 : decode prog_1_method_29_code 93 = .ok (.ireturn, 1) := by decide +kernel
theorem dX8_sieges_0 : decode prog_1_method_30_code 0 = .ok (.iload_n 1, 1) := by decide +kernel
theorem dX8_sieges_1 : decode prog_1_method_30_code 1 = .ok (.ifCond .lt 29, 3) := by decide +kernel
theorem dX8_sieges_4 : decode prog_1_method_30_code 4 = .ok (.iload_n 1, 1) := by decide +kernel
theorem dX8_sieges_5 : decode prog_1_method_30_code 5 = .ok (.sipush 9999, 3) := by decide +kernel
theorem dX8_sieges_8 : decode prog_1_method_30_code 8 = .ok (.if_icmp .gt 22, 3) := by decide +kernel
theorem dX8_sieges_11 : decode prog_1_method_30_code 11 = .ok (.iload_n 2, 1) := by decide +kernel
theorem dX8_sieges_12 : decode prog_1_method_30_code 12 = .ok (.ifCond .lt 18, 3) := by decide +kernel
theorem dX8_sieges_15 : decode prog_1_method_30_code 15 = .ok (.iload_n 2, 1) := by decide +kernel
theorem dX8_sieges_16 : decode prog_1_method_30_code 16 = .ok (.bipush 9, 2) := by decide +kernel
theorem dX8_sieges_18 : decode prog_1_method_30_code 18 = .ok (.if_icmp .gt 12, 3) := by decide +kernel
theorem dX8_sieges_21 : decode prog_1_method_30_code 21 = .ok (.iload_n 3, 1) := by decide +kernel
theorem dX8_sieges_22 : decode prog_1_method_30_code 22 = .ok (.ifCond .lt 8, 3) := by decide +kernel
theorem dX8_sieges_25 : decode prog_1_method_30_code 25 = .ok (.iload_n 3, 1) := by decide +kernel
theorem dX8_sieges_26 : decode prog_1_method_30_code 26 = .ok (.iconst 2, 1) := by decide +kernel
theorem dX8_sieges_27 : decode prog_1_method_30_code 27 = .ok (.if_icmp .le 6, 3) := by decide +kernel
theorem dX8_sieges_30 : decode prog_1_method_30_code 30 = .ok (.bipush (-3), 2) := by decide +kernel
theorem dX8_sieges_32 : decode prog_1_method_30_code 32 = .ok (.ireturn, 1) := by decide +kernel
theorem dX8_sieges_33 : decode prog_1_method_30_code 33 = .ok (.aload_n 0, 1) := by decide +kernel
theorem dX8_sieges_34 : decode prog_1_method_30_code 34 = .ok (.getfield 10, 3) := by decide +kernel
theorem dX8_sieges_37 : decode prog_1_method_30_code 37 = .ok (.getfield 266, 3) := by decide +kernel
theorem dX8_sieges_40 : decode prog_1_method_30_code 40 = .ok (.ifCond .ne 6, 3) := by decide +kernel
theorem dX8_sieges_43 : decode prog_1_method_30_code 43 = .ok (.bipush (-4), 2) := by decide +kernel
theorem dX8_sieges_45 : decode prog_1_method_30_code 45 = .ok (.ireturn, 1) := by decide +kernel
theorem dX8_sieges_46 : decode prog_1_method_30_code 46 = .ok (.iconst 0, 1) := by decide +kernel
theorem dX8_sieges_47 : decode prog_1_method_30_code 47 = .ok (.istore 4, 2) := by decide +kernel
theorem dX8_sieges_49 : decode prog_1_method_30_code 49 = .ok (.iconst 0, 1) := by decide +kernel
theorem dX8_sieges_50 : decode prog_1_method_30_code 50 = .ok (.istore 5, 2) := by decide +kernel
theorem dX8_sieges_52 : decode prog_1_method_30_code 52 = .ok (.iload 5, 2) := by decide +kernel
theorem dX8_sieges_54 : decode prog_1_method_30_code 54 = .ok (.iload_n 2, 1) := by decide +kernel
theorem dX8_sieges_55 : decode prog_1_method_30_code 55 = .ok (.if_icmp .ge 69, 3) := by decide +kernel
theorem dX8_sieges_58 : decode prog_1_method_30_code 58 = .ok (.ldc2_w 269, 3) := by decide +kernel
theorem dX8_sieges_61 : decode prog_1_method_30_code 61 = .ok (.iload_n 1, 1) := by decide +kernel
theorem dX8_sieges_62 : decode prog_1_method_30_code 62 = .ok (.i2l, 1) := by decide +kernel
theorem dX8_sieges_63 : decode prog_1_method_30_code 63 = .ok (.lmul, 1) := by decide +kernel
theorem dX8_sieges_64 : decode prog_1_method_30_code 64 = .ok (.ldc2_w 271, 3) := by decide +kernel
theorem dX8_sieges_67 : decode prog_1_method_30_code 67 = .ok (.iload 5, 2) := by decide +kernel
theorem dX8_sieges_69 : decode prog_1_method_30_code 69 = .ok (.i2l, 1) := by decide +kernel
theorem dX8_sieges_70 : decode prog_1_method_30_code 70 = .ok (.lmul, 1) := by decide +kernel
theorem dX8_sieges_71 : decode prog_1_method_30_code 71 = .ok (.ladd, 1) := by decide +kernel
theorem dX8_sieges_72 : decode prog_1_method_30_code 72 = .ok (.lconst 1, 1) := by decide +kernel
theorem dX8_sieges_73 : decode prog_1_method_30_code 73 = .ok (.ladd, 1) := by decide +kernel
theorem dX8_sieges_74 : decode prog_1_method_30_code 74 = .ok (.lstore 6, 2) := by decide +kernel
theorem dX8_sieges_76 : decode prog_1_method_30_code 76 = .ok (.lload 6, 2) := by decide +kernel
theorem dX8_sieges_78 : decode prog_1_method_30_code 78 = .ok (.lload 6, 2) := by decide +kernel
theorem dX8_sieges_80 : decode prog_1_method_30_code 80 = .ok (.lmul, 1) := by decide +kernel
theorem dX8_sieges_81 : decode prog_1_method_30_code 81 = .ok (.ldc2_w 273, 3) := by decide +kernel
theorem dX8_sieges_84 : decode prog_1_method_30_code 84 = .ok (.lrem, 1) := by decide +kernel
theorem dX8_sieges_85 : decode prog_1_method_30_code 85 = .ok (.l2i, 1) := by decide +kernel
theorem dX8_sieges_86 : decode prog_1_method_30_code 86 = .ok (.istore 8, 2) := by decide +kernel
theorem dX8_sieges_88 : decode prog_1_method_30_code 88 = .ok (.aload_n 0, 1) := by decide +kernel
theorem dX8_sieges_89 : decode prog_1_method_30_code 89 = .ok (.getfield 51, 3) := by decide +kernel
theorem dX8_sieges_92 : decode prog_1_method_30_code 92 = .ok (.iload 8, 2) := by decide +kernel
theorem dX8_sieges_94 : decode prog_1_method_30_code 94 = .ok (.iload_n 3, 1) := by decide +kernel
theorem dX8_sieges_95 : decode prog_1_method_30_code 95 = .ok (.aload_n 0, 1) := by decide +kernel
theorem dX8_sieges_96 : decode prog_1_method_30_code 96 = .ok (.getfield 26, 3) := by decide +kernel
theorem dX8_sieges_99 : decode prog_1_method_30_code 99 = .ok (.getfield 91, 3) := by decide +kernel
theorem dX8_sieges_102 : decode prog_1_method_30_code 102 = .ok (.aload_n 0, 1) := by decide +kernel
theorem dX8_sieges_103 : decode prog_1_method_30_code 103 = .ok (.getfield 26, 3) := by decide +kernel
theorem dX8_sieges_106 : decode prog_1_method_30_code 106 = .ok (.getfield 109, 3) := by decide +kernel
theorem dX8_sieges_109 : decode prog_1_method_30_code 109 = .ok (.invokevirtual 275, 3) := by decide +kernel
theorem dX8_sieges_112 : decode prog_1_method_30_code 112 = .ok (.ifCond .lt 6, 3) := by decide +kernel
theorem dX8_sieges_115 : decode prog_1_method_30_code 115 = .ok (.iinc 4 1, 3) := by decide +kernel
theorem dX8_sieges_118 : decode prog_1_method_30_code 118 = .ok (.iinc 5 1, 3) := by decide +kernel
theorem dX8_sieges_121 : decode prog_1_method_30_code 121 = .ok (.goto (-69), 3) := by decide +kernel
theorem dX8_sieges_124 : decode prog_1_method_30_code 124 = .ok (.iload 4, 2) := by decide +kernel
theorem dX8_sieges_126 : decode prog_1_method_30_code 126 = .ok (.ireturn, 1) := by decide +kernel
theorem dX8_count_0 : decode prog_1_method_31_code 0 = .ok (.iload_n 1, 1) := by decide +kernel
theorem dX8_count_1 : decode prog_1_method_31_code 1 = .ok (.tableswitch 149 0 9 #[55, 63, 71, 79, 87, 106, 114, 125, 133, 141], 55) := by decide +kernel
theorem dX8_count_56 : decode prog_1_method_31_code 56 = .ok (.aload_n 0, 1) := by decide +kernel
theorem dX8_count_57 : decode prog_1_method_31_code 57 = .ok (.getfield 10, 3) := by decide +kernel
theorem dX8_count_60 : decode prog_1_method_31_code 60 = .ok (.getfield 266, 3) := by decide +kernel
theorem dX8_count_63 : decode prog_1_method_31_code 63 = .ok (.ireturn, 1) := by decide +kernel
theorem dX8_count_64 : decode prog_1_method_31_code 64 = .ok (.aload_n 0, 1) := by decide +kernel
theorem dX8_count_65 : decode prog_1_method_31_code 65 = .ok (.getfield 10, 3) := by decide +kernel
theorem dX8_count_68 : decode prog_1_method_31_code 68 = .ok (.getfield 279, 3) := by decide +kernel
theorem dX8_count_71 : decode prog_1_method_31_code 71 = .ok (.ireturn, 1) := by decide +kernel
theorem dX8_count_72 : decode prog_1_method_31_code 72 = .ok (.aload_n 0, 1) := by decide +kernel
theorem dX8_count_73 : decode prog_1_method_31_code 73 = .ok (.getfield 10, 3) := by decide +kernel
theorem dX8_count_76 : decode prog_1_method_31_code 76 = .ok (.getfield 103, 3) := by decide +kernel
theorem dX8_count_79 : decode prog_1_method_31_code 79 = .ok (.ireturn, 1) := by decide +kernel
theorem dX8_count_80 : decode prog_1_method_31_code 80 = .ok (.aload_n 0, 1) := by decide +kernel
theorem dX8_count_81 : decode prog_1_method_31_code 81 = .ok (.getfield 26, 3) := by decide +kernel
theorem dX8_count_84 : decode prog_1_method_31_code 84 = .ok (.getfield 188, 3) := by decide +kernel
theorem dX8_count_87 : decode prog_1_method_31_code 87 = .ok (.ireturn, 1) := by decide +kernel
theorem dX8_count_88 : decode prog_1_method_31_code 88 = .ok (.aload_n 0, 1) := by decide +kernel
theorem dX8_count_89 : decode prog_1_method_31_code 89 = .ok (.getfield 10, 3) := by decide +kernel
theorem dX8_count_92 : decode prog_1_method_31_code 92 = .ok (.aload_n 0, 1) := by decide +kernel
theorem dX8_count_93 : decode prog_1_method_31_code 93 = .ok (.getfield 26, 3) := by decide +kernel
theorem dX8_count_96 : decode prog_1_method_31_code 96 = .ok (.getfield 91, 3) := by decide +kernel
theorem dX8_count_99 : decode prog_1_method_31_code 99 = .ok (.invokevirtual 199, 3) := by decide +kernel
theorem dX8_count_102 : decode prog_1_method_31_code 102 = .ok (.sipush 9999, 3) := by decide +kernel
theorem dX8_count_105 : decode prog_1_method_31_code 105 = .ok (.iadd, 1) := by decide +kernel
theorem dX8_count_106 : decode prog_1_method_31_code 106 = .ok (.ireturn, 1) := by decide +kernel
theorem dX8_count_107 : decode prog_1_method_31_code 107 = .ok (.aload_n 0, 1) := by decide +kernel
theorem dX8_count_108 : decode prog_1_method_31_code 108 = .ok (.getfield 26, 3) := by decide +kernel
theorem dX8_count_111 : decode prog_1_method_31_code 111 = .ok (.getfield 91, 3) := by decide +kernel
theorem dX8_count_114 : decode prog_1_method_31_code 114 = .ok (.ireturn, 1) := by decide +kernel
theorem dX8_count_115 : decode prog_1_method_31_code 115 = .ok (.aload_n 0, 1) := by decide +kernel
theorem dX8_count_116 : decode prog_1_method_31_code 116 = .ok (.getfield 26, 3) := by decide +kernel
theorem dX8_count_119 : decode prog_1_method_31_code 119 = .ok (.getfield 109, 3) := by decide +kernel
theorem dX8_count_122 : decode prog_1_method_31_code 122 = .ok (.invokestatic 282, 3) := by decide +kernel
theorem dX8_count_125 : decode prog_1_method_31_code 125 = .ok (.ireturn, 1) := by decide +kernel
theorem dX8_count_126 : decode prog_1_method_31_code 126 = .ok (.aload_n 0, 1) := by decide +kernel
theorem dX8_count_127 : decode prog_1_method_31_code 127 = .ok (.getfield 33, 3) := by decide +kernel
theorem dX8_count_130 : decode prog_1_method_31_code 130 = .ok (.getfield 85, 3) := by decide +kernel
theorem dX8_count_133 : decode prog_1_method_31_code 133 = .ok (.ireturn, 1) := by decide +kernel
theorem dX8_count_134 : decode prog_1_method_31_code 134 = .ok (.aload_n 0, 1) := by decide +kernel
theorem dX8_count_135 : decode prog_1_method_31_code 135 = .ok (.getfield 26, 3) := by decide +kernel
theorem dX8_count_138 : decode prog_1_method_31_code 138 = .ok (.getfield 207, 3) := by decide +kernel
theorem dX8_count_141 : decode prog_1_method_31_code 141 = .ok (.ireturn, 1) := by decide +kernel
theorem dX8_count_142 : decode prog_1_method_31_code 142 = .ok (.aload_n 0, 1) := by decide +kernel
theorem dX8_count_143 : decode prog_1_method_31_code 143 = .ok (.getfield 19, 3) := by decide +kernel
theorem dX8_count_146 : decode prog_1_method_31_code 146 = .ok (.getfield 59, 3) := by decide +kernel
theorem dX8_count_149 : decode prog_1_method_31_code 149 = .ok (.ireturn, 1) := by decide +kernel
theorem dX8_count_150 : decode prog_1_method_31_code 150 = .ok (.bipush (-3), 2) := by decide +kernel
theorem dX8_count_152 : decode prog_1_method_31_code 152 = .ok (.ireturn, 1) := by decide +kernel
