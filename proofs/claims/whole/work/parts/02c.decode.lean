theorem dX9_init_0 : decode prog_11_method_1_code 0 = .ok (.aload_n 0, 1) := by decide +kernel
theorem dX9_init_1 : decode prog_11_method_1_code 1 = .ok (.invokespecial 1, 3) := by decide +kernel
theorem dX9_init_4 : decode prog_11_method_1_code 4 = .ok (.aload_n 0, 1) := by decide +kernel
theorem dX9_init_5 : decode prog_11_method_1_code 5 = .ok (.bipush 18, 2) := by decide +kernel
theorem dX9_init_7 : decode prog_11_method_1_code 7 = .ok (.newarray .int, 2) := by decide +kernel
theorem dX9_init_9 : decode prog_11_method_1_code 9 = .ok (.putfield 7, 3) := by decide +kernel
theorem dX9_init_12 : decode prog_11_method_1_code 12 = .ok (.aload_n 0, 1) := by decide +kernel
theorem dX9_init_13 : decode prog_11_method_1_code 13 = .ok (.bipush 30, 2) := by decide +kernel
theorem dX9_init_15 : decode prog_11_method_1_code 15 = .ok (.newarray .int, 2) := by decide +kernel
theorem dX9_init_17 : decode prog_11_method_1_code 17 = .ok (.putfield 13, 3) := by decide +kernel
theorem dX9_init_20 : decode prog_11_method_1_code 20 = .ok (.aload_n 0, 1) := by decide +kernel
theorem dX9_init_21 : decode prog_11_method_1_code 21 = .ok (.bipush 24, 2) := by decide +kernel
theorem dX9_init_23 : decode prog_11_method_1_code 23 = .ok (.newarray .int, 2) := by decide +kernel
theorem dX9_init_25 : decode prog_11_method_1_code 25 = .ok (.putfield 16, 3) := by decide +kernel
theorem dX9_init_28 : decode prog_11_method_1_code 28 = .ok (.aload_n 0, 1) := by decide +kernel
theorem dX9_init_29 : decode prog_11_method_1_code 29 = .ok (.sipush 160, 3) := by decide +kernel
theorem dX9_init_32 : decode prog_11_method_1_code 32 = .ok (.newarray .int, 2) := by decide +kernel
theorem dX9_init_34 : decode prog_11_method_1_code 34 = .ok (.putfield 19, 3) := by decide +kernel
theorem dX9_init_37 : decode prog_11_method_1_code 37 = .ok (.aload_n 0, 1) := by decide +kernel
theorem dX9_init_38 : decode prog_11_method_1_code 38 = .ok (.bipush 84, 2) := by decide +kernel
theorem dX9_init_40 : decode prog_11_method_1_code 40 = .ok (.newarray .int, 2) := by decide +kernel
theorem dX9_init_42 : decode prog_11_method_1_code 42 = .ok (.putfield 22, 3) := by decide +kernel
theorem dX9_init_45 : decode prog_11_method_1_code 45 = .ok (.aload_n 0, 1) := by decide +kernel
theorem dX9_init_46 : decode prog_11_method_1_code 46 = .ok (.bipush 32, 2) := by decide +kernel
theorem dX9_init_48 : decode prog_11_method_1_code 48 = .ok (.newarray .int, 2) := by decide +kernel
theorem dX9_init_50 : decode prog_11_method_1_code 50 = .ok (.putfield 25, 3) := by decide +kernel
theorem dX9_init_53 : decode prog_11_method_1_code 53 = .ok (.aload_n 0, 1) := by decide +kernel
theorem dX9_init_54 : decode prog_11_method_1_code 54 = .ok (.bipush 32, 2) := by decide +kernel
theorem dX9_init_56 : decode prog_11_method_1_code 56 = .ok (.newarray .int, 2) := by decide +kernel
theorem dX9_init_58 : decode prog_11_method_1_code 58 = .ok (.putfield 28, 3) := by decide +kernel
theorem dX9_init_61 : decode prog_11_method_1_code 61 = .ok (.aload_n 0, 1) := by decide +kernel
theorem dX9_init_62 : decode prog_11_method_1_code 62 = .ok (.bipush 32, 2) := by decide +kernel
theorem dX9_init_64 : decode prog_11_method_1_code 64 = .ok (.newarray .int, 2) := by decide +kernel
theorem dX9_init_66 : decode prog_11_method_1_code 66 = .ok (.putfield 31, 3) := by decide +kernel
theorem dX9_init_69 : decode prog_11_method_1_code 69 = .ok (.aload_n 0, 1) := by decide +kernel
theorem dX9_init_70 : decode prog_11_method_1_code 70 = .ok (.bipush 32, 2) := by decide +kernel
theorem dX9_init_72 : decode prog_11_method_1_code 72 = .ok (.newarray .int, 2) := by decide +kernel
theorem dX9_init_74 : decode prog_11_method_1_code 74 = .ok (.putfield 34, 3) := by decide +kernel
theorem dX9_init_77 : decode prog_11_method_1_code 77 = .ok (.aload_n 0, 1) := by decide +kernel
theorem dX9_init_78 : decode prog_11_method_1_code 78 = .ok (.bipush 64, 2) := by decide +kernel
theorem dX9_init_80 : decode prog_11_method_1_code 80 = .ok (.newarray .int, 2) := by decide +kernel
theorem dX9_init_82 : decode prog_11_method_1_code 82 = .ok (.putfield 37, 3) := by decide +kernel
theorem dX9_init_85 : decode prog_11_method_1_code 85 = .ok (.aload_n 0, 1) := by decide +kernel
theorem dX9_init_86 : decode prog_11_method_1_code 86 = .ok (.iconst 2, 1) := by decide +kernel
theorem dX9_init_87 : decode prog_11_method_1_code 87 = .ok (.newarray .boolean, 2) := by decide +kernel
theorem dX9_init_89 : decode prog_11_method_1_code 89 = .ok (.putfield 40, 3) := by decide +kernel
theorem dX9_init_92 : decode prog_11_method_1_code 92 = .ok (.aload_n 0, 1) := by decide +kernel
theorem dX9_init_93 : decode prog_11_method_1_code 93 = .ok (.sipush 256, 3) := by decide +kernel
theorem dX9_init_96 : decode prog_11_method_1_code 96 = .ok (.newarray .int, 2) := by decide +kernel
theorem dX9_init_98 : decode prog_11_method_1_code 98 = .ok (.putfield 44, 3) := by decide +kernel
theorem dX9_init_101 : decode prog_11_method_1_code 101 = .ok (.aload_n 0, 1) := by decide +kernel
theorem dX9_init_102 : decode prog_11_method_1_code 102 = .ok (.bipush 10, 2) := by decide +kernel
theorem dX9_init_104 : decode prog_11_method_1_code 104 = .ok (.newarray .int, 2) := by decide +kernel
theorem dX9_init_106 : decode prog_11_method_1_code 106 = .ok (.putfield 47, 3) := by decide +kernel
theorem dX9_init_109 : decode prog_11_method_1_code 109 = .ok (.aload_n 0, 1) := by decide +kernel
theorem dX9_init_110 : decode prog_11_method_1_code 110 = .ok (.bipush 64, 2) := by decide +kernel
theorem dX9_init_112 : decode prog_11_method_1_code 112 = .ok (.newarray .boolean, 2) := by decide +kernel
theorem dX9_init_114 : decode prog_11_method_1_code 114 = .ok (.putfield 50, 3) := by decide +kernel
theorem dX9_init_117 : decode prog_11_method_1_code 117 = .ok (.aload_n 0, 1) := by decide +kernel
theorem dX9_init_118 : decode prog_11_method_1_code 118 = .ok (.bipush 32, 2) := by decide +kernel
theorem dX9_init_120 : decode prog_11_method_1_code 120 = .ok (.newarray .int, 2) := by decide +kernel
theorem dX9_init_122 : decode prog_11_method_1_code 122 = .ok (.putfield 53, 3) := by decide +kernel
theorem dX9_init_125 : decode prog_11_method_1_code 125 = .ok (.aload_n 0, 1) := by decide +kernel
theorem dX9_init_126 : decode prog_11_method_1_code 126 = .ok (.invokevirtual 56, 3) := by decide +kernel
theorem dX9_init_129 : decode prog_11_method_1_code 129 = .ok (.return_, 1) := by decide +kernel
theorem dX9_in_0 : decode prog_11_method_2_code 0 = .ok (.iload_n 0, 1) := by decide +kernel
theorem dX9_in_1 : decode prog_11_method_2_code 1 = .ok (.iload_n 1, 1) := by decide +kernel
theorem dX9_in_2 : decode prog_11_method_2_code 2 = .ok (.if_icmp .lt 12, 3) := by decide +kernel
theorem dX9_in_5 : decode prog_11_method_2_code 5 = .ok (.iload_n 0, 1) := by decide +kernel
theorem dX9_in_6 : decode prog_11_method_2_code 6 = .ok (.iload_n 2, 1) := by decide +kernel
theorem dX9_in_7 : decode prog_11_method_2_code 7 = .ok (.if_icmp .gt 7, 3) := by decide +kernel
theorem dX9_in_10 : decode prog_11_method_2_code 10 = .ok (.iconst 1, 1) := by decide +kernel
theorem dX9_in_11 : decode prog_11_method_2_code 11 = .ok (.goto 4, 3) := by decide +kernel
theorem dX9_in_14 : decode prog_11_method_2_code 14 = .ok (.iconst 0, 1) := by decide +kernel
theorem dX9_in_15 : decode prog_11_method_2_code 15 = .ok (.ireturn, 1) := by decide +kernel
theorem dX9_has_0 : decode prog_11_method_3_code 0 = .ok (.iload_n 0, 1) := by decide +kernel
theorem dX9_has_1 : decode prog_11_method_3_code 1 = .ok (.iload_n 1, 1) := by decide +kernel
theorem dX9_has_2 : decode prog_11_method_3_code 2 = .ok (.ishr, 1) := by decide +kernel
theorem dX9_has_3 : decode prog_11_method_3_code 3 = .ok (.iconst 1, 1) := by decide +kernel
theorem dX9_has_4 : decode prog_11_method_3_code 4 = .ok (.iand, 1) := by decide +kernel
theorem dX9_has_5 : decode prog_11_method_3_code 5 = .ok (.iconst 1, 1) := by decide +kernel
theorem dX9_has_6 : decode prog_11_method_3_code 6 = .ok (.if_icmp .ne 7, 3) := by decide +kernel
theorem dX9_has_9 : decode prog_11_method_3_code 9 = .ok (.iconst 1, 1) := by decide +kernel
theorem dX9_has_10 : decode prog_11_method_3_code 10 = .ok (.goto 4, 3) := by decide +kernel
theorem dX9_has_13 : decode prog_11_method_3_code 13 = .ok (.iconst 0, 1) := by decide +kernel
theorem dX9_has_14 : decode prog_11_method_3_code 14 = .ok (.ireturn, 1) := by decide +kernel
theorem dX9_begin_0 : decode prog_11_method_4_code 0 = .ok (.aload_n 0, 1) := by decide +kernel
theorem dX9_begin_1 : decode prog_11_method_4_code 1 = .ok (.getfield 25, 3) := by decide +kernel
theorem dX9_begin_4 : decode prog_11_method_4_code 4 = .ok (.iconst 0, 1) := by decide +kernel
theorem dX9_begin_5 : decode prog_11_method_4_code 5 = .ok (.iconst 0, 1) := by decide +kernel
theorem dX9_begin_6 : decode prog_11_method_4_code 6 = .ok (.iastore, 1) := by decide +kernel
theorem dX9_begin_7 : decode prog_11_method_4_code 7 = .ok (.aload_n 0, 1) := by decide +kernel
theorem dX9_begin_8 : decode prog_11_method_4_code 8 = .ok (.getfield 25, 3) := by decide +kernel
theorem dX9_begin_11 : decode prog_11_method_4_code 11 = .ok (.iconst 1, 1) := by decide +kernel
theorem dX9_begin_12 : decode prog_11_method_4_code 12 = .ok (.iconst 0, 1) := by decide +kernel
theorem dX9_begin_13 : decode prog_11_method_4_code 13 = .ok (.iastore, 1) := by decide +kernel
theorem dX9_begin_14 : decode prog_11_method_4_code 14 = .ok (.iconst 0, 1) := by decide +kernel
theorem dX9_begin_15 : decode prog_11_method_4_code 15 = .ok (.istore_n 1, 1) := by decide +kernel
theorem dX9_begin_16 : decode prog_11_method_4_code 16 = .ok (.iload_n 1, 1) := by decide +kernel
theorem dX9_begin_17 : decode prog_11_method_4_code 17 = .ok (.aload_n 0, 1) := by decide +kernel
theorem dX9_begin_18 : decode prog_11_method_4_code 18 = .ok (.getfield 59, 3) := by decide +kernel
theorem dX9_begin_21 : decode prog_11_method_4_code 21 = .ok (.if_icmp .ge 34, 3) := by decide +kernel
theorem dX9_begin_24 : decode prog_11_method_4_code 24 = .ok (.aload_n 0, 1) := by decide +kernel
theorem dX9_begin_25 : decode prog_11_method_4_code 25 = .ok (.getfield 25, 3) := by decide +kernel
theorem dX9_begin_28 : decode prog_11_method_4_code 28 = .ok (.iconst 0, 1) := by decide +kernel
theorem dX9_begin_29 : decode prog_11_method_4_code 29 = .ok (.aload_n 0, 1) := by decide +kernel
theorem dX9_begin_30 : decode prog_11_method_4_code 30 = .ok (.getfield 25, 3) := by decide +kernel
theorem dX9_begin_33 : decode prog_11_method_4_code 33 = .ok (.iconst 0, 1) := by decide +kernel
theorem dX9_begin_34 : decode prog_11_method_4_code 34 = .ok (.iaload, 1) := by decide +kernel
theorem dX9_begin_35 : decode prog_11_method_4_code 35 = .ok (.aload_n 0, 1) := by decide +kernel
theorem dX9_begin_36 : decode prog_11_method_4_code 36 = .ok (.getfield 7, 3) := by decide +kernel
theorem dX9_begin_39 : decode prog_11_method_4_code 39 = .ok (.iconst 3, 1) := by decide +kernel
theorem dX9_begin_40 : decode prog_11_method_4_code 40 = .ok (.iload_n 1, 1) := by decide +kernel
theorem dX9_begin_41 : decode prog_11_method_4_code 41 = .ok (.imul, 1) := by decide +kernel
theorem dX9_begin_42 : decode prog_11_method_4_code 42 = .ok (.iconst 2, 1) := by decide +kernel
theorem dX9_begin_43 : decode prog_11_method_4_code 43 = .ok (.iadd, 1) := by decide +kernel
theorem dX9_begin_44 : decode prog_11_method_4_code 44 = .ok (.iaload, 1) := by decide +kernel
theorem dX9_begin_45 : decode prog_11_method_4_code 45 = .ok (.iload_n 1, 1) := by decide +kernel
theorem dX9_begin_46 : decode prog_11_method_4_code 46 = .ok (.ishl, 1) := by decide +kernel
theorem dX9_begin_47 : decode prog_11_method_4_code 47 = .ok (.ior, 1) := by decide +kernel
theorem dX9_begin_48 : decode prog_11_method_4_code 48 = .ok (.iastore, 1) := by decide +kernel
theorem dX9_begin_49 : decode prog_11_method_4_code 49 = .ok (.iinc 1 1, 3) := by decide +kernel
theorem dX9_begin_52 : decode prog_11_method_4_code 52 = .ok (.goto (-36), 3) := by decide +kernel
theorem dX9_begin_55 : decode prog_11_method_4_code 55 = .ok (.iconst 2, 1) := by decide +kernel
theorem dX9_begin_56 : decode prog_11_method_4_code 56 = .ok (.istore_n 1, 1) := by decide +kernel
theorem dX9_begin_57 : decode prog_11_method_4_code 57 = .ok (.iload_n 1, 1) := by decide +kernel
theorem dX9_begin_58 : decode prog_11_method_4_code 58 = .ok (.bipush 32, 2) := by decide +kernel
theorem dX9_begin_60 : decode prog_11_method_4_code 60 = .ok (.if_icmp .ge 16, 3) := by decide +kernel
theorem dX9_begin_63 : decode prog_11_method_4_code 63 = .ok (.aload_n 0, 1) := by decide +kernel
theorem dX9_begin_64 : decode prog_11_method_4_code 64 = .ok (.getfield 25, 3) := by decide +kernel
theorem dX9_begin_67 : decode prog_11_method_4_code 67 = .ok (.iload_n 1, 1) := by decide +kernel
theorem dX9_begin_68 : decode prog_11_method_4_code 68 = .ok (.iconst (-1), 1) := by decide +kernel
theorem dX9_begin_69 : decode prog_11_method_4_code 69 = .ok (.iastore, 1) := by decide +kernel
theorem dX9_begin_70 : decode prog_11_method_4_code 70 = .ok (.iinc 1 1, 3) := by decide +kernel
theorem dX9_begin_73 : decode prog_11_method_4_code 73 = .ok (.goto (-16), 3) := by decide +kernel
theorem dX9_begin_76 : decode prog_11_method_4_code 76 = .ok (.aload_n 0, 1) := by decide +kernel
theorem dX9_begin_77 : decode prog_11_method_4_code 77 = .ok (.getfield 40, 3) := by decide +kernel
theorem dX9_begin_80 : decode prog_11_method_4_code 80 = .ok (.iconst 0, 1) := by decide +kernel
theorem dX9_begin_81 : decode prog_11_method_4_code 81 = .ok (.iconst 0, 1) := by decide +kernel
theorem dX9_begin_82 : decode prog_11_method_4_code 82 = .ok (.bastore, 1) := by decide +kernel
theorem dX9_begin_83 : decode prog_11_method_4_code 83 = .ok (.aload_n 0, 1) := by decide +kernel
theorem dX9_begin_84 : decode prog_11_method_4_code 84 = .ok (.getfield 40, 3) := by decide +kernel
theorem dX9_begin_87 : decode prog_11_method_4_code 87 = .ok (.iconst 1, 1) := by decide +kernel
theorem dX9_begin_88 : decode prog_11_method_4_code 88 = .ok (.iconst 0, 1) := by decide +kernel
theorem dX9_begin_89 : decode prog_11_method_4_code 89 = .ok (.bastore, 1) := by decide +kernel
theorem dX9_begin_90 : decode prog_11_method_4_code 90 = .ok (.aload_n 0, 1) := by decide +kernel
theorem dX9_begin_91 : decode prog_11_method_4_code 91 = .ok (.iconst 0, 1) := by decide +kernel
theorem dX9_begin_92 : decode prog_11_method_4_code 92 = .ok (.putfield 63, 3) := by decide +kernel
theorem dX9_begin_95 : decode prog_11_method_4_code 95 = .ok (.aload_n 0, 1) := by decide +kernel
theorem dX9_begin_96 : decode prog_11_method_4_code 96 = .ok (.iconst 0, 1) := by decide +kernel
theorem dX9_begin_97 : decode prog_11_method_4_code 97 = .ok (.putfield 66, 3) := by decide +kernel
theorem dX9_begin_100 : decode prog_11_method_4_code 100 = .ok (.return_, 1) := by decide +kernel
theorem dX9_isFact_0 : decode prog_11_method_5_code 0 = .ok (.iload_n 1, 1) := by decide +kernel
theorem dX9_isFact_1 : decode prog_11_method_5_code 1 = .ok (.iconst 0, 1) := by decide +kernel
theorem dX9_isFact_2 : decode prog_11_method_5_code 2 = .ok (.aload_n 0, 1) := by decide +kernel
theorem dX9_isFact_3 : decode prog_11_method_5_code 3 = .ok (.getfield 59, 3) := by decide +kernel
theorem dX9_isFact_6 : decode prog_11_method_5_code 6 = .ok (.iconst 1, 1) := by decide +kernel
theorem dX9_isFact_7 : decode prog_11_method_5_code 7 = .ok (.isub, 1) := by decide +kernel
theorem dX9_isFact_8 : decode prog_11_method_5_code 8 = .ok (.invokestatic 69, 3) := by decide +kernel
theorem dX9_isFact_11 : decode prog_11_method_5_code 11 = .ok (.ireturn, 1) := by decide +kernel
theorem dX9_isOne_0 : decode prog_11_method_6_code 0 = .ok (.iload_n 1, 1) := by decide +kernel
theorem dX9_isOne_1 : decode prog_11_method_6_code 1 = .ok (.iconst 0, 1) := by decide +kernel
theorem dX9_isOne_2 : decode prog_11_method_6_code 2 = .ok (.aload_n 0, 1) := by decide +kernel
theorem dX9_isOne_3 : decode prog_11_method_6_code 3 = .ok (.getfield 73, 3) := by decide +kernel
theorem dX9_isOne_6 : decode prog_11_method_6_code 6 = .ok (.iconst 1, 1) := by decide +kernel
theorem dX9_isOne_7 : decode prog_11_method_6_code 7 = .ok (.isub, 1) := by decide +kernel
theorem dX9_isOne_8 : decode prog_11_method_6_code 8 = .ok (.invokestatic 69, 3) := by decide +kernel
theorem dX9_isOne_11 : decode prog_11_method_6_code 11 = .ok (.ireturn, 1) := by decide +kernel
theorem dX9_kindOf_0 : decode prog_11_method_7_code 0 = .ok (.aload_n 0, 1) := by decide +kernel
theorem dX9_kindOf_1 : decode prog_11_method_7_code 1 = .ok (.getfield 13, 3) := by decide +kernel
theorem dX9_kindOf_4 : decode prog_11_method_7_code 4 = .ok (.bipush 6, 2) := by decide +kernel
theorem dX9_kindOf_6 : decode prog_11_method_7_code 6 = .ok (.iload_n 1, 1) := by decide +kernel
theorem dX9_kindOf_7 : decode prog_11_method_7_code 7 = .ok (.imul, 1) := by decide +kernel
theorem dX9_kindOf_8 : decode prog_11_method_7_code 8 = .ok (.iaload, 1) := by decide +kernel
theorem dX9_kindOf_9 : decode prog_11_method_7_code 9 = .ok (.ireturn, 1) := by decide +kernel
theorem dX9_write_0 : decode prog_11_method_8_code 0 = .ok (.iload_n 1, 1) := by decide +kernel
theorem dX9_write_1 : decode prog_11_method_8_code 1 = .ok (.iconst 0, 1) := by decide +kernel
theorem dX9_write_2 : decode prog_11_method_8_code 2 = .ok (.sipush 255, 3) := by decide +kernel
theorem dX9_write_5 : decode prog_11_method_8_code 5 = .ok (.invokestatic 69, 3) := by decide +kernel
theorem dX9_write_8 : decode prog_11_method_8_code 8 = .ok (.ifCond .ne 6, 3) := by decide +kernel
theorem dX9_write_11 : decode prog_11_method_8_code 11 = .ok (.bipush (-3), 2) := by decide +kernel
theorem dX9_write_13 : decode prog_11_method_8_code 13 = .ok (.ireturn, 1) := by decide +kernel
theorem dX9_write_14 : decode prog_11_method_8_code 14 = .ok (.aload_n 0, 1) := by decide +kernel
theorem dX9_write_15 : decode prog_11_method_8_code 15 = .ok (.getfield 76, 3) := by decide +kernel
theorem dX9_write_18 : decode prog_11_method_8_code 18 = .ok (.sipush 160, 3) := by decide +kernel
theorem dX9_write_21 : decode prog_11_method_8_code 21 = .ok (.if_icmp .ne 6, 3) := by decide +kernel
theorem dX9_write_24 : decode prog_11_method_8_code 24 = .ok (.bipush (-5), 2) := by decide +kernel
theorem dX9_write_26 : decode prog_11_method_8_code 26 = .ok (.ireturn, 1) := by decide +kernel
theorem dX9_write_27 : decode prog_11_method_8_code 27 = .ok (.aload_n 0, 1) := by decide +kernel
theorem dX9_write_28 : decode prog_11_method_8_code 28 = .ok (.getfield 19, 3) := by decide +kernel
theorem dX9_write_31 : decode prog_11_method_8_code 31 = .ok (.aload_n 0, 1) := by decide +kernel
theorem dX9_write_32 : decode prog_11_method_8_code 32 = .ok (.getfield 76, 3) := by decide +kernel
theorem dX9_write_35 : decode prog_11_method_8_code 35 = .ok (.iload_n 1, 1) := by decide +kernel
theorem dX9_write_36 : decode prog_11_method_8_code 36 = .ok (.iastore, 1) := by decide +kernel
theorem dX9_write_37 : decode prog_11_method_8_code 37 = .ok (.aload_n 0, 1) := by decide +kernel
theorem dX9_write_38 : decode prog_11_method_8_code 38 = .ok (.dup, 1) := by decide +kernel
theorem dX9_write_39 : decode prog_11_method_8_code 39 = .ok (.getfield 76, 3) := by decide +kernel
theorem dX9_write_42 : decode prog_11_method_8_code 42 = .ok (.iconst 1, 1) := by decide +kernel
theorem dX9_write_43 : decode prog_11_method_8_code 43 = .ok (.iadd, 1) := by decide +kernel
theorem dX9_write_44 : decode prog_11_method_8_code 44 = .ok (.putfield 76, 3) := by decide +kernel
theorem dX9_write_47 : decode prog_11_method_8_code 47 = .ok (.aload_n 0, 1) := by decide +kernel
theorem dX9_write_48 : decode prog_11_method_8_code 48 = .ok (.getfield 76, 3) := by decide +kernel
theorem dX9_write_51 : decode prog_11_method_8_code 51 = .ok (.ireturn, 1) := by decide +kernel
theorem dX9_erase_0 : decode prog_11_method_9_code 0 = .ok (.aload_n 0, 1) := by decide +kernel
theorem dX9_erase_1 : decode prog_11_method_9_code 1 = .ok (.getfield 76, 3) := by decide +kernel
theorem dX9_erase_4 : decode prog_11_method_9_code 4 = .ok (.istore_n 1, 1) := by decide +kernel
theorem dX9_erase_5 : decode prog_11_method_9_code 5 = .ok (.aload_n 0, 1) := by decide +kernel
theorem dX9_erase_6 : decode prog_11_method_9_code 6 = .ok (.iconst 0, 1) := by decide +kernel
theorem dX9_erase_7 : decode prog_11_method_9_code 7 = .ok (.putfield 76, 3) := by decide +kernel
theorem dX9_erase_10 : decode prog_11_method_9_code 10 = .ok (.iload_n 1, 1) := by decide +kernel
theorem dX9_erase_11 : decode prog_11_method_9_code 11 = .ok (.ireturn, 1) := by decide +kernel
theorem dX9_nextToken_0 : decode prog_11_method_10_code 0 = .ok (.aload_n 0, 1) := by decide +kernel
theorem dX9_nextToken_1 : decode prog_11_method_10_code 1 = .ok (.getfield 79, 3) := by decide +kernel
theorem dX9_nextToken_4 : decode prog_11_method_10_code 4 = .ok (.aload_n 0, 1) := by decide +kernel
theorem dX9_nextToken_5 : decode prog_11_method_10_code 5 = .ok (.getfield 76, 3) := by decide +kernel
theorem dX9_nextToken_8 : decode prog_11_method_10_code 8 = .ok (.if_icmp .ge 30, 3) := by decide +kernel
theorem dX9_nextToken_11 : decode prog_11_method_10_code 11 = .ok (.aload_n 0, 1) := by decide +kernel
theorem dX9_nextToken_12 : decode prog_11_method_10_code 12 = .ok (.getfield 19, 3) := by decide +kernel
theorem dX9_nextToken_15 : decode prog_11_method_10_code 15 = .ok (.aload_n 0, 1) := by decide +kernel
theorem dX9_nextToken_16 : decode prog_11_method_10_code 16 = .ok (.getfield 79, 3) := by decide +kernel
theorem dX9_nextToken_19 : decode prog_11_method_10_code 19 = .ok (.iaload, 1) := by decide +kernel
theorem dX9_nextToken_20 : decode prog_11_method_10_code 20 = .ok (.bipush 32, 2) := by decide +kernel
theorem dX9_nextToken_22 : decode prog_11_method_10_code 22 = .ok (.if_icmp .ne 16, 3) := by decide +kernel
theorem dX9_nextToken_25 : decode prog_11_method_10_code 25 = .ok (.aload_n 0, 1) := by decide +kernel
theorem dX9_nextToken_26 : decode prog_11_method_10_code 26 = .ok (.dup, 1) := by decide +kernel
theorem dX9_nextToken_27 : decode prog_11_method_10_code 27 = .ok (.getfield 79, 3) := by decide +kernel
theorem dX9_nextToken_30 : decode prog_11_method_10_code 30 = .ok (.iconst 1, 1) := by decide +kernel
theorem dX9_nextToken_31 : decode prog_11_method_10_code 31 = .ok (.iadd, 1) := by decide +kernel
theorem dX9_nextToken_32 : decode prog_11_method_10_code 32 = .ok (.putfield 79, 3) := by decide +kernel
theorem dX9_nextToken_35 : decode prog_11_method_10_code 35 = .ok (.goto (-35), 3) := by decide +kernel
theorem dX9_nextToken_38 : decode prog_11_method_10_code 38 = .ok (.aload_n 0, 1) := by decide +kernel
theorem dX9_nextToken_39 : decode prog_11_method_10_code 39 = .ok (.aload_n 0, 1) := by decide +kernel
theorem dX9_nextToken_40 : decode prog_11_method_10_code 40 = .ok (.getfield 79, 3) := by decide +kernel
theorem dX9_nextToken_43 : decode prog_11_method_10_code 43 = .ok (.putfield 82, 3) := by decide +kernel
theorem dX9_nextToken_46 : decode prog_11_method_10_code 46 = .ok (.aload_n 0, 1) := by decide +kernel
theorem dX9_nextToken_47 : decode prog_11_method_10_code 47 = .ok (.iconst 0, 1) := by decide +kernel
theorem dX9_nextToken_48 : decode prog_11_method_10_code 48 = .ok (.putfield 85, 3) := by decide +kernel
theorem dX9_nextToken_51 : decode prog_11_method_10_code 51 = .ok (.aload_n 0, 1) := by decide +kernel
theorem dX9_nextToken_52 : decode prog_11_method_10_code 52 = .ok (.iconst 0, 1) := by decide +kernel
theorem dX9_nextToken_53 : decode prog_11_method_10_code 53 = .ok (.putfield 88, 3) := by decide +kernel
theorem dX9_nextToken_56 : decode prog_11_method_10_code 56 = .ok (.aload_n 0, 1) := by decide +kernel
theorem dX9_nextToken_57 : decode prog_11_method_10_code 57 = .ok (.getfield 79, 3) := by decide +kernel
theorem dX9_nextToken_60 : decode prog_11_method_10_code 60 = .ok (.aload_n 0, 1) := by decide +kernel
theorem dX9_nextToken_61 : decode prog_11_method_10_code 61 = .ok (.getfield 76, 3) := by decide +kernel
theorem dX9_nextToken_64 : decode prog_11_method_10_code 64 = .ok (.if_icmp .ne 13, 3) := by decide +kernel
theorem dX9_nextToken_67 : decode prog_11_method_10_code 67 = .ok (.aload_n 0, 1) := by decide +kernel
theorem dX9_nextToken_68 : decode prog_11_method_10_code 68 = .ok (.ldc2_w 91, 3) := by decide +kernel
theorem dX9_nextToken_71 : decode prog_11_method_10_code 71 = .ok (.putfield 93, 3) := by decide +kernel
theorem dX9_nextToken_74 : decode prog_11_method_10_code 74 = .ok (.goto 320, 3) := by decide +kernel
theorem dX9_nextToken_77 : decode prog_11_method_10_code 77 = .ok (.aload_n 0, 1) := by decide +kernel
theorem dX9_nextToken_78 : decode prog_11_method_10_code 78 = .ok (.getfield 19, 3) := by decide +kernel
theorem dX9_nextToken_81 : decode prog_11_method_10_code 81 = .ok (.aload_n 0, 1) := by decide +kernel
theorem dX9_nextToken_82 : decode prog_11_method_10_code 82 = .ok (.getfield 79, 3) := by decide +kernel
theorem dX9_nextToken_85 : decode prog_11_method_10_code 85 = .ok (.iaload, 1) := by decide +kernel
theorem dX9_nextToken_86 : decode prog_11_method_10_code 86 = .ok (.bipush 97, 2) := by decide +kernel
theorem dX9_nextToken_88 : decode prog_11_method_10_code 88 = .ok (.bipush 122, 2) := by decide +kernel
theorem dX9_nextToken_90 : decode prog_11_method_10_code 90 = .ok (.invokestatic 69, 3) := by decide +kernel
theorem dX9_nextToken_93 : decode prog_11_method_10_code 93 = .ok (.ifCond .eq 129, 3) := by decide +kernel
theorem dX9_nextToken_96 : decode prog_11_method_10_code 96 = .ok (.aload_n 0, 1) := by decide +kernel
theorem dX9_nextToken_97 : decode prog_11_method_10_code 97 = .ok (.lconst 0, 1) := by decide +kernel
theorem dX9_nextToken_98 : decode prog_11_method_10_code 98 = .ok (.putfield 93, 3) := by decide +kernel
theorem dX9_nextToken_101 : decode prog_11_method_10_code 101 = .ok (.aload_n 0, 1) := by decide +kernel
theorem dX9_nextToken_102 : decode prog_11_method_10_code 102 = .ok (.getfield 79, 3) := by decide +kernel
theorem dX9_nextToken_105 : decode prog_11_method_10_code 105 = .ok (.aload_n 0, 1) := by decide +kernel
theorem dX9_nextToken_106 : decode prog_11_method_10_code 106 = .ok (.getfield 76, 3) := by decide +kernel
theorem dX9_nextToken_109 : decode prog_11_method_10_code 109 = .ok (.if_icmp .ge 82, 3) := by decide +kernel
theorem dX9_nextToken_112 : decode prog_11_method_10_code 112 = .ok (.aload_n 0, 1) := by decide +kernel
theorem dX9_nextToken_113 : decode prog_11_method_10_code 113 = .ok (.getfield 19, 3) := by decide +kernel
theorem dX9_nextToken_116 : decode prog_11_method_10_code 116 = .ok (.aload_n 0, 1) := by decide +kernel
theorem dX9_nextToken_117 : decode prog_11_method_10_code 117 = .ok (.getfield 79, 3) := by decide +kernel
theorem dX9_nextToken_120 : decode prog_11_method_10_code 120 = .ok (.iaload, 1) := by decide +kernel
theorem dX9_nextToken_121 : decode prog_11_method_10_code 121 = .ok (.bipush 97, 2) := by decide +kernel
theorem dX9_nextToken_123 : decode prog_11_method_10_code 123 = .ok (.bipush 122, 2) := by decide +kernel
theorem dX9_nextToken_125 : decode prog_11_method_10_code 125 = .ok (.invokestatic 69, 3) := by decide +kernel
theorem dX9_nextToken_128 : decode prog_11_method_10_code 128 = .ok (.ifCond .eq 63, 3) := by decide +kernel
theorem dX9_nextToken_131 : decode prog_11_method_10_code 131 = .ok (.aload_n 0, 1) := by decide +kernel
theorem dX9_nextToken_132 : decode prog_11_method_10_code 132 = .ok (.aload_n 0, 1) := by decide +kernel
theorem dX9_nextToken_133 : decode prog_11_method_10_code 133 = .ok (.getfield 79, 3) := by decide +kernel
theorem dX9_nextToken_136 : decode prog_11_method_10_code 136 = .ok (.aload_n 0, 1) := by decide +kernel
theorem dX9_nextToken_137 : decode prog_11_method_10_code 137 = .ok (.getfield 82, 3) := by decide +kernel
theorem dX9_nextToken_140 : decode prog_11_method_10_code 140 = .ok (.isub, 1) := by decide +kernel
theorem dX9_nextToken_141 : decode prog_11_method_10_code 141 = .ok (.bipush 11, 2) := by decide +kernel
theorem dX9_nextToken_143 : decode prog_11_method_10_code 143 = .ok (.if_icmp .ge 29, 3) := by decide +kernel
theorem dX9_nextToken_146 : decode prog_11_method_10_code 146 = .ok (.ldc2_w 97, 3) := by decide +kernel
theorem dX9_nextToken_149 : decode prog_11_method_10_code 149 = .ok (.aload_n 0, 1) := by decide +kernel
theorem dX9_nextToken_150 : decode prog_11_method_10_code 150 = .ok (.getfield 93, 3) := by decide +kernel
theorem dX9_nextToken_153 : decode prog_11_method_10_code 153 = .ok (.lmul, 1) := by decide +kernel
theorem dX9_nextToken_154 : decode prog_11_method_10_code 154 = .ok (.aload_n 0, 1) := by decide +kernel
theorem dX9_nextToken_155 : decode prog_11_method_10_code 155 = .ok (.getfield 19, 3) := by decide +kernel
theorem dX9_nextToken_158 : decode prog_11_method_10_code 158 = .ok (.aload_n 0, 1) := by decide +kernel
theorem dX9_nextToken_159 : decode prog_11_method_10_code 159 = .ok (.getfield 79, 3) := by decide +kernel
theorem dX9_nextToken_162 : decode prog_11_method_10_code 162 = .ok (.iaload, 1) := by decide +kernel
theorem dX9_nextToken_163 : decode prog_11_method_10_code 163 = .ok (.i2l, 1) := by decide +kernel
theorem dX9_nextToken_164 : decode prog_11_method_10_code 164 = .ok (.ladd, 1) := by decide +kernel
theorem dX9_nextToken_165 : decode prog_11_method_10_code 165 = .ok (.ldc2_w 99, 3) := by decide +kernel
theorem dX9_nextToken_168 : decode prog_11_method_10_code 168 = .ok (.lsub, 1) := by decide +kernel
theorem dX9_nextToken_169 : decode prog_11_method_10_code 169 = .ok (.goto 6, 3) := by decide +kernel
theorem dX9_nextToken_172 : decode prog_11_method_10_code 172 = .ok (.ldc2_w 101, 3) := by decide +kernel
theorem dX9_nextToken_175 : decode prog_11_method_10_code 175 = .ok (.putfield 93, 3) := by decide +kernel
theorem dX9_nextToken_178 : decode prog_11_method_10_code 178 = .ok (.aload_n 0, 1) := by decide +kernel
theorem dX9_nextToken_179 : decode prog_11_method_10_code 179 = .ok (.dup, 1) := by decide +kernel
theorem dX9_nextToken_180 : decode prog_11_method_10_code 180 = .ok (.getfield 79, 3) := by decide +kernel
theorem dX9_nextToken_183 : decode prog_11_method_10_code 183 = .ok (.iconst 1, 1) := by decide +kernel
theorem dX9_nextToken_184 : decode prog_11_method_10_code 184 = .ok (.iadd, 1) := by decide +kernel
theorem dX9_nextToken_185 : decode prog_11_method_10_code 185 = .ok (.putfield 79, 3) := by decide +kernel
theorem dX9_nextToken_188 : decode prog_11_method_10_code 188 = .ok (.goto (-87), 3) := by decide +kernel
theorem dX9_nextToken_191 : decode prog_11_method_10_code 191 = .ok (.aload_n 0, 1) := by decide +kernel
theorem dX9_nextToken_192 : decode prog_11_method_10_code 192 = .ok (.aload_n 0, 1) := by decide +kernel
theorem dX9_nextToken_193 : decode prog_11_method_10_code 193 = .ok (.getfield 79, 3) := by decide +kernel
theorem dX9_nextToken_196 : decode prog_11_method_10_code 196 = .ok (.aload_n 0, 1) := by decide +kernel
theorem dX9_nextToken_197 : decode prog_11_method_10_code 197 = .ok (.getfield 82, 3) := by decide +kernel
theorem dX9_nextToken_200 : decode prog_11_method_10_code 200 = .ok (.isub, 1) := by decide +kernel
theorem dX9_nextToken_201 : decode prog_11_method_10_code 201 = .ok (.bipush 11, 2) := by decide +kernel
theorem dX9_nextToken_203 : decode prog_11_method_10_code 203 = .ok (.if_icmp .le 9, 3) := by decide +kernel
theorem dX9_nextToken_206 : decode prog_11_method_10_code 206 = .ok (.ldc2_w 101, 3) := by decide +kernel
theorem dX9_nextToken_209 : decode prog_11_method_10_code 209 = .ok (.goto 7, 3) := by decide +kernel
theorem dX9_nextToken_212 : decode prog_11_method_10_code 212 = .ok (.aload_n 0, 1) := by decide +kernel
theorem dX9_nextToken_213 : decode prog_11_method_10_code 213 = .ok (.getfield 93, 3) := by decide +kernel
theorem dX9_nextToken_216 : decode prog_11_method_10_code 216 = .ok (.putfield 93, 3) := by decide +kernel
theorem dX9_nextToken_219 : decode prog_11_method_10_code 219 = .ok (.goto 175, 3) := by decide +kernel
theorem dX9_nextToken_222 : decode prog_11_method_10_code 222 = .ok (.aload_n 0, 1) := by decide +kernel
theorem dX9_nextToken_223 : decode prog_11_method_10_code 223 = .ok (.getfield 19, 3) := by decide +kernel
theorem dX9_nextToken_226 : decode prog_11_method_10_code 226 = .ok (.aload_n 0, 1) := by decide +kernel
theorem dX9_nextToken_227 : decode prog_11_method_10_code 227 = .ok (.getfield 79, 3) := by decide +kernel
theorem dX9_nextToken_230 : decode prog_11_method_10_code 230 = .ok (.iaload, 1) := by decide +kernel
theorem dX9_nextToken_231 : decode prog_11_method_10_code 231 = .ok (.bipush 48, 2) := by decide +kernel
theorem dX9_nextToken_233 : decode prog_11_method_10_code 233 = .ok (.bipush 57, 2) := by decide +kernel
theorem dX9_nextToken_235 : decode prog_11_method_10_code 235 = .ok (.invokestatic 69, 3) := by decide +kernel
theorem dX9_nextToken_238 : decode prog_11_method_10_code 238 = .ok (.ifCond .eq 119, 3) := by decide +kernel
theorem dX9_nextToken_241 : decode prog_11_method_10_code 241 = .ok (.aload_n 0, 1) := by decide +kernel
theorem dX9_nextToken_242 : decode prog_11_method_10_code 242 = .ok (.getfield 79, 3) := by decide +kernel
theorem dX9_nextToken_245 : decode prog_11_method_10_code 245 = .ok (.aload_n 0, 1) := by decide +kernel
theorem dX9_nextToken_246 : decode prog_11_method_10_code 246 = .ok (.getfield 76, 3) := by decide +kernel
theorem dX9_nextToken_249 : decode prog_11_method_10_code 249 = .ok (.if_icmp .ge 84, 3) := by decide +kernel
theorem dX9_nextToken_252 : decode prog_11_method_10_code 252 = .ok (.aload_n 0, 1) := by decide +kernel
theorem dX9_nextToken_253 : decode prog_11_method_10_code 253 = .ok (.getfield 19, 3) := by decide +kernel
theorem dX9_nextToken_256 : decode prog_11_method_10_code 256 = .ok (.aload_n 0, 1) := by decide +kernel
theorem dX9_nextToken_257 : decode prog_11_method_10_code 257 = .ok (.getfield 79, 3) := by decide +kernel
theorem dX9_nextToken_260 : decode prog_11_method_10_code 260 = .ok (.iaload, 1) := by decide +kernel
theorem dX9_nextToken_261 : decode prog_11_method_10_code 261 = .ok (.bipush 48, 2) := by decide +kernel
theorem dX9_nextToken_263 : decode prog_11_method_10_code 263 = .ok (.bipush 57, 2) := by decide +kernel
theorem dX9_nextToken_265 : decode prog_11_method_10_code 265 = .ok (.invokestatic 69, 3) := by decide +kernel
theorem dX9_nextToken_268 : decode prog_11_method_10_code 268 = .ok (.ifCond .eq 65, 3) := by decide +kernel
theorem dX9_nextToken_271 : decode prog_11_method_10_code 271 = .ok (.aload_n 0, 1) := by decide +kernel
theorem dX9_nextToken_272 : decode prog_11_method_10_code 272 = .ok (.aload_n 0, 1) := by decide +kernel
theorem dX9_nextToken_273 : decode prog_11_method_10_code 273 = .ok (.getfield 85, 3) := by decide +kernel
theorem dX9_nextToken_276 : decode prog_11_method_10_code 276 = .ok (.iconst 2, 1) := by decide +kernel
theorem dX9_nextToken_277 : decode prog_11_method_10_code 277 = .ok (.if_icmp .ge 26, 3) := by decide +kernel
theorem dX9_nextToken_280 : decode prog_11_method_10_code 280 = .ok (.bipush 10, 2) := by decide +kernel
theorem dX9_nextToken_282 : decode prog_11_method_10_code 282 = .ok (.aload_n 0, 1) := by decide +kernel
theorem dX9_nextToken_283 : decode prog_11_method_10_code 283 = .ok (.getfield 88, 3) := by decide +kernel
theorem dX9_nextToken_286 : decode prog_11_method_10_code 286 = .ok (.imul, 1) := by decide +kernel
theorem dX9_nextToken_287 : decode prog_11_method_10_code 287 = .ok (.aload_n 0, 1) := by decide +kernel
theorem dX9_nextToken_288 : decode prog_11_method_10_code 288 = .ok (.getfield 19, 3) := by decide +kernel
theorem dX9_nextToken_291 : decode prog_11_method_10_code 291 = .ok (.aload_n 0, 1) := by decide +kernel
theorem dX9_nextToken_292 : decode prog_11_method_10_code 292 = .ok (.getfield 79, 3) := by decide +kernel
theorem dX9_nextToken_295 : decode prog_11_method_10_code 295 = .ok (.iaload, 1) := by decide +kernel
theorem dX9_nextToken_296 : decode prog_11_method_10_code 296 = .ok (.iadd, 1) := by decide +kernel
theorem dX9_nextToken_297 : decode prog_11_method_10_code 297 = .ok (.bipush 48, 2) := by decide +kernel
theorem dX9_nextToken_299 : decode prog_11_method_10_code 299 = .ok (.isub, 1) := by decide +kernel
theorem dX9_nextToken_300 : decode prog_11_method_10_code 300 = .ok (.goto 7, 3) := by decide +kernel
theorem dX9_nextToken_303 : decode prog_11_method_10_code 303 = .ok (.aload_n 0, 1) := by decide +kernel
theorem dX9_nextToken_304 : decode prog_11_method_10_code 304 = .ok (.getfield 88, 3) := by decide +kernel
theorem dX9_nextToken_307 : decode prog_11_method_10_code 307 = .ok (.putfield 88, 3) := by decide +kernel
theorem dX9_nextToken_310 : decode prog_11_method_10_code 310 = .ok (.aload_n 0, 1) := by decide +kernel
theorem dX9_nextToken_311 : decode prog_11_method_10_code 311 = .ok (.dup, 1) := by decide +kernel
theorem dX9_nextToken_312 : decode prog_11_method_10_code 312 = .ok (.getfield 85, 3) := by decide +kernel
theorem dX9_nextToken_315 : decode prog_11_method_10_code 315 = .ok (.iconst 1, 1) := by decide +kernel
theorem dX9_nextToken_316 : decode prog_11_method_10_code 316 = .ok (.iadd, 1) := by decide +kernel
theorem dX9_nextToken_317 : decode prog_11_method_10_code 317 = .ok (.putfield 85, 3) := by decide +kernel
theorem dX9_nextToken_320 : decode prog_11_method_10_code 320 = .ok (.aload_n 0, 1) := by decide +kernel
theorem dX9_nextToken_321 : decode prog_11_method_10_code 321 = .ok (.dup, 1) := by decide +kernel
theorem dX9_nextToken_322 : decode prog_11_method_10_code 322 = .ok (.getfield 79, 3) := by decide +kernel
theorem dX9_nextToken_325 : decode prog_11_method_10_code 325 = .ok (.iconst 1, 1) := by decide +kernel
theorem dX9_nextToken_326 : decode prog_11_method_10_code 326 = .ok (.iadd, 1) := by decide +kernel
theorem dX9_nextToken_327 : decode prog_11_method_10_code 327 = .ok (.putfield 79, 3) := by decide +kernel
theorem dX9_nextToken_330 : decode prog_11_method_10_code 330 = .ok (.goto (-89), 3) := by decide +kernel
theorem dX9_nextToken_333 : decode prog_11_method_10_code 333 = .ok (.aload_n 0, 1) := by decide +kernel
theorem dX9_nextToken_334 : decode prog_11_method_10_code 334 = .ok (.aload_n 0, 1) := by decide +kernel
theorem dX9_nextToken_335 : decode prog_11_method_10_code 335 = .ok (.getfield 85, 3) := by decide +kernel
theorem dX9_nextToken_338 : decode prog_11_method_10_code 338 = .ok (.iconst 2, 1) := by decide +kernel
theorem dX9_nextToken_339 : decode prog_11_method_10_code 339 = .ok (.if_icmp .le 9, 3) := by decide +kernel
theorem dX9_nextToken_342 : decode prog_11_method_10_code 342 = .ok (.ldc2_w 101, 3) := by decide +kernel
theorem dX9_nextToken_345 : decode prog_11_method_10_code 345 = .ok (.goto 6, 3) := by decide +kernel
theorem dX9_nextToken_348 : decode prog_11_method_10_code 348 = .ok (.ldc2_w 103, 3) := by decide +kernel
theorem dX9_nextToken_351 : decode prog_11_method_10_code 351 = .ok (.putfield 93, 3) := by decide +kernel
theorem dX9_nextToken_354 : decode prog_11_method_10_code 354 = .ok (.goto 40, 3) := by decide +kernel
theorem dX9_nextToken_357 : decode prog_11_method_10_code 357 = .ok (.aload_n 0, 1) := by decide +kernel
theorem dX9_nextToken_358 : decode prog_11_method_10_code 358 = .ok (.aload_n 0, 1) := by decide +kernel
theorem dX9_nextToken_359 : decode prog_11_method_10_code 359 = .ok (.getfield 19, 3) := by decide +kernel
theorem dX9_nextToken_362 : decode prog_11_method_10_code 362 = .ok (.aload_n 0, 1) := by decide +kernel
theorem dX9_nextToken_363 : decode prog_11_method_10_code 363 = .ok (.getfield 79, 3) := by decide +kernel
theorem dX9_nextToken_366 : decode prog_11_method_10_code 366 = .ok (.iaload, 1) := by decide +kernel
theorem dX9_nextToken_367 : decode prog_11_method_10_code 367 = .ok (.bipush 59, 2) := by decide +kernel
theorem dX9_nextToken_369 : decode prog_11_method_10_code 369 = .ok (.if_icmp .ne 9, 3) := by decide +kernel
theorem dX9_nextToken_372 : decode prog_11_method_10_code 372 = .ok (.ldc2_w 105, 3) := by decide +kernel
theorem dX9_nextToken_375 : decode prog_11_method_10_code 375 = .ok (.goto 6, 3) := by decide +kernel
theorem dX9_nextToken_378 : decode prog_11_method_10_code 378 = .ok (.ldc2_w 101, 3) := by decide +kernel
theorem dX9_nextToken_381 : decode prog_11_method_10_code 381 = .ok (.putfield 93, 3) := by decide +kernel
theorem dX9_nextToken_384 : decode prog_11_method_10_code 384 = .ok (.aload_n 0, 1) := by decide +kernel
theorem dX9_nextToken_385 : decode prog_11_method_10_code 385 = .ok (.dup, 1) := by decide +kernel
theorem dX9_nextToken_386 : decode prog_11_method_10_code 386 = .ok (.getfield 79, 3) := by decide +kernel
theorem dX9_nextToken_389 : decode prog_11_method_10_code 389 = .ok (.iconst 1, 1) := by decide +kernel
theorem dX9_nextToken_390 : decode prog_11_method_10_code 390 = .ok (.iadd, 1) := by decide +kernel
theorem dX9_nextToken_391 : decode prog_11_method_10_code 391 = .ok (.putfield 79, 3) := by decide +kernel
theorem dX9_nextToken_394 : decode prog_11_method_10_code 394 = .ok (.return_, 1) := by decide +kernel
theorem dX9_fails_0 : decode prog_11_method_11_code 0 = .ok (.aload_n 0, 1) := by decide +kernel
theorem dX9_fails_1 : decode prog_11_method_11_code 1 = .ok (.aload_n 0, 1) := by decide +kernel
theorem dX9_fails_2 : decode prog_11_method_11_code 2 = .ok (.getfield 82, 3) := by decide +kernel
theorem dX9_fails_5 : decode prog_11_method_11_code 5 = .ok (.putfield 107, 3) := by decide +kernel
theorem dX9_fails_8 : decode prog_11_method_11_code 8 = .ok (.iconst 0, 1) := by decide +kernel
theorem dX9_fails_9 : decode prog_11_method_11_code 9 = .ok (.ireturn, 1) := by decide +kernel
theorem dX9_isNumber_0 : decode prog_11_method_12_code 0 = .ok (.aload_n 0, 1) := by decide +kernel
theorem dX9_isNumber_1 : decode prog_11_method_12_code 1 = .ok (.invokevirtual 110, 3) := by decide +kernel
theorem dX9_isNumber_4 : decode prog_11_method_12_code 4 = .ok (.aload_n 0, 1) := by decide +kernel
theorem dX9_isNumber_5 : decode prog_11_method_12_code 5 = .ok (.getfield 93, 3) := by decide +kernel
theorem dX9_isNumber_8 : decode prog_11_method_12_code 8 = .ok (.ldc2_w 103, 3) := by decide +kernel
theorem dX9_isNumber_11 : decode prog_11_method_12_code 11 = .ok (.lcmp, 1) := by decide +kernel
theorem dX9_isNumber_12 : decode prog_11_method_12_code 12 = .ok (.ifCond .ne 11, 3) := by decide +kernel
theorem dX9_isNumber_15 : decode prog_11_method_12_code 15 = .ok (.aload_n 0, 1) := by decide +kernel
theorem dX9_isNumber_16 : decode prog_11_method_12_code 16 = .ok (.getfield 88, 3) := by decide +kernel
theorem dX9_isNumber_19 : decode prog_11_method_12_code 19 = .ok (.iload_n 2, 1) := by decide +kernel
theorem dX9_isNumber_20 : decode prog_11_method_12_code 20 = .ok (.if_icmp .le 8, 3) := by decide +kernel
theorem dX9_isNumber_23 : decode prog_11_method_12_code 23 = .ok (.aload_n 0, 1) := by decide +kernel
theorem dX9_isNumber_24 : decode prog_11_method_12_code 24 = .ok (.invokevirtual 113, 3) := by decide +kernel
theorem dX9_isNumber_27 : decode prog_11_method_12_code 27 = .ok (.ireturn, 1) := by decide +kernel
theorem dX9_isNumber_28 : decode prog_11_method_12_code 28 = .ok (.aload_n 0, 1) := by decide +kernel
theorem dX9_isNumber_29 : decode prog_11_method_12_code 29 = .ok (.getfield 22, 3) := by decide +kernel
theorem dX9_isNumber_32 : decode prog_11_method_12_code 32 = .ok (.iload_n 1, 1) := by decide +kernel
theorem dX9_isNumber_33 : decode prog_11_method_12_code 33 = .ok (.aload_n 0, 1) := by decide +kernel
theorem dX9_isNumber_34 : decode prog_11_method_12_code 34 = .ok (.getfield 88, 3) := by decide +kernel
theorem dX9_isNumber_37 : decode prog_11_method_12_code 37 = .ok (.iastore, 1) := by decide +kernel
theorem dX9_isNumber_38 : decode prog_11_method_12_code 38 = .ok (.iconst 1, 1) := by decide +kernel
theorem dX9_isNumber_39 : decode prog_11_method_12_code 39 = .ok (.ireturn, 1) := by decide +kernel
theorem dX9_sortOf_0 : decode prog_11_method_13_code 0 = .ok (.aload_n 0, 1) := by decide +kernel
theorem dX9_sortOf_1 : decode prog_11_method_13_code 1 = .ok (.getfield 93, 3) := by decide +kernel
theorem dX9_sortOf_4 : decode prog_11_method_13_code 4 = .ok (.ldc2_w 117, 3) := by decide +kernel
theorem dX9_sortOf_7 : decode prog_11_method_13_code 7 = .ok (.lcmp, 1) := by decide +kernel
theorem dX9_sortOf_8 : decode prog_11_method_13_code 8 = .ok (.ifCond .ne 7, 3) := by decide +kernel
theorem dX9_sortOf_11 : decode prog_11_method_13_code 11 = .ok (.iconst 0, 1) := by decide +kernel
theorem dX9_sortOf_12 : decode prog_11_method_13_code 12 = .ok (.goto 64, 3) := by decide +kernel
theorem dX9_sortOf_15 : decode prog_11_method_13_code 15 = .ok (.aload_n 0, 1) := by decide +kernel
theorem dX9_sortOf_16 : decode prog_11_method_13_code 16 = .ok (.getfield 93, 3) := by decide +kernel
theorem dX9_sortOf_19 : decode prog_11_method_13_code 19 = .ok (.ldc2_w 119, 3) := by decide +kernel
theorem dX9_sortOf_22 : decode prog_11_method_13_code 22 = .ok (.lcmp, 1) := by decide +kernel
theorem dX9_sortOf_23 : decode prog_11_method_13_code 23 = .ok (.ifCond .ne 7, 3) := by decide +kernel
theorem dX9_sortOf_26 : decode prog_11_method_13_code 26 = .ok (.iconst 1, 1) := by decide +kernel
theorem dX9_sortOf_27 : decode prog_11_method_13_code 27 = .ok (.goto 49, 3) := by decide +kernel
theorem dX9_sortOf_30 : decode prog_11_method_13_code 30 = .ok (.aload_n 0, 1) := by decide +kernel
theorem dX9_sortOf_31 : decode prog_11_method_13_code 31 = .ok (.getfield 93, 3) := by decide +kernel
theorem dX9_sortOf_34 : decode prog_11_method_13_code 34 = .ok (.ldc2_w 121, 3) := by decide +kernel
theorem dX9_sortOf_37 : decode prog_11_method_13_code 37 = .ok (.lcmp, 1) := by decide +kernel
theorem dX9_sortOf_38 : decode prog_11_method_13_code 38 = .ok (.ifCond .ne 7, 3) := by decide +kernel
theorem dX9_sortOf_41 : decode prog_11_method_13_code 41 = .ok (.iconst 2, 1) := by decide +kernel
theorem dX9_sortOf_42 : decode prog_11_method_13_code 42 = .ok (.goto 34, 3) := by decide +kernel
theorem dX9_sortOf_45 : decode prog_11_method_13_code 45 = .ok (.aload_n 0, 1) := by decide +kernel
theorem dX9_sortOf_46 : decode prog_11_method_13_code 46 = .ok (.getfield 93, 3) := by decide +kernel
theorem dX9_sortOf_49 : decode prog_11_method_13_code 49 = .ok (.ldc2_w 123, 3) := by decide +kernel
theorem dX9_sortOf_52 : decode prog_11_method_13_code 52 = .ok (.lcmp, 1) := by decide +kernel
theorem dX9_sortOf_53 : decode prog_11_method_13_code 53 = .ok (.ifCond .ne 7, 3) := by decide +kernel
theorem dX9_sortOf_56 : decode prog_11_method_13_code 56 = .ok (.iconst 3, 1) := by decide +kernel
theorem dX9_sortOf_57 : decode prog_11_method_13_code 57 = .ok (.goto 19, 3) := by decide +kernel
theorem dX9_sortOf_60 : decode prog_11_method_13_code 60 = .ok (.aload_n 0, 1) := by decide +kernel
theorem dX9_sortOf_61 : decode prog_11_method_13_code 61 = .ok (.getfield 93, 3) := by decide +kernel
theorem dX9_sortOf_64 : decode prog_11_method_13_code 64 = .ok (.ldc2_w 125, 3) := by decide +kernel
theorem dX9_sortOf_67 : decode prog_11_method_13_code 67 = .ok (.lcmp, 1) := by decide +kernel
theorem dX9_sortOf_68 : decode prog_11_method_13_code 68 = .ok (.ifCond .ne 7, 3) := by decide +kernel
theorem dX9_sortOf_71 : decode prog_11_method_13_code 71 = .ok (.iconst 4, 1) := by decide +kernel
theorem dX9_sortOf_72 : decode prog_11_method_13_code 72 = .ok (.goto 4, 3) := by decide +kernel
theorem dX9_sortOf_75 : decode prog_11_method_13_code 75 = .ok (.iconst (-1), 1) := by decide +kernel
theorem dX9_sortOf_76 : decode prog_11_method_13_code 76 = .ok (.istore_n 1, 1) := by decide +kernel
theorem dX9_sortOf_77 : decode prog_11_method_13_code 77 = .ok (.aload_n 0, 1) := by decide +kernel
theorem dX9_sortOf_78 : decode prog_11_method_13_code 78 = .ok (.getfield 93, 3) := by decide +kernel
theorem dX9_sortOf_81 : decode prog_11_method_13_code 81 = .ok (.ldc2_w 127, 3) := by decide +kernel
theorem dX9_sortOf_84 : decode prog_11_method_13_code 84 = .ok (.lcmp, 1) := by decide +kernel
theorem dX9_sortOf_85 : decode prog_11_method_13_code 85 = .ok (.ifCond .ne 7, 3) := by decide +kernel
theorem dX9_sortOf_88 : decode prog_11_method_13_code 88 = .ok (.iconst 5, 1) := by decide +kernel
theorem dX9_sortOf_89 : decode prog_11_method_13_code 89 = .ok (.goto 52, 3) := by decide +kernel
theorem dX9_sortOf_92 : decode prog_11_method_13_code 92 = .ok (.aload_n 0, 1) := by decide +kernel
theorem dX9_sortOf_93 : decode prog_11_method_13_code 93 = .ok (.getfield 93, 3) := by decide +kernel
theorem dX9_sortOf_96 : decode prog_11_method_13_code 96 = .ok (.ldc2_w 129, 3) := by decide +kernel
theorem dX9_sortOf_99 : decode prog_11_method_13_code 99 = .ok (.lcmp, 1) := by decide +kernel
theorem dX9_sortOf_100 : decode prog_11_method_13_code 100 = .ok (.ifCond .ne 8, 3) := by decide +kernel
theorem dX9_sortOf_103 : decode prog_11_method_13_code 103 = .ok (.bipush 6, 2) := by decide +kernel
theorem dX9_sortOf_105 : decode prog_11_method_13_code 105 = .ok (.goto 36, 3) := by decide +kernel
theorem dX9_sortOf_108 : decode prog_11_method_13_code 108 = .ok (.aload_n 0, 1) := by decide +kernel
theorem dX9_sortOf_109 : decode prog_11_method_13_code 109 = .ok (.getfield 93, 3) := by decide +kernel
theorem dX9_sortOf_112 : decode prog_11_method_13_code 112 = .ok (.ldc2_w 131, 3) := by decide +kernel
theorem dX9_sortOf_115 : decode prog_11_method_13_code 115 = .ok (.lcmp, 1) := by decide +kernel
theorem dX9_sortOf_116 : decode prog_11_method_13_code 116 = .ok (.ifCond .ne 8, 3) := by decide +kernel
theorem dX9_sortOf_119 : decode prog_11_method_13_code 119 = .ok (.bipush 7, 2) := by decide +kernel
theorem dX9_sortOf_121 : decode prog_11_method_13_code 121 = .ok (.goto 20, 3) := by decide +kernel
theorem dX9_sortOf_124 : decode prog_11_method_13_code 124 = .ok (.aload_n 0, 1) := by decide +kernel
theorem dX9_sortOf_125 : decode prog_11_method_13_code 125 = .ok (.getfield 93, 3) := by decide +kernel
theorem dX9_sortOf_128 : decode prog_11_method_13_code 128 = .ok (.ldc2_w 133, 3) := by decide +kernel
theorem dX9_sortOf_131 : decode prog_11_method_13_code 131 = .ok (.lcmp, 1) := by decide +kernel
theorem dX9_sortOf_132 : decode prog_11_method_13_code 132 = .ok (.ifCond .ne 8, 3) := by decide +kernel
theorem dX9_sortOf_135 : decode prog_11_method_13_code 135 = .ok (.bipush 8, 2) := by decide +kernel
theorem dX9_sortOf_137 : decode prog_11_method_13_code 137 = .ok (.goto 4, 3) := by decide +kernel
theorem dX9_sortOf_140 : decode prog_11_method_13_code 140 = .ok (.iconst (-1), 1) := by decide +kernel
theorem dX9_sortOf_141 : decode prog_11_method_13_code 141 = .ok (.istore_n 2, 1) := by decide +kernel
theorem dX9_sortOf_142 : decode prog_11_method_13_code 142 = .ok (.iload_n 1, 1) := by decide +kernel
theorem dX9_sortOf_143 : decode prog_11_method_13_code 143 = .ok (.iconst (-1), 1) := by decide +kernel
theorem dX9_sortOf_144 : decode prog_11_method_13_code 144 = .ok (.if_icmp .ne 7, 3) := by decide +kernel
theorem dX9_sortOf_147 : decode prog_11_method_13_code 147 = .ok (.iload_n 2, 1) := by decide +kernel
theorem dX9_sortOf_148 : decode prog_11_method_13_code 148 = .ok (.goto 4, 3) := by decide +kernel
theorem dX9_sortOf_151 : decode prog_11_method_13_code 151 = .ok (.iload_n 1, 1) := by decide +kernel
theorem dX9_sortOf_152 : decode prog_11_method_13_code 152 = .ok (.ireturn, 1) := by decide +kernel
theorem dX9_isDeed_0 : decode prog_11_method_14_code 0 = .ok (.aload_n 0, 1) := by decide +kernel
theorem dX9_isDeed_1 : decode prog_11_method_14_code 1 = .ok (.iload_n 1, 1) := by decide +kernel
theorem dX9_isDeed_2 : decode prog_11_method_14_code 2 = .ok (.iconst 1, 1) := by decide +kernel
theorem dX9_isDeed_3 : decode prog_11_method_14_code 3 = .ok (.iadd, 1) := by decide +kernel
theorem dX9_isDeed_4 : decode prog_11_method_14_code 4 = .ok (.aload_n 0, 1) := by decide +kernel
theorem dX9_isDeed_5 : decode prog_11_method_14_code 5 = .ok (.getfield 135, 3) := by decide +kernel
theorem dX9_isDeed_8 : decode prog_11_method_14_code 8 = .ok (.iconst 1, 1) := by decide +kernel
theorem dX9_isDeed_9 : decode prog_11_method_14_code 9 = .ok (.isub, 1) := by decide +kernel
theorem dX9_isDeed_10 : decode prog_11_method_14_code 10 = .ok (.invokevirtual 138, 3) := by decide +kernel
theorem dX9_isDeed_13 : decode prog_11_method_14_code 13 = .ok (.ifCond .eq 45, 3) := by decide +kernel
theorem dX9_isDeed_16 : decode prog_11_method_14_code 16 = .ok (.aload_n 0, 1) := by decide +kernel
theorem dX9_isDeed_17 : decode prog_11_method_14_code 17 = .ok (.iload_n 1, 1) := by decide +kernel
theorem dX9_isDeed_18 : decode prog_11_method_14_code 18 = .ok (.iconst 2, 1) := by decide +kernel
theorem dX9_isDeed_19 : decode prog_11_method_14_code 19 = .ok (.iadd, 1) := by decide +kernel
theorem dX9_isDeed_20 : decode prog_11_method_14_code 20 = .ok (.iconst 1, 1) := by decide +kernel
theorem dX9_isDeed_21 : decode prog_11_method_14_code 21 = .ok (.invokevirtual 138, 3) := by decide +kernel
theorem dX9_isDeed_24 : decode prog_11_method_14_code 24 = .ok (.ifCond .eq 34, 3) := by decide +kernel
theorem dX9_isDeed_27 : decode prog_11_method_14_code 27 = .ok (.aload_n 0, 1) := by decide +kernel
theorem dX9_isDeed_28 : decode prog_11_method_14_code 28 = .ok (.iload_n 1, 1) := by decide +kernel
theorem dX9_isDeed_29 : decode prog_11_method_14_code 29 = .ok (.iconst 3, 1) := by decide +kernel
theorem dX9_isDeed_30 : decode prog_11_method_14_code 30 = .ok (.iadd, 1) := by decide +kernel
theorem dX9_isDeed_31 : decode prog_11_method_14_code 31 = .ok (.aload_n 0, 1) := by decide +kernel
theorem dX9_isDeed_32 : decode prog_11_method_14_code 32 = .ok (.getfield 135, 3) := by decide +kernel
theorem dX9_isDeed_35 : decode prog_11_method_14_code 35 = .ok (.iconst 1, 1) := by decide +kernel
theorem dX9_isDeed_36 : decode prog_11_method_14_code 36 = .ok (.isub, 1) := by decide +kernel
theorem dX9_isDeed_37 : decode prog_11_method_14_code 37 = .ok (.invokevirtual 138, 3) := by decide +kernel
theorem dX9_isDeed_40 : decode prog_11_method_14_code 40 = .ok (.ifCond .eq 18, 3) := by decide +kernel
theorem dX9_isDeed_43 : decode prog_11_method_14_code 43 = .ok (.aload_n 0, 1) := by decide +kernel
theorem dX9_isDeed_44 : decode prog_11_method_14_code 44 = .ok (.iload_n 1, 1) := by decide +kernel
theorem dX9_isDeed_45 : decode prog_11_method_14_code 45 = .ok (.iconst 4, 1) := by decide +kernel
theorem dX9_isDeed_46 : decode prog_11_method_14_code 46 = .ok (.iadd, 1) := by decide +kernel
theorem dX9_isDeed_47 : decode prog_11_method_14_code 47 = .ok (.iconst 1, 1) := by decide +kernel
theorem dX9_isDeed_48 : decode prog_11_method_14_code 48 = .ok (.invokevirtual 138, 3) := by decide +kernel
theorem dX9_isDeed_51 : decode prog_11_method_14_code 51 = .ok (.ifCond .eq 7, 3) := by decide +kernel
theorem dX9_isDeed_54 : decode prog_11_method_14_code 54 = .ok (.iconst 1, 1) := by decide +kernel
theorem dX9_isDeed_55 : decode prog_11_method_14_code 55 = .ok (.goto 4, 3) := by decide +kernel
theorem dX9_isDeed_58 : decode prog_11_method_14_code 58 = .ok (.iconst 0, 1) := by decide +kernel
theorem dX9_isDeed_59 : decode prog_11_method_14_code 59 = .ok (.ireturn, 1) := by decide +kernel
theorem dX9_isLine_0 : decode prog_11_method_15_code 0 = .ok (.aload_n 0, 1) := by decide +kernel
theorem dX9_isLine_1 : decode prog_11_method_15_code 1 = .ok (.invokevirtual 110, 3) := by decide +kernel
theorem dX9_isLine_4 : decode prog_11_method_15_code 4 = .ok (.aload_n 0, 1) := by decide +kernel
theorem dX9_isLine_5 : decode prog_11_method_15_code 5 = .ok (.invokevirtual 142, 3) := by decide +kernel
theorem dX9_isLine_8 : decode prog_11_method_15_code 8 = .ok (.istore_n 2, 1) := by decide +kernel
theorem dX9_isLine_9 : decode prog_11_method_15_code 9 = .ok (.aload_n 0, 1) := by decide +kernel
theorem dX9_isLine_10 : decode prog_11_method_15_code 10 = .ok (.getfield 22, 3) := by decide +kernel
theorem dX9_isLine_13 : decode prog_11_method_15_code 13 = .ok (.iload_n 1, 1) := by decide +kernel
theorem dX9_isLine_14 : decode prog_11_method_15_code 14 = .ok (.iload_n 2, 1) := by decide +kernel
theorem dX9_isLine_15 : decode prog_11_method_15_code 15 = .ok (.iastore, 1) := by decide +kernel
theorem dX9_isLine_16 : decode prog_11_method_15_code 16 = .ok (.iload_n 2, 1) := by decide +kernel
theorem dX9_isLine_17 : decode prog_11_method_15_code 17 = .ok (.iconst (-1), 1) := by decide +kernel
theorem dX9_isLine_18 : decode prog_11_method_15_code 18 = .ok (.if_icmp .ne 8, 3) := by decide +kernel
theorem dX9_isLine_21 : decode prog_11_method_15_code 21 = .ok (.aload_n 0, 1) := by decide +kernel
theorem dX9_isLine_22 : decode prog_11_method_15_code 22 = .ok (.invokevirtual 113, 3) := by decide +kernel
theorem dX9_isLine_25 : decode prog_11_method_15_code 25 = .ok (.ireturn, 1) := by decide +kernel
theorem dX9_isLine_26 : decode prog_11_method_15_code 26 = .ok (.iload_n 2, 1) := by decide +kernel
theorem dX9_isLine_27 : decode prog_11_method_15_code 27 = .ok (.iconst 2, 1) := by decide +kernel
theorem dX9_isLine_28 : decode prog_11_method_15_code 28 = .ok (.if_icmp .ge 58, 3) := by decide +kernel
theorem dX9_isLine_31 : decode prog_11_method_15_code 31 = .ok (.aload_n 0, 1) := by decide +kernel
theorem dX9_isLine_32 : decode prog_11_method_15_code 32 = .ok (.dup, 1) := by decide +kernel
theorem dX9_isLine_33 : decode prog_11_method_15_code 33 = .ok (.getfield 135, 3) := by decide +kernel
theorem dX9_isLine_36 : decode prog_11_method_15_code 36 = .ok (.iconst 1, 1) := by decide +kernel
theorem dX9_isLine_37 : decode prog_11_method_15_code 37 = .ok (.iadd, 1) := by decide +kernel
theorem dX9_isLine_38 : decode prog_11_method_15_code 38 = .ok (.putfield 135, 3) := by decide +kernel
theorem dX9_isLine_41 : decode prog_11_method_15_code 41 = .ok (.aload_n 0, 1) := by decide +kernel
theorem dX9_isLine_42 : decode prog_11_method_15_code 42 = .ok (.getfield 135, 3) := by decide +kernel
theorem dX9_isLine_45 : decode prog_11_method_15_code 45 = .ok (.bipush 6, 2) := by decide +kernel
theorem dX9_isLine_47 : decode prog_11_method_15_code 47 = .ok (.if_icmp .le 10, 3) := by decide +kernel
theorem dX9_isLine_50 : decode prog_11_method_15_code 50 = .ok (.aload_n 0, 1) := by decide +kernel
theorem dX9_isLine_51 : decode prog_11_method_15_code 51 = .ok (.invokevirtual 113, 3) := by decide +kernel
theorem dX9_isLine_54 : decode prog_11_method_15_code 54 = .ok (.goto 31, 3) := by decide +kernel
theorem dX9_isLine_57 : decode prog_11_method_15_code 57 = .ok (.aload_n 0, 1) := by decide +kernel
theorem dX9_isLine_58 : decode prog_11_method_15_code 58 = .ok (.iload_n 1, 1) := by decide +kernel
theorem dX9_isLine_59 : decode prog_11_method_15_code 59 = .ok (.iconst 1, 1) := by decide +kernel
theorem dX9_isLine_60 : decode prog_11_method_15_code 60 = .ok (.iadd, 1) := by decide +kernel
theorem dX9_isLine_61 : decode prog_11_method_15_code 61 = .ok (.bipush 40, 2) := by decide +kernel
theorem dX9_isLine_63 : decode prog_11_method_15_code 63 = .ok (.invokevirtual 138, 3) := by decide +kernel
theorem dX9_isLine_66 : decode prog_11_method_15_code 66 = .ok (.ifCond .eq 18, 3) := by decide +kernel
theorem dX9_isLine_69 : decode prog_11_method_15_code 69 = .ok (.aload_n 0, 1) := by decide +kernel
theorem dX9_isLine_70 : decode prog_11_method_15_code 70 = .ok (.iload_n 1, 1) := by decide +kernel
theorem dX9_isLine_71 : decode prog_11_method_15_code 71 = .ok (.iconst 2, 1) := by decide +kernel
theorem dX9_isLine_72 : decode prog_11_method_15_code 72 = .ok (.iadd, 1) := by decide +kernel
theorem dX9_isLine_73 : decode prog_11_method_15_code 73 = .ok (.iconst 1, 1) := by decide +kernel
theorem dX9_isLine_74 : decode prog_11_method_15_code 74 = .ok (.invokevirtual 138, 3) := by decide +kernel
theorem dX9_isLine_77 : decode prog_11_method_15_code 77 = .ok (.ifCond .eq 7, 3) := by decide +kernel
theorem dX9_isLine_80 : decode prog_11_method_15_code 80 = .ok (.iconst 1, 1) := by decide +kernel
theorem dX9_isLine_81 : decode prog_11_method_15_code 81 = .ok (.goto 4, 3) := by decide +kernel
theorem dX9_isLine_84 : decode prog_11_method_15_code 84 = .ok (.iconst 0, 1) := by decide +kernel
theorem dX9_isLine_85 : decode prog_11_method_15_code 85 = .ok (.ireturn, 1) := by decide +kernel
theorem dX9_isLine_86 : decode prog_11_method_15_code 86 = .ok (.iload_n 2, 1) := by decide +kernel
theorem dX9_isLine_87 : decode prog_11_method_15_code 87 = .ok (.bipush 6, 2) := by decide +kernel
theorem dX9_isLine_89 : decode prog_11_method_15_code 89 = .ok (.if_icmp .ge 67, 3) := by decide +kernel
theorem dX9_isLine_92 : decode prog_11_method_15_code 92 = .ok (.aload_n 0, 1) := by decide +kernel
theorem dX9_isLine_93 : decode prog_11_method_15_code 93 = .ok (.dup, 1) := by decide +kernel
theorem dX9_isLine_94 : decode prog_11_method_15_code 94 = .ok (.getfield 146, 3) := by decide +kernel
theorem dX9_isLine_97 : decode prog_11_method_15_code 97 = .ok (.iconst 1, 1) := by decide +kernel
theorem dX9_isLine_98 : decode prog_11_method_15_code 98 = .ok (.iadd, 1) := by decide +kernel
theorem dX9_isLine_99 : decode prog_11_method_15_code 99 = .ok (.putfield 146, 3) := by decide +kernel
theorem dX9_isLine_102 : decode prog_11_method_15_code 102 = .ok (.aload_n 0, 1) := by decide +kernel
theorem dX9_isLine_103 : decode prog_11_method_15_code 103 = .ok (.getfield 22, 3) := by decide +kernel
theorem dX9_isLine_106 : decode prog_11_method_15_code 106 = .ok (.iload_n 1, 1) := by decide +kernel
theorem dX9_isLine_107 : decode prog_11_method_15_code 107 = .ok (.iconst 5, 1) := by decide +kernel
theorem dX9_isLine_108 : decode prog_11_method_15_code 108 = .ok (.iadd, 1) := by decide +kernel
theorem dX9_isLine_109 : decode prog_11_method_15_code 109 = .ok (.iconst 0, 1) := by decide +kernel
theorem dX9_isLine_110 : decode prog_11_method_15_code 110 = .ok (.iastore, 1) := by decide +kernel
theorem dX9_isLine_111 : decode prog_11_method_15_code 111 = .ok (.aload_n 0, 1) := by decide +kernel
theorem dX9_isLine_112 : decode prog_11_method_15_code 112 = .ok (.getfield 146, 3) := by decide +kernel
theorem dX9_isLine_115 : decode prog_11_method_15_code 115 = .ok (.iconst 5, 1) := by decide +kernel
theorem dX9_isLine_116 : decode prog_11_method_15_code 116 = .ok (.if_icmp .le 10, 3) := by decide +kernel
theorem dX9_isLine_119 : decode prog_11_method_15_code 119 = .ok (.aload_n 0, 1) := by decide +kernel
theorem dX9_isLine_120 : decode prog_11_method_15_code 120 = .ok (.invokevirtual 113, 3) := by decide +kernel
theorem dX9_isLine_123 : decode prog_11_method_15_code 123 = .ok (.goto 32, 3) := by decide +kernel
theorem dX9_isLine_126 : decode prog_11_method_15_code 126 = .ok (.aload_n 0, 1) := by decide +kernel
theorem dX9_isLine_127 : decode prog_11_method_15_code 127 = .ok (.iload_n 1, 1) := by decide +kernel
theorem dX9_isLine_128 : decode prog_11_method_15_code 128 = .ok (.invokevirtual 149, 3) := by decide +kernel
theorem dX9_isLine_131 : decode prog_11_method_15_code 131 = .ok (.ifCond .eq 23, 3) := by decide +kernel
theorem dX9_isLine_134 : decode prog_11_method_15_code 134 = .ok (.iload_n 2, 1) := by decide +kernel
theorem dX9_isLine_135 : decode prog_11_method_15_code 135 = .ok (.iconst 4, 1) := by decide +kernel
theorem dX9_isLine_136 : decode prog_11_method_15_code 136 = .ok (.if_icmp .ne 14, 3) := by decide +kernel
theorem dX9_isLine_139 : decode prog_11_method_15_code 139 = .ok (.aload_n 0, 1) := by decide +kernel
theorem dX9_isLine_140 : decode prog_11_method_15_code 140 = .ok (.iload_n 1, 1) := by decide +kernel
theorem dX9_isLine_141 : decode prog_11_method_15_code 141 = .ok (.iconst 5, 1) := by decide +kernel
theorem dX9_isLine_142 : decode prog_11_method_15_code 142 = .ok (.iadd, 1) := by decide +kernel
theorem dX9_isLine_143 : decode prog_11_method_15_code 143 = .ok (.iconst 3, 1) := by decide +kernel
theorem dX9_isLine_144 : decode prog_11_method_15_code 144 = .ok (.invokevirtual 138, 3) := by decide +kernel
theorem dX9_isLine_147 : decode prog_11_method_15_code 147 = .ok (.ifCond .eq 7, 3) := by decide +kernel
theorem dX9_isLine_150 : decode prog_11_method_15_code 150 = .ok (.iconst 1, 1) := by decide +kernel
theorem dX9_isLine_151 : decode prog_11_method_15_code 151 = .ok (.goto 4, 3) := by decide +kernel
theorem dX9_isLine_154 : decode prog_11_method_15_code 154 = .ok (.iconst 0, 1) := by decide +kernel
theorem dX9_isLine_155 : decode prog_11_method_15_code 155 = .ok (.ireturn, 1) := by decide +kernel
theorem dX9_isLine_156 : decode prog_11_method_15_code 156 = .ok (.iload_n 2, 1) := by decide +kernel
theorem dX9_isLine_157 : decode prog_11_method_15_code 157 = .ok (.bipush 6, 2) := by decide +kernel
theorem dX9_isLine_159 : decode prog_11_method_15_code 159 = .ok (.if_icmp .ne 35, 3) := by decide +kernel
theorem dX9_isLine_162 : decode prog_11_method_15_code 162 = .ok (.aload_n 0, 1) := by decide +kernel
theorem dX9_isLine_163 : decode prog_11_method_15_code 163 = .ok (.dup, 1) := by decide +kernel
theorem dX9_isLine_164 : decode prog_11_method_15_code 164 = .ok (.getfield 153, 3) := by decide +kernel
theorem dX9_isLine_167 : decode prog_11_method_15_code 167 = .ok (.iconst 1, 1) := by decide +kernel
theorem dX9_isLine_168 : decode prog_11_method_15_code 168 = .ok (.iadd, 1) := by decide +kernel
theorem dX9_isLine_169 : decode prog_11_method_15_code 169 = .ok (.putfield 153, 3) := by decide +kernel
theorem dX9_isLine_172 : decode prog_11_method_15_code 172 = .ok (.aload_n 0, 1) := by decide +kernel
theorem dX9_isLine_173 : decode prog_11_method_15_code 173 = .ok (.getfield 153, 3) := by decide +kernel
theorem dX9_isLine_176 : decode prog_11_method_15_code 176 = .ok (.bipush 6, 2) := by decide +kernel
theorem dX9_isLine_178 : decode prog_11_method_15_code 178 = .ok (.if_icmp .le 10, 3) := by decide +kernel
theorem dX9_isLine_181 : decode prog_11_method_15_code 181 = .ok (.aload_n 0, 1) := by decide +kernel
theorem dX9_isLine_182 : decode prog_11_method_15_code 182 = .ok (.invokevirtual 113, 3) := by decide +kernel
theorem dX9_isLine_185 : decode prog_11_method_15_code 185 = .ok (.goto 8, 3) := by decide +kernel
theorem dX9_isLine_188 : decode prog_11_method_15_code 188 = .ok (.aload_n 0, 1) := by decide +kernel
theorem dX9_isLine_189 : decode prog_11_method_15_code 189 = .ok (.iload_n 1, 1) := by decide +kernel
theorem dX9_isLine_190 : decode prog_11_method_15_code 190 = .ok (.invokevirtual 149, 3) := by decide +kernel
theorem dX9_isLine_193 : decode prog_11_method_15_code 193 = .ok (.ireturn, 1) := by decide +kernel
theorem dX9_isLine_194 : decode prog_11_method_15_code 194 = .ok (.aload_n 0, 1) := by decide +kernel
theorem dX9_isLine_195 : decode prog_11_method_15_code 195 = .ok (.iload_n 2, 1) := by decide +kernel
theorem dX9_isLine_196 : decode prog_11_method_15_code 196 = .ok (.bipush 7, 2) := by decide +kernel
theorem dX9_isLine_198 : decode prog_11_method_15_code 198 = .ok (.if_icmp .ne 7, 3) := by decide +kernel
theorem dX9_isLine_201 : decode prog_11_method_15_code 201 = .ok (.iconst 0, 1) := by decide +kernel
theorem dX9_isLine_202 : decode prog_11_method_15_code 202 = .ok (.goto 7, 3) := by decide +kernel
theorem dX9_isLine_205 : decode prog_11_method_15_code 205 = .ok (.aload_n 0, 1) := by decide +kernel
theorem dX9_isLine_206 : decode prog_11_method_15_code 206 = .ok (.getfield 135, 3) := by decide +kernel
theorem dX9_isLine_209 : decode prog_11_method_15_code 209 = .ok (.putfield 135, 3) := by decide +kernel
theorem dX9_isLine_212 : decode prog_11_method_15_code 212 = .ok (.aload_n 0, 1) := by decide +kernel
theorem dX9_isLine_213 : decode prog_11_method_15_code 213 = .ok (.iload_n 2, 1) := by decide +kernel
theorem dX9_isLine_214 : decode prog_11_method_15_code 214 = .ok (.bipush 7, 2) := by decide +kernel
theorem dX9_isLine_216 : decode prog_11_method_15_code 216 = .ok (.if_icmp .ne 7, 3) := by decide +kernel
theorem dX9_isLine_219 : decode prog_11_method_15_code 219 = .ok (.iconst 0, 1) := by decide +kernel
theorem dX9_isLine_220 : decode prog_11_method_15_code 220 = .ok (.goto 7, 3) := by decide +kernel
theorem dX9_isLine_223 : decode prog_11_method_15_code 223 = .ok (.aload_n 0, 1) := by decide +kernel
theorem dX9_isLine_224 : decode prog_11_method_15_code 224 = .ok (.getfield 146, 3) := by decide +kernel
theorem dX9_isLine_227 : decode prog_11_method_15_code 227 = .ok (.putfield 146, 3) := by decide +kernel
theorem dX9_isLine_230 : decode prog_11_method_15_code 230 = .ok (.aload_n 0, 1) := by decide +kernel
theorem dX9_isLine_231 : decode prog_11_method_15_code 231 = .ok (.iconst 0, 1) := by decide +kernel
theorem dX9_isLine_232 : decode prog_11_method_15_code 232 = .ok (.putfield 153, 3) := by decide +kernel
theorem dX9_isLine_235 : decode prog_11_method_15_code 235 = .ok (.iconst 1, 1) := by decide +kernel
theorem dX9_isLine_236 : decode prog_11_method_15_code 236 = .ok (.ireturn, 1) := by decide +kernel
theorem dX9_isRead_0 : decode prog_11_method_16_code 0 = .ok (.aload_n 0, 1) := by decide +kernel
theorem dX9_isRead_1 : decode prog_11_method_16_code 1 = .ok (.iconst 0, 1) := by decide +kernel
theorem dX9_isRead_2 : decode prog_11_method_16_code 2 = .ok (.putfield 79, 3) := by decide +kernel
theorem dX9_isRead_5 : decode prog_11_method_16_code 5 = .ok (.aload_n 0, 1) := by decide +kernel
theorem dX9_isRead_6 : decode prog_11_method_16_code 6 = .ok (.iconst 0, 1) := by decide +kernel
theorem dX9_isRead_7 : decode prog_11_method_16_code 7 = .ok (.putfield 156, 3) := by decide +kernel
theorem dX9_isRead_10 : decode prog_11_method_16_code 10 = .ok (.aload_n 0, 1) := by decide +kernel
theorem dX9_isRead_11 : decode prog_11_method_16_code 11 = .ok (.aload_n 0, 1) := by decide +kernel
theorem dX9_isRead_12 : decode prog_11_method_16_code 12 = .ok (.getfield 59, 3) := by decide +kernel
theorem dX9_isRead_15 : decode prog_11_method_16_code 15 = .ok (.putfield 135, 3) := by decide +kernel
theorem dX9_isRead_18 : decode prog_11_method_16_code 18 = .ok (.aload_n 0, 1) := by decide +kernel
theorem dX9_isRead_19 : decode prog_11_method_16_code 19 = .ok (.aload_n 0, 1) := by decide +kernel
theorem dX9_isRead_20 : decode prog_11_method_16_code 20 = .ok (.getfield 73, 3) := by decide +kernel
theorem dX9_isRead_23 : decode prog_11_method_16_code 23 = .ok (.putfield 146, 3) := by decide +kernel
theorem dX9_isRead_26 : decode prog_11_method_16_code 26 = .ok (.aload_n 0, 1) := by decide +kernel
theorem dX9_isRead_27 : decode prog_11_method_16_code 27 = .ok (.aload_n 0, 1) := by decide +kernel
theorem dX9_isRead_28 : decode prog_11_method_16_code 28 = .ok (.getfield 159, 3) := by decide +kernel
theorem dX9_isRead_31 : decode prog_11_method_16_code 31 = .ok (.putfield 153, 3) := by decide +kernel
theorem dX9_isRead_34 : decode prog_11_method_16_code 34 = .ok (.iconst 1, 1) := by decide +kernel
theorem dX9_isRead_35 : decode prog_11_method_16_code 35 = .ok (.istore_n 1, 1) := by decide +kernel
theorem dX9_isRead_36 : decode prog_11_method_16_code 36 = .ok (.iload_n 1, 1) := by decide +kernel
theorem dX9_isRead_37 : decode prog_11_method_16_code 37 = .ok (.ifCond .eq 62, 3) := by decide +kernel
theorem dX9_isRead_40 : decode prog_11_method_16_code 40 = .ok (.aload_n 0, 1) := by decide +kernel
theorem dX9_isRead_41 : decode prog_11_method_16_code 41 = .ok (.bipush 6, 2) := by decide +kernel
theorem dX9_isRead_43 : decode prog_11_method_16_code 43 = .ok (.aload_n 0, 1) := by decide +kernel
theorem dX9_isRead_44 : decode prog_11_method_16_code 44 = .ok (.getfield 156, 3) := by decide +kernel
theorem dX9_isRead_47 : decode prog_11_method_16_code 47 = .ok (.imul, 1) := by decide +kernel
theorem dX9_isRead_48 : decode prog_11_method_16_code 48 = .ok (.invokevirtual 162, 3) := by decide +kernel
theorem dX9_isRead_51 : decode prog_11_method_16_code 51 = .ok (.ifCond .ne 5, 3) := by decide +kernel
theorem dX9_isRead_54 : decode prog_11_method_16_code 54 = .ok (.iconst 0, 1) := by decide +kernel
theorem dX9_isRead_55 : decode prog_11_method_16_code 55 = .ok (.ireturn, 1) := by decide +kernel
theorem dX9_isRead_56 : decode prog_11_method_16_code 56 = .ok (.aload_n 0, 1) := by decide +kernel
theorem dX9_isRead_57 : decode prog_11_method_16_code 57 = .ok (.dup, 1) := by decide +kernel
theorem dX9_isRead_58 : decode prog_11_method_16_code 58 = .ok (.getfield 156, 3) := by decide +kernel
theorem dX9_isRead_61 : decode prog_11_method_16_code 61 = .ok (.iconst 1, 1) := by decide +kernel
theorem dX9_isRead_62 : decode prog_11_method_16_code 62 = .ok (.iadd, 1) := by decide +kernel
theorem dX9_isRead_63 : decode prog_11_method_16_code 63 = .ok (.putfield 156, 3) := by decide +kernel
theorem dX9_isRead_66 : decode prog_11_method_16_code 66 = .ok (.aload_n 0, 1) := by decide +kernel
theorem dX9_isRead_67 : decode prog_11_method_16_code 67 = .ok (.invokevirtual 110, 3) := by decide +kernel
theorem dX9_isRead_70 : decode prog_11_method_16_code 70 = .ok (.aload_n 0, 1) := by decide +kernel
theorem dX9_isRead_71 : decode prog_11_method_16_code 71 = .ok (.getfield 93, 3) := by decide +kernel
theorem dX9_isRead_74 : decode prog_11_method_16_code 74 = .ok (.ldc2_w 105, 3) := by decide +kernel
theorem dX9_isRead_77 : decode prog_11_method_16_code 77 = .ok (.lcmp, 1) := by decide +kernel
theorem dX9_isRead_78 : decode prog_11_method_16_code 78 = .ok (.ifCond .ne 16, 3) := by decide +kernel
theorem dX9_isRead_81 : decode prog_11_method_16_code 81 = .ok (.aload_n 0, 1) := by decide +kernel
theorem dX9_isRead_82 : decode prog_11_method_16_code 82 = .ok (.getfield 156, 3) := by decide +kernel
theorem dX9_isRead_85 : decode prog_11_method_16_code 85 = .ok (.bipush 14, 2) := by decide +kernel
theorem dX9_isRead_87 : decode prog_11_method_16_code 87 = .ok (.if_icmp .ge 7, 3) := by decide +kernel
theorem dX9_isRead_90 : decode prog_11_method_16_code 90 = .ok (.iconst 1, 1) := by decide +kernel
theorem dX9_isRead_91 : decode prog_11_method_16_code 91 = .ok (.goto 4, 3) := by decide +kernel
theorem dX9_isRead_94 : decode prog_11_method_16_code 94 = .ok (.iconst 0, 1) := by decide +kernel
theorem dX9_isRead_95 : decode prog_11_method_16_code 95 = .ok (.istore_n 1, 1) := by decide +kernel
theorem dX9_isRead_96 : decode prog_11_method_16_code 96 = .ok (.goto (-60), 3) := by decide +kernel
theorem dX9_isRead_99 : decode prog_11_method_16_code 99 = .ok (.aload_n 0, 1) := by decide +kernel
theorem dX9_isRead_100 : decode prog_11_method_16_code 100 = .ok (.getfield 93, 3) := by decide +kernel
theorem dX9_isRead_103 : decode prog_11_method_16_code 103 = .ok (.ldc2_w 91, 3) := by decide +kernel
theorem dX9_isRead_106 : decode prog_11_method_16_code 106 = .ok (.lcmp, 1) := by decide +kernel
theorem dX9_isRead_107 : decode prog_11_method_16_code 107 = .ok (.ifCond .eq 10, 3) := by decide +kernel
theorem dX9_isRead_110 : decode prog_11_method_16_code 110 = .ok (.aload_n 0, 1) := by decide +kernel
theorem dX9_isRead_111 : decode prog_11_method_16_code 111 = .ok (.invokevirtual 113, 3) := by decide +kernel
theorem dX9_isRead_114 : decode prog_11_method_16_code 114 = .ok (.ifCond .eq 7, 3) := by decide +kernel
theorem dX9_isRead_117 : decode prog_11_method_16_code 117 = .ok (.iconst 1, 1) := by decide +kernel
theorem dX9_isRead_118 : decode prog_11_method_16_code 118 = .ok (.goto 4, 3) := by decide +kernel
theorem dX9_isRead_121 : decode prog_11_method_16_code 121 = .ok (.iconst 0, 1) := by decide +kernel
theorem dX9_isRead_122 : decode prog_11_method_16_code 122 = .ok (.ireturn, 1) := by decide +kernel
theorem dX9_fault_0 : decode prog_11_method_17_code 0 = .ok (.aload_n 0, 1) := by decide +kernel
theorem dX9_fault_1 : decode prog_11_method_17_code 1 = .ok (.invokevirtual 165, 3) := by decide +kernel
theorem dX9_fault_4 : decode prog_11_method_17_code 4 = .ok (.ifCond .eq 7, 3) := by decide +kernel
theorem dX9_fault_7 : decode prog_11_method_17_code 7 = .ok (.iconst (-1), 1) := by decide +kernel
theorem dX9_fault_8 : decode prog_11_method_17_code 8 = .ok (.goto 7, 3) := by decide +kernel
theorem dX9_fault_11 : decode prog_11_method_17_code 11 = .ok (.aload_n 0, 1) := by decide +kernel
theorem dX9_fault_12 : decode prog_11_method_17_code 12 = .ok (.getfield 107, 3) := by decide +kernel
theorem dX9_fault_15 : decode prog_11_method_17_code 15 = .ok (.ireturn, 1) := by decide +kernel
theorem dX9_doLine_0 : decode prog_11_method_18_code 0 = .ok (.aload_n 0, 1) := by decide +kernel
theorem dX9_doLine_1 : decode prog_11_method_18_code 1 = .ok (.getfield 22, 3) := by decide +kernel
theorem dX9_doLine_4 : decode prog_11_method_18_code 4 = .ok (.iload_n 1, 1) := by decide +kernel
theorem dX9_doLine_5 : decode prog_11_method_18_code 5 = .ok (.iaload, 1) := by decide +kernel
theorem dX9_doLine_6 : decode prog_11_method_18_code 6 = .ok (.istore_n 2, 1) := by decide +kernel
theorem dX9_doLine_7 : decode prog_11_method_18_code 7 = .ok (.iload_n 2, 1) := by decide +kernel
theorem dX9_doLine_8 : decode prog_11_method_18_code 8 = .ok (.iconst 2, 1) := by decide +kernel
theorem dX9_doLine_9 : decode prog_11_method_18_code 9 = .ok (.if_icmp .ge 70, 3) := by decide +kernel
theorem dX9_doLine_12 : decode prog_11_method_18_code 12 = .ok (.aload_n 0, 1) := by decide +kernel
theorem dX9_doLine_13 : decode prog_11_method_18_code 13 = .ok (.getfield 7, 3) := by decide +kernel
theorem dX9_doLine_16 : decode prog_11_method_18_code 16 = .ok (.iconst 3, 1) := by decide +kernel
theorem dX9_doLine_17 : decode prog_11_method_18_code 17 = .ok (.aload_n 0, 1) := by decide +kernel
theorem dX9_doLine_18 : decode prog_11_method_18_code 18 = .ok (.getfield 59, 3) := by decide +kernel
theorem dX9_doLine_21 : decode prog_11_method_18_code 21 = .ok (.imul, 1) := by decide +kernel
theorem dX9_doLine_22 : decode prog_11_method_18_code 22 = .ok (.iload_n 2, 1) := by decide +kernel
theorem dX9_doLine_23 : decode prog_11_method_18_code 23 = .ok (.iastore, 1) := by decide +kernel
theorem dX9_doLine_24 : decode prog_11_method_18_code 24 = .ok (.aload_n 0, 1) := by decide +kernel
theorem dX9_doLine_25 : decode prog_11_method_18_code 25 = .ok (.getfield 7, 3) := by decide +kernel
theorem dX9_doLine_28 : decode prog_11_method_18_code 28 = .ok (.iconst 3, 1) := by decide +kernel
theorem dX9_doLine_29 : decode prog_11_method_18_code 29 = .ok (.aload_n 0, 1) := by decide +kernel
theorem dX9_doLine_30 : decode prog_11_method_18_code 30 = .ok (.getfield 59, 3) := by decide +kernel
theorem dX9_doLine_33 : decode prog_11_method_18_code 33 = .ok (.imul, 1) := by decide +kernel
theorem dX9_doLine_34 : decode prog_11_method_18_code 34 = .ok (.iconst 1, 1) := by decide +kernel
theorem dX9_doLine_35 : decode prog_11_method_18_code 35 = .ok (.iadd, 1) := by decide +kernel
theorem dX9_doLine_36 : decode prog_11_method_18_code 36 = .ok (.aload_n 0, 1) := by decide +kernel
theorem dX9_doLine_37 : decode prog_11_method_18_code 37 = .ok (.getfield 22, 3) := by decide +kernel
theorem dX9_doLine_40 : decode prog_11_method_18_code 40 = .ok (.iload_n 1, 1) := by decide +kernel
theorem dX9_doLine_41 : decode prog_11_method_18_code 41 = .ok (.iconst 1, 1) := by decide +kernel
theorem dX9_doLine_42 : decode prog_11_method_18_code 42 = .ok (.iadd, 1) := by decide +kernel
theorem dX9_doLine_43 : decode prog_11_method_18_code 43 = .ok (.iaload, 1) := by decide +kernel
theorem dX9_doLine_44 : decode prog_11_method_18_code 44 = .ok (.iastore, 1) := by decide +kernel
theorem dX9_doLine_45 : decode prog_11_method_18_code 45 = .ok (.aload_n 0, 1) := by decide +kernel
theorem dX9_doLine_46 : decode prog_11_method_18_code 46 = .ok (.getfield 7, 3) := by decide +kernel
theorem dX9_doLine_49 : decode prog_11_method_18_code 49 = .ok (.iconst 3, 1) := by decide +kernel
theorem dX9_doLine_50 : decode prog_11_method_18_code 50 = .ok (.aload_n 0, 1) := by decide +kernel
theorem dX9_doLine_51 : decode prog_11_method_18_code 51 = .ok (.getfield 59, 3) := by decide +kernel
theorem dX9_doLine_54 : decode prog_11_method_18_code 54 = .ok (.imul, 1) := by decide +kernel
theorem dX9_doLine_55 : decode prog_11_method_18_code 55 = .ok (.iconst 2, 1) := by decide +kernel
theorem dX9_doLine_56 : decode prog_11_method_18_code 56 = .ok (.iadd, 1) := by decide +kernel
theorem dX9_doLine_57 : decode prog_11_method_18_code 57 = .ok (.aload_n 0, 1) := by decide +kernel
theorem dX9_doLine_58 : decode prog_11_method_18_code 58 = .ok (.getfield 22, 3) := by decide +kernel
theorem dX9_doLine_61 : decode prog_11_method_18_code 61 = .ok (.iload_n 1, 1) := by decide +kernel
theorem dX9_doLine_62 : decode prog_11_method_18_code 62 = .ok (.iconst 2, 1) := by decide +kernel
theorem dX9_doLine_63 : decode prog_11_method_18_code 63 = .ok (.iadd, 1) := by decide +kernel
theorem dX9_doLine_64 : decode prog_11_method_18_code 64 = .ok (.iaload, 1) := by decide +kernel
theorem dX9_doLine_65 : decode prog_11_method_18_code 65 = .ok (.iastore, 1) := by decide +kernel
theorem dX9_doLine_66 : decode prog_11_method_18_code 66 = .ok (.aload_n 0, 1) := by decide +kernel
theorem dX9_doLine_67 : decode prog_11_method_18_code 67 = .ok (.dup, 1) := by decide +kernel
theorem dX9_doLine_68 : decode prog_11_method_18_code 68 = .ok (.getfield 59, 3) := by decide +kernel
theorem dX9_doLine_71 : decode prog_11_method_18_code 71 = .ok (.iconst 1, 1) := by decide +kernel
theorem dX9_doLine_72 : decode prog_11_method_18_code 72 = .ok (.iadd, 1) := by decide +kernel
theorem dX9_doLine_73 : decode prog_11_method_18_code 73 = .ok (.putfield 59, 3) := by decide +kernel
theorem dX9_doLine_76 : decode prog_11_method_18_code 76 = .ok (.goto 169, 3) := by decide +kernel
theorem dX9_doLine_79 : decode prog_11_method_18_code 79 = .ok (.iload_n 2, 1) := by decide +kernel
theorem dX9_doLine_80 : decode prog_11_method_18_code 80 = .ok (.bipush 6, 2) := by decide +kernel
theorem dX9_doLine_82 : decode prog_11_method_18_code 82 = .ok (.if_icmp .ge 67, 3) := by decide +kernel
theorem dX9_doLine_85 : decode prog_11_method_18_code 85 = .ok (.aload_n 0, 1) := by decide +kernel
theorem dX9_doLine_86 : decode prog_11_method_18_code 86 = .ok (.getfield 13, 3) := by decide +kernel
theorem dX9_doLine_89 : decode prog_11_method_18_code 89 = .ok (.bipush 6, 2) := by decide +kernel
theorem dX9_doLine_91 : decode prog_11_method_18_code 91 = .ok (.aload_n 0, 1) := by decide +kernel
theorem dX9_doLine_92 : decode prog_11_method_18_code 92 = .ok (.getfield 73, 3) := by decide +kernel
theorem dX9_doLine_95 : decode prog_11_method_18_code 95 = .ok (.imul, 1) := by decide +kernel
theorem dX9_doLine_96 : decode prog_11_method_18_code 96 = .ok (.iload_n 2, 1) := by decide +kernel
theorem dX9_doLine_97 : decode prog_11_method_18_code 97 = .ok (.iconst 2, 1) := by decide +kernel
theorem dX9_doLine_98 : decode prog_11_method_18_code 98 = .ok (.isub, 1) := by decide +kernel
theorem dX9_doLine_99 : decode prog_11_method_18_code 99 = .ok (.iastore, 1) := by decide +kernel
theorem dX9_doLine_100 : decode prog_11_method_18_code 100 = .ok (.iconst 1, 1) := by decide +kernel
theorem dX9_doLine_101 : decode prog_11_method_18_code 101 = .ok (.istore_n 3, 1) := by decide +kernel
theorem dX9_doLine_102 : decode prog_11_method_18_code 102 = .ok (.iload_n 3, 1) := by decide +kernel
theorem dX9_doLine_103 : decode prog_11_method_18_code 103 = .ok (.bipush 6, 2) := by decide +kernel
theorem dX9_doLine_105 : decode prog_11_method_18_code 105 = .ok (.if_icmp .ge 31, 3) := by decide +kernel
theorem dX9_doLine_108 : decode prog_11_method_18_code 108 = .ok (.aload_n 0, 1) := by decide +kernel
theorem dX9_doLine_109 : decode prog_11_method_18_code 109 = .ok (.getfield 13, 3) := by decide +kernel
theorem dX9_doLine_112 : decode prog_11_method_18_code 112 = .ok (.bipush 6, 2) := by decide +kernel
theorem dX9_doLine_114 : decode prog_11_method_18_code 114 = .ok (.aload_n 0, 1) := by decide +kernel
theorem dX9_doLine_115 : decode prog_11_method_18_code 115 = .ok (.getfield 73, 3) := by decide +kernel
theorem dX9_doLine_118 : decode prog_11_method_18_code 118 = .ok (.imul, 1) := by decide +kernel
theorem dX9_doLine_119 : decode prog_11_method_18_code 119 = .ok (.iload_n 3, 1) := by decide +kernel
theorem dX9_doLine_120 : decode prog_11_method_18_code 120 = .ok (.iadd, 1) := by decide +kernel
theorem dX9_doLine_121 : decode prog_11_method_18_code 121 = .ok (.aload_n 0, 1) := by decide +kernel
theorem dX9_doLine_122 : decode prog_11_method_18_code 122 = .ok (.getfield 22, 3) := by decide +kernel
theorem dX9_doLine_125 : decode prog_11_method_18_code 125 = .ok (.iload_n 1, 1) := by decide +kernel
theorem dX9_doLine_126 : decode prog_11_method_18_code 126 = .ok (.iload_n 3, 1) := by decide +kernel
theorem dX9_doLine_127 : decode prog_11_method_18_code 127 = .ok (.iadd, 1) := by decide +kernel
theorem dX9_doLine_128 : decode prog_11_method_18_code 128 = .ok (.iaload, 1) := by decide +kernel
theorem dX9_doLine_129 : decode prog_11_method_18_code 129 = .ok (.iastore, 1) := by decide +kernel
theorem dX9_doLine_130 : decode prog_11_method_18_code 130 = .ok (.iinc 3 1, 3) := by decide +kernel
theorem dX9_doLine_133 : decode prog_11_method_18_code 133 = .ok (.goto (-31), 3) := by decide +kernel
theorem dX9_doLine_136 : decode prog_11_method_18_code 136 = .ok (.aload_n 0, 1) := by decide +kernel
theorem dX9_doLine_137 : decode prog_11_method_18_code 137 = .ok (.dup, 1) := by decide +kernel
theorem dX9_doLine_138 : decode prog_11_method_18_code 138 = .ok (.getfield 73, 3) := by decide +kernel
theorem dX9_doLine_141 : decode prog_11_method_18_code 141 = .ok (.iconst 1, 1) := by decide +kernel
theorem dX9_doLine_142 : decode prog_11_method_18_code 142 = .ok (.iadd, 1) := by decide +kernel
theorem dX9_doLine_143 : decode prog_11_method_18_code 143 = .ok (.putfield 73, 3) := by decide +kernel
theorem dX9_doLine_146 : decode prog_11_method_18_code 146 = .ok (.goto 99, 3) := by decide +kernel
theorem dX9_doLine_149 : decode prog_11_method_18_code 149 = .ok (.iload_n 2, 1) := by decide +kernel
theorem dX9_doLine_150 : decode prog_11_method_18_code 150 = .ok (.bipush 6, 2) := by decide +kernel
theorem dX9_doLine_152 : decode prog_11_method_18_code 152 = .ok (.if_icmp .ne 52, 3) := by decide +kernel
theorem dX9_doLine_155 : decode prog_11_method_18_code 155 = .ok (.iconst 0, 1) := by decide +kernel
theorem dX9_doLine_156 : decode prog_11_method_18_code 156 = .ok (.istore_n 3, 1) := by decide +kernel
theorem dX9_doLine_157 : decode prog_11_method_18_code 157 = .ok (.iload_n 3, 1) := by decide +kernel
theorem dX9_doLine_158 : decode prog_11_method_18_code 158 = .ok (.iconst 4, 1) := by decide +kernel
theorem dX9_doLine_159 : decode prog_11_method_18_code 159 = .ok (.if_icmp .ge 32, 3) := by decide +kernel
theorem dX9_doLine_162 : decode prog_11_method_18_code 162 = .ok (.aload_n 0, 1) := by decide +kernel
theorem dX9_doLine_163 : decode prog_11_method_18_code 163 = .ok (.getfield 16, 3) := by decide +kernel
theorem dX9_doLine_166 : decode prog_11_method_18_code 166 = .ok (.iconst 4, 1) := by decide +kernel
theorem dX9_doLine_167 : decode prog_11_method_18_code 167 = .ok (.aload_n 0, 1) := by decide +kernel
theorem dX9_doLine_168 : decode prog_11_method_18_code 168 = .ok (.getfield 159, 3) := by decide +kernel
theorem dX9_doLine_171 : decode prog_11_method_18_code 171 = .ok (.imul, 1) := by decide +kernel
theorem dX9_doLine_172 : decode prog_11_method_18_code 172 = .ok (.iload_n 3, 1) := by decide +kernel
theorem dX9_doLine_173 : decode prog_11_method_18_code 173 = .ok (.iadd, 1) := by decide +kernel
theorem dX9_doLine_174 : decode prog_11_method_18_code 174 = .ok (.aload_n 0, 1) := by decide +kernel
theorem dX9_doLine_175 : decode prog_11_method_18_code 175 = .ok (.getfield 22, 3) := by decide +kernel
theorem dX9_doLine_178 : decode prog_11_method_18_code 178 = .ok (.iload_n 1, 1) := by decide +kernel
theorem dX9_doLine_179 : decode prog_11_method_18_code 179 = .ok (.iconst 1, 1) := by decide +kernel
theorem dX9_doLine_180 : decode prog_11_method_18_code 180 = .ok (.iadd, 1) := by decide +kernel
theorem dX9_doLine_181 : decode prog_11_method_18_code 181 = .ok (.iload_n 3, 1) := by decide +kernel
theorem dX9_doLine_182 : decode prog_11_method_18_code 182 = .ok (.iadd, 1) := by decide +kernel
theorem dX9_doLine_183 : decode prog_11_method_18_code 183 = .ok (.iaload, 1) := by decide +kernel
theorem dX9_doLine_184 : decode prog_11_method_18_code 184 = .ok (.iastore, 1) := by decide +kernel
theorem dX9_doLine_185 : decode prog_11_method_18_code 185 = .ok (.iinc 3 1, 3) := by decide +kernel
theorem dX9_doLine_188 : decode prog_11_method_18_code 188 = .ok (.goto (-31), 3) := by decide +kernel
theorem dX9_doLine_191 : decode prog_11_method_18_code 191 = .ok (.aload_n 0, 1) := by decide +kernel
theorem dX9_doLine_192 : decode prog_11_method_18_code 192 = .ok (.dup, 1) := by decide +kernel
theorem dX9_doLine_193 : decode prog_11_method_18_code 193 = .ok (.getfield 159, 3) := by decide +kernel
theorem dX9_doLine_196 : decode prog_11_method_18_code 196 = .ok (.iconst 1, 1) := by decide +kernel
theorem dX9_doLine_197 : decode prog_11_method_18_code 197 = .ok (.iadd, 1) := by decide +kernel
theorem dX9_doLine_198 : decode prog_11_method_18_code 198 = .ok (.putfield 159, 3) := by decide +kernel
theorem dX9_doLine_201 : decode prog_11_method_18_code 201 = .ok (.goto 44, 3) := by decide +kernel
theorem dX9_doLine_204 : decode prog_11_method_18_code 204 = .ok (.aload_n 0, 1) := by decide +kernel
theorem dX9_doLine_205 : decode prog_11_method_18_code 205 = .ok (.iconst 0, 1) := by decide +kernel
theorem dX9_doLine_206 : decode prog_11_method_18_code 206 = .ok (.putfield 159, 3) := by decide +kernel
theorem dX9_doLine_209 : decode prog_11_method_18_code 209 = .ok (.aload_n 0, 1) := by decide +kernel
theorem dX9_doLine_210 : decode prog_11_method_18_code 210 = .ok (.iload_n 2, 1) := by decide +kernel
theorem dX9_doLine_211 : decode prog_11_method_18_code 211 = .ok (.bipush 7, 2) := by decide +kernel
theorem dX9_doLine_213 : decode prog_11_method_18_code 213 = .ok (.if_icmp .ne 7, 3) := by decide +kernel
theorem dX9_doLine_216 : decode prog_11_method_18_code 216 = .ok (.iconst 0, 1) := by decide +kernel
theorem dX9_doLine_217 : decode prog_11_method_18_code 217 = .ok (.goto 7, 3) := by decide +kernel
theorem dX9_doLine_220 : decode prog_11_method_18_code 220 = .ok (.aload_n 0, 1) := by decide +kernel
theorem dX9_doLine_221 : decode prog_11_method_18_code 221 = .ok (.getfield 59, 3) := by decide +kernel
theorem dX9_doLine_224 : decode prog_11_method_18_code 224 = .ok (.putfield 59, 3) := by decide +kernel
theorem dX9_doLine_227 : decode prog_11_method_18_code 227 = .ok (.aload_n 0, 1) := by decide +kernel
theorem dX9_doLine_228 : decode prog_11_method_18_code 228 = .ok (.iload_n 2, 1) := by decide +kernel
theorem dX9_doLine_229 : decode prog_11_method_18_code 229 = .ok (.bipush 7, 2) := by decide +kernel
theorem dX9_doLine_231 : decode prog_11_method_18_code 231 = .ok (.if_icmp .ne 7, 3) := by decide +kernel
theorem dX9_doLine_234 : decode prog_11_method_18_code 234 = .ok (.iconst 0, 1) := by decide +kernel
theorem dX9_doLine_235 : decode prog_11_method_18_code 235 = .ok (.goto 7, 3) := by decide +kernel
theorem dX9_doLine_238 : decode prog_11_method_18_code 238 = .ok (.aload_n 0, 1) := by decide +kernel
theorem dX9_doLine_239 : decode prog_11_method_18_code 239 = .ok (.getfield 73, 3) := by decide +kernel
theorem dX9_doLine_242 : decode prog_11_method_18_code 242 = .ok (.putfield 73, 3) := by decide +kernel
theorem dX9_doLine_245 : decode prog_11_method_18_code 245 = .ok (.return_, 1) := by decide +kernel
theorem dX9_city_0 : decode prog_11_method_19_code 0 = .ok (.aload_n 0, 1) := by decide +kernel
theorem dX9_city_1 : decode prog_11_method_19_code 1 = .ok (.invokevirtual 165, 3) := by decide +kernel
theorem dX9_city_4 : decode prog_11_method_19_code 4 = .ok (.ifCond .ne 6, 3) := by decide +kernel
theorem dX9_city_7 : decode prog_11_method_19_code 7 = .ok (.bipush (-4), 2) := by decide +kernel
theorem dX9_city_9 : decode prog_11_method_19_code 9 = .ok (.ireturn, 1) := by decide +kernel
theorem dX9_city_10 : decode prog_11_method_19_code 10 = .ok (.iconst 0, 1) := by decide +kernel
theorem dX9_city_11 : decode prog_11_method_19_code 11 = .ok (.istore_n 1, 1) := by decide +kernel
theorem dX9_city_12 : decode prog_11_method_19_code 12 = .ok (.iload_n 1, 1) := by decide +kernel
theorem dX9_city_13 : decode prog_11_method_19_code 13 = .ok (.aload_n 0, 1) := by decide +kernel
theorem dX9_city_14 : decode prog_11_method_19_code 14 = .ok (.getfield 156, 3) := by decide +kernel
theorem dX9_city_17 : decode prog_11_method_19_code 17 = .ok (.if_icmp .ge 17, 3) := by decide +kernel
theorem dX9_city_20 : decode prog_11_method_19_code 20 = .ok (.aload_n 0, 1) := by decide +kernel
theorem dX9_city_21 : decode prog_11_method_19_code 21 = .ok (.bipush 6, 2) := by decide +kernel
theorem dX9_city_23 : decode prog_11_method_19_code 23 = .ok (.iload_n 1, 1) := by decide +kernel
theorem dX9_city_24 : decode prog_11_method_19_code 24 = .ok (.imul, 1) := by decide +kernel
theorem dX9_city_25 : decode prog_11_method_19_code 25 = .ok (.invokevirtual 168, 3) := by decide +kernel
theorem dX9_city_28 : decode prog_11_method_19_code 28 = .ok (.iinc 1 1, 3) := by decide +kernel
theorem dX9_city_31 : decode prog_11_method_19_code 31 = .ok (.goto (-19), 3) := by decide +kernel
theorem dX9_city_34 : decode prog_11_method_19_code 34 = .ok (.aload_n 0, 1) := by decide +kernel
theorem dX9_city_35 : decode prog_11_method_19_code 35 = .ok (.iconst 0, 1) := by decide +kernel
theorem dX9_city_36 : decode prog_11_method_19_code 36 = .ok (.putfield 76, 3) := by decide +kernel
theorem dX9_city_39 : decode prog_11_method_19_code 39 = .ok (.aload_n 0, 1) := by decide +kernel
theorem dX9_city_40 : decode prog_11_method_19_code 40 = .ok (.invokevirtual 56, 3) := by decide +kernel
theorem dX9_city_43 : decode prog_11_method_19_code 43 = .ok (.aload_n 0, 1) := by decide +kernel
theorem dX9_city_44 : decode prog_11_method_19_code 44 = .ok (.getfield 156, 3) := by decide +kernel
theorem dX9_city_47 : decode prog_11_method_19_code 47 = .ok (.ireturn, 1) := by decide +kernel
theorem dX9_copy_0 : decode prog_11_method_20_code 0 = .ok (.iconst 0, 1) := by decide +kernel
theorem dX9_copy_1 : decode prog_11_method_20_code 1 = .ok (.istore 4, 2) := by decide +kernel
theorem dX9_copy_3 : decode prog_11_method_20_code 3 = .ok (.iload 4, 2) := by decide +kernel
theorem dX9_copy_5 : decode prog_11_method_20_code 5 = .ok (.bipush 32, 2) := by decide +kernel
theorem dX9_copy_7 : decode prog_11_method_20_code 7 = .ok (.if_icmp .ge 21, 3) := by decide +kernel
theorem dX9_copy_10 : decode prog_11_method_20_code 10 = .ok (.aload_n 2, 1) := by decide +kernel
theorem dX9_copy_11 : decode prog_11_method_20_code 11 = .ok (.iload_n 3, 1) := by decide +kernel
theorem dX9_copy_12 : decode prog_11_method_20_code 12 = .ok (.iload 4, 2) := by decide +kernel
theorem dX9_copy_14 : decode prog_11_method_20_code 14 = .ok (.iadd, 1) := by decide +kernel
theorem dX9_copy_15 : decode prog_11_method_20_code 15 = .ok (.aload_n 0, 1) := by decide +kernel
theorem dX9_copy_16 : decode prog_11_method_20_code 16 = .ok (.iload_n 1, 1) := by decide +kernel
theorem dX9_copy_17 : decode prog_11_method_20_code 17 = .ok (.iload 4, 2) := by decide +kernel
theorem dX9_copy_19 : decode prog_11_method_20_code 19 = .ok (.iadd, 1) := by decide +kernel
theorem dX9_copy_20 : decode prog_11_method_20_code 20 = .ok (.iaload, 1) := by decide +kernel
theorem dX9_copy_21 : decode prog_11_method_20_code 21 = .ok (.iastore, 1) := by decide +kernel
theorem dX9_copy_22 : decode prog_11_method_20_code 22 = .ok (.iinc 4 1, 3) := by decide +kernel
theorem dX9_copy_25 : decode prog_11_method_20_code 25 = .ok (.goto (-22), 3) := by decide +kernel
theorem dX9_copy_28 : decode prog_11_method_20_code 28 = .ok (.return_, 1) := by decide +kernel
theorem dX9_sumOf_0 : decode prog_11_method_21_code 0 = .ok (.iconst 0, 1) := by decide +kernel
theorem dX9_sumOf_1 : decode prog_11_method_21_code 1 = .ok (.istore_n 2, 1) := by decide +kernel
theorem dX9_sumOf_2 : decode prog_11_method_21_code 2 = .ok (.iconst 0, 1) := by decide +kernel
theorem dX9_sumOf_3 : decode prog_11_method_21_code 3 = .ok (.istore_n 3, 1) := by decide +kernel
theorem dX9_sumOf_4 : decode prog_11_method_21_code 4 = .ok (.iload_n 3, 1) := by decide +kernel
theorem dX9_sumOf_5 : decode prog_11_method_21_code 5 = .ok (.aload_n 0, 1) := by decide +kernel
theorem dX9_sumOf_6 : decode prog_11_method_21_code 6 = .ok (.getfield 59, 3) := by decide +kernel
theorem dX9_sumOf_9 : decode prog_11_method_21_code 9 = .ok (.if_icmp .ge 55, 3) := by decide +kernel
theorem dX9_sumOf_12 : decode prog_11_method_21_code 12 = .ok (.iload_n 1, 1) := by decide +kernel
theorem dX9_sumOf_13 : decode prog_11_method_21_code 13 = .ok (.iload_n 3, 1) := by decide +kernel
theorem dX9_sumOf_14 : decode prog_11_method_21_code 14 = .ok (.invokestatic 172, 3) := by decide +kernel
theorem dX9_sumOf_17 : decode prog_11_method_21_code 17 = .ok (.ifCond .eq 16, 3) := by decide +kernel
theorem dX9_sumOf_20 : decode prog_11_method_21_code 20 = .ok (.aload_n 0, 1) := by decide +kernel
theorem dX9_sumOf_21 : decode prog_11_method_21_code 21 = .ok (.getfield 7, 3) := by decide +kernel
theorem dX9_sumOf_24 : decode prog_11_method_21_code 24 = .ok (.iconst 3, 1) := by decide +kernel
theorem dX9_sumOf_25 : decode prog_11_method_21_code 25 = .ok (.iload_n 3, 1) := by decide +kernel
theorem dX9_sumOf_26 : decode prog_11_method_21_code 26 = .ok (.imul, 1) := by decide +kernel
theorem dX9_sumOf_27 : decode prog_11_method_21_code 27 = .ok (.iconst 1, 1) := by decide +kernel
theorem dX9_sumOf_28 : decode prog_11_method_21_code 28 = .ok (.iadd, 1) := by decide +kernel
theorem dX9_sumOf_29 : decode prog_11_method_21_code 29 = .ok (.iaload, 1) := by decide +kernel
theorem dX9_sumOf_30 : decode prog_11_method_21_code 30 = .ok (.goto 4, 3) := by decide +kernel
theorem dX9_sumOf_33 : decode prog_11_method_21_code 33 = .ok (.iconst 0, 1) := by decide +kernel
theorem dX9_sumOf_34 : decode prog_11_method_21_code 34 = .ok (.istore 4, 2) := by decide +kernel
theorem dX9_sumOf_36 : decode prog_11_method_21_code 36 = .ok (.iload_n 2, 1) := by decide +kernel
theorem dX9_sumOf_37 : decode prog_11_method_21_code 37 = .ok (.aload_n 0, 1) := by decide +kernel
theorem dX9_sumOf_38 : decode prog_11_method_21_code 38 = .ok (.getfield 7, 3) := by decide +kernel
theorem dX9_sumOf_41 : decode prog_11_method_21_code 41 = .ok (.iconst 3, 1) := by decide +kernel
theorem dX9_sumOf_42 : decode prog_11_method_21_code 42 = .ok (.iload_n 3, 1) := by decide +kernel
theorem dX9_sumOf_43 : decode prog_11_method_21_code 43 = .ok (.imul, 1) := by decide +kernel
theorem dX9_sumOf_44 : decode prog_11_method_21_code 44 = .ok (.iaload, 1) := by decide +kernel
theorem dX9_sumOf_45 : decode prog_11_method_21_code 45 = .ok (.ifCond .ne 8, 3) := by decide +kernel
theorem dX9_sumOf_48 : decode prog_11_method_21_code 48 = .ok (.iload 4, 2) := by decide +kernel
theorem dX9_sumOf_50 : decode prog_11_method_21_code 50 = .ok (.goto 6, 3) := by decide +kernel
theorem dX9_sumOf_53 : decode prog_11_method_21_code 53 = .ok (.iload 4, 2) := by decide +kernel
theorem dX9_sumOf_55 : decode prog_11_method_21_code 55 = .ok (.ineg, 1) := by decide +kernel
theorem dX9_sumOf_56 : decode prog_11_method_21_code 56 = .ok (.iadd, 1) := by decide +kernel
theorem dX9_sumOf_57 : decode prog_11_method_21_code 57 = .ok (.istore_n 2, 1) := by decide +kernel
theorem dX9_sumOf_58 : decode prog_11_method_21_code 58 = .ok (.iinc 3 1, 3) := by decide +kernel
theorem dX9_sumOf_61 : decode prog_11_method_21_code 61 = .ok (.goto (-57), 3) := by decide +kernel
theorem dX9_sumOf_64 : decode prog_11_method_21_code 64 = .ok (.iload_n 2, 1) := by decide +kernel
theorem dX9_sumOf_65 : decode prog_11_method_21_code 65 = .ok (.ireturn, 1) := by decide +kernel
theorem dX9_fact_0 : decode prog_11_method_22_code 0 = .ok (.aload_n 0, 1) := by decide +kernel
theorem dX9_fact_1 : decode prog_11_method_22_code 1 = .ok (.iload_n 1, 1) := by decide +kernel
theorem dX9_fact_2 : decode prog_11_method_22_code 2 = .ok (.invokevirtual 175, 3) := by decide +kernel
theorem dX9_fact_5 : decode prog_11_method_22_code 5 = .ok (.ifCond .ne 6, 3) := by decide +kernel
theorem dX9_fact_8 : decode prog_11_method_22_code 8 = .ok (.bipush (-2), 2) := by decide +kernel
theorem dX9_fact_10 : decode prog_11_method_22_code 10 = .ok (.ireturn, 1) := by decide +kernel
theorem dX9_fact_11 : decode prog_11_method_22_code 11 = .ok (.iload_n 2, 1) := by decide +kernel
theorem dX9_fact_12 : decode prog_11_method_22_code 12 = .ok (.iconst 2, 1) := by decide +kernel
theorem dX9_fact_13 : decode prog_11_method_22_code 13 = .ok (.if_icmp .ne 16, 3) := by decide +kernel
theorem dX9_fact_16 : decode prog_11_method_22_code 16 = .ok (.aload_n 0, 1) := by decide +kernel
theorem dX9_fact_17 : decode prog_11_method_22_code 17 = .ok (.getfield 25, 3) := by decide +kernel
theorem dX9_fact_20 : decode prog_11_method_22_code 20 = .ok (.iconst 0, 1) := by decide +kernel
theorem dX9_fact_21 : decode prog_11_method_22_code 21 = .ok (.iaload, 1) := by decide +kernel
theorem dX9_fact_22 : decode prog_11_method_22_code 22 = .ok (.iload_n 1, 1) := by decide +kernel
theorem dX9_fact_23 : decode prog_11_method_22_code 23 = .ok (.ishr, 1) := by decide +kernel
theorem dX9_fact_24 : decode prog_11_method_22_code 24 = .ok (.iconst 1, 1) := by decide +kernel
theorem dX9_fact_25 : decode prog_11_method_22_code 25 = .ok (.iand, 1) := by decide +kernel
theorem dX9_fact_26 : decode prog_11_method_22_code 26 = .ok (.goto 27, 3) := by decide +kernel
theorem dX9_fact_29 : decode prog_11_method_22_code 29 = .ok (.iload_n 2, 1) := by decide +kernel
theorem dX9_fact_30 : decode prog_11_method_22_code 30 = .ok (.iconst 0, 1) := by decide +kernel
theorem dX9_fact_31 : decode prog_11_method_22_code 31 = .ok (.iconst 1, 1) := by decide +kernel
theorem dX9_fact_32 : decode prog_11_method_22_code 32 = .ok (.invokestatic 69, 3) := by decide +kernel
theorem dX9_fact_35 : decode prog_11_method_22_code 35 = .ok (.ifCond .eq 16, 3) := by decide +kernel
theorem dX9_fact_38 : decode prog_11_method_22_code 38 = .ok (.aload_n 0, 1) := by decide +kernel
theorem dX9_fact_39 : decode prog_11_method_22_code 39 = .ok (.getfield 7, 3) := by decide +kernel
theorem dX9_fact_42 : decode prog_11_method_22_code 42 = .ok (.iconst 3, 1) := by decide +kernel
theorem dX9_fact_43 : decode prog_11_method_22_code 43 = .ok (.iload_n 1, 1) := by decide +kernel
theorem dX9_fact_44 : decode prog_11_method_22_code 44 = .ok (.imul, 1) := by decide +kernel
theorem dX9_fact_45 : decode prog_11_method_22_code 45 = .ok (.iload_n 2, 1) := by decide +kernel
theorem dX9_fact_46 : decode prog_11_method_22_code 46 = .ok (.iadd, 1) := by decide +kernel
theorem dX9_fact_47 : decode prog_11_method_22_code 47 = .ok (.iaload, 1) := by decide +kernel
theorem dX9_fact_48 : decode prog_11_method_22_code 48 = .ok (.goto 5, 3) := by decide +kernel
theorem dX9_fact_51 : decode prog_11_method_22_code 51 = .ok (.bipush (-3), 2) := by decide +kernel
theorem dX9_fact_53 : decode prog_11_method_22_code 53 = .ok (.ireturn, 1) := by decide +kernel
theorem dX9_one_0 : decode prog_11_method_23_code 0 = .ok (.aload_n 0, 1) := by decide +kernel
theorem dX9_one_1 : decode prog_11_method_23_code 1 = .ok (.iload_n 1, 1) := by decide +kernel
theorem dX9_one_2 : decode prog_11_method_23_code 2 = .ok (.invokevirtual 178, 3) := by decide +kernel
theorem dX9_one_5 : decode prog_11_method_23_code 5 = .ok (.ifCond .ne 6, 3) := by decide +kernel
theorem dX9_one_8 : decode prog_11_method_23_code 8 = .ok (.bipush (-2), 2) := by decide +kernel
theorem dX9_one_10 : decode prog_11_method_23_code 10 = .ok (.ireturn, 1) := by decide +kernel
theorem dX9_one_11 : decode prog_11_method_23_code 11 = .ok (.iload_n 2, 1) := by decide +kernel
theorem dX9_one_12 : decode prog_11_method_23_code 12 = .ok (.iconst 0, 1) := by decide +kernel
theorem dX9_one_13 : decode prog_11_method_23_code 13 = .ok (.iconst 5, 1) := by decide +kernel
theorem dX9_one_14 : decode prog_11_method_23_code 14 = .ok (.invokestatic 69, 3) := by decide +kernel
theorem dX9_one_17 : decode prog_11_method_23_code 17 = .ok (.ifCond .eq 17, 3) := by decide +kernel
theorem dX9_one_20 : decode prog_11_method_23_code 20 = .ok (.aload_n 0, 1) := by decide +kernel
theorem dX9_one_21 : decode prog_11_method_23_code 21 = .ok (.getfield 13, 3) := by decide +kernel
theorem dX9_one_24 : decode prog_11_method_23_code 24 = .ok (.bipush 6, 2) := by decide +kernel
theorem dX9_one_26 : decode prog_11_method_23_code 26 = .ok (.iload_n 1, 1) := by decide +kernel
theorem dX9_one_27 : decode prog_11_method_23_code 27 = .ok (.imul, 1) := by decide +kernel
theorem dX9_one_28 : decode prog_11_method_23_code 28 = .ok (.iload_n 2, 1) := by decide +kernel
theorem dX9_one_29 : decode prog_11_method_23_code 29 = .ok (.iadd, 1) := by decide +kernel
theorem dX9_one_30 : decode prog_11_method_23_code 30 = .ok (.iaload, 1) := by decide +kernel
theorem dX9_one_31 : decode prog_11_method_23_code 31 = .ok (.goto 5, 3) := by decide +kernel
theorem dX9_one_34 : decode prog_11_method_23_code 34 = .ok (.bipush (-3), 2) := by decide +kernel
theorem dX9_one_36 : decode prog_11_method_23_code 36 = .ok (.ireturn, 1) := by decide +kernel
theorem dX9_cause_0 : decode prog_11_method_24_code 0 = .ok (.iload_n 1, 1) := by decide +kernel
theorem dX9_cause_1 : decode prog_11_method_24_code 1 = .ok (.iconst 0, 1) := by decide +kernel
theorem dX9_cause_2 : decode prog_11_method_24_code 2 = .ok (.aload_n 0, 1) := by decide +kernel
theorem dX9_cause_3 : decode prog_11_method_24_code 3 = .ok (.getfield 159, 3) := by decide +kernel
theorem dX9_cause_6 : decode prog_11_method_24_code 6 = .ok (.iconst 1, 1) := by decide +kernel
theorem dX9_cause_7 : decode prog_11_method_24_code 7 = .ok (.isub, 1) := by decide +kernel
theorem dX9_cause_8 : decode prog_11_method_24_code 8 = .ok (.invokestatic 69, 3) := by decide +kernel
theorem dX9_cause_11 : decode prog_11_method_24_code 11 = .ok (.ifCond .ne 6, 3) := by decide +kernel
theorem dX9_cause_14 : decode prog_11_method_24_code 14 = .ok (.bipush (-2), 2) := by decide +kernel
theorem dX9_cause_16 : decode prog_11_method_24_code 16 = .ok (.ireturn, 1) := by decide +kernel
theorem dX9_cause_17 : decode prog_11_method_24_code 17 = .ok (.iload_n 2, 1) := by decide +kernel
theorem dX9_cause_18 : decode prog_11_method_24_code 18 = .ok (.iconst 0, 1) := by decide +kernel
theorem dX9_cause_19 : decode prog_11_method_24_code 19 = .ok (.iconst 3, 1) := by decide +kernel
theorem dX9_cause_20 : decode prog_11_method_24_code 20 = .ok (.invokestatic 69, 3) := by decide +kernel
theorem dX9_cause_23 : decode prog_11_method_24_code 23 = .ok (.ifCond .eq 16, 3) := by decide +kernel
theorem dX9_cause_26 : decode prog_11_method_24_code 26 = .ok (.aload_n 0, 1) := by decide +kernel
theorem dX9_cause_27 : decode prog_11_method_24_code 27 = .ok (.getfield 16, 3) := by decide +kernel
theorem dX9_cause_30 : decode prog_11_method_24_code 30 = .ok (.iconst 4, 1) := by decide +kernel
theorem dX9_cause_31 : decode prog_11_method_24_code 31 = .ok (.iload_n 1, 1) := by decide +kernel
theorem dX9_cause_32 : decode prog_11_method_24_code 32 = .ok (.imul, 1) := by decide +kernel
theorem dX9_cause_33 : decode prog_11_method_24_code 33 = .ok (.iload_n 2, 1) := by decide +kernel
theorem dX9_cause_34 : decode prog_11_method_24_code 34 = .ok (.iadd, 1) := by decide +kernel
theorem dX9_cause_35 : decode prog_11_method_24_code 35 = .ok (.iaload, 1) := by decide +kernel
theorem dX9_cause_36 : decode prog_11_method_24_code 36 = .ok (.goto 5, 3) := by decide +kernel
theorem dX9_cause_39 : decode prog_11_method_24_code 39 = .ok (.bipush (-3), 2) := by decide +kernel
theorem dX9_cause_41 : decode prog_11_method_24_code 41 = .ok (.ireturn, 1) := by decide +kernel
theorem dX9_belief_0 : decode prog_11_method_25_code 0 = .ok (.aload_n 0, 1) := by decide +kernel
theorem dX9_belief_1 : decode prog_11_method_25_code 1 = .ok (.iload_n 1, 1) := by decide +kernel
theorem dX9_belief_2 : decode prog_11_method_25_code 2 = .ok (.invokevirtual 178, 3) := by decide +kernel
theorem dX9_belief_5 : decode prog_11_method_25_code 5 = .ok (.ifCond .eq 27, 3) := by decide +kernel
theorem dX9_belief_8 : decode prog_11_method_25_code 8 = .ok (.aload_n 0, 1) := by decide +kernel
theorem dX9_belief_9 : decode prog_11_method_25_code 9 = .ok (.iload_n 2, 1) := by decide +kernel
theorem dX9_belief_10 : decode prog_11_method_25_code 10 = .ok (.invokevirtual 175, 3) := by decide +kernel
theorem dX9_belief_13 : decode prog_11_method_25_code 13 = .ok (.ifCond .eq 19, 3) := by decide +kernel
theorem dX9_belief_16 : decode prog_11_method_25_code 16 = .ok (.aload_n 0, 1) := by decide +kernel
theorem dX9_belief_17 : decode prog_11_method_25_code 17 = .ok (.getfield 25, 3) := by decide +kernel
theorem dX9_belief_20 : decode prog_11_method_25_code 20 = .ok (.iconst 2, 1) := by decide +kernel
theorem dX9_belief_21 : decode prog_11_method_25_code 21 = .ok (.bipush 6, 2) := by decide +kernel
theorem dX9_belief_23 : decode prog_11_method_25_code 23 = .ok (.iload_n 1, 1) := by decide +kernel
theorem dX9_belief_24 : decode prog_11_method_25_code 24 = .ok (.imul, 1) := by decide +kernel
theorem dX9_belief_25 : decode prog_11_method_25_code 25 = .ok (.iadd, 1) := by decide +kernel
theorem dX9_belief_26 : decode prog_11_method_25_code 26 = .ok (.iload_n 2, 1) := by decide +kernel
theorem dX9_belief_27 : decode prog_11_method_25_code 27 = .ok (.iadd, 1) := by decide +kernel
theorem dX9_belief_28 : decode prog_11_method_25_code 28 = .ok (.iaload, 1) := by decide +kernel
theorem dX9_belief_29 : decode prog_11_method_25_code 29 = .ok (.goto 5, 3) := by decide +kernel
theorem dX9_belief_32 : decode prog_11_method_25_code 32 = .ok (.bipush (-2), 2) := by decide +kernel
theorem dX9_belief_34 : decode prog_11_method_25_code 34 = .ok (.ireturn, 1) := by decide +kernel
theorem dX9_trusts_0 : decode prog_11_method_26_code 0 = .ok (.aload_n 0, 1) := by decide +kernel
theorem dX9_trusts_1 : decode prog_11_method_26_code 1 = .ok (.iload_n 1, 1) := by decide +kernel
theorem dX9_trusts_2 : decode prog_11_method_26_code 2 = .ok (.invokevirtual 181, 3) := by decide +kernel
theorem dX9_trusts_5 : decode prog_11_method_26_code 5 = .ok (.iconst 1, 1) := by decide +kernel
theorem dX9_trusts_6 : decode prog_11_method_26_code 6 = .ok (.if_icmp .eq 29, 3) := by decide +kernel
theorem dX9_trusts_9 : decode prog_11_method_26_code 9 = .ok (.aload_n 0, 1) := by decide +kernel
theorem dX9_trusts_10 : decode prog_11_method_26_code 10 = .ok (.iload_n 1, 1) := by decide +kernel
theorem dX9_trusts_11 : decode prog_11_method_26_code 11 = .ok (.invokevirtual 181, 3) := by decide +kernel
theorem dX9_trusts_14 : decode prog_11_method_26_code 14 = .ok (.iconst 2, 1) := by decide +kernel
theorem dX9_trusts_15 : decode prog_11_method_26_code 15 = .ok (.if_icmp .ne 24, 3) := by decide +kernel
theorem dX9_trusts_18 : decode prog_11_method_26_code 18 = .ok (.aload_n 0, 1) := by decide +kernel
theorem dX9_trusts_19 : decode prog_11_method_26_code 19 = .ok (.getfield 13, 3) := by decide +kernel
theorem dX9_trusts_22 : decode prog_11_method_26_code 22 = .ok (.bipush 6, 2) := by decide +kernel
theorem dX9_trusts_24 : decode prog_11_method_26_code 24 = .ok (.iload_n 1, 1) := by decide +kernel
theorem dX9_trusts_25 : decode prog_11_method_26_code 25 = .ok (.imul, 1) := by decide +kernel
theorem dX9_trusts_26 : decode prog_11_method_26_code 26 = .ok (.iconst 5, 1) := by decide +kernel
theorem dX9_trusts_27 : decode prog_11_method_26_code 27 = .ok (.iadd, 1) := by decide +kernel
theorem dX9_trusts_28 : decode prog_11_method_26_code 28 = .ok (.iaload, 1) := by decide +kernel
theorem dX9_trusts_29 : decode prog_11_method_26_code 29 = .ok (.iconst 2, 1) := by decide +kernel
theorem dX9_trusts_30 : decode prog_11_method_26_code 30 = .ok (.irem, 1) := by decide +kernel
theorem dX9_trusts_31 : decode prog_11_method_26_code 31 = .ok (.iconst 1, 1) := by decide +kernel
theorem dX9_trusts_32 : decode prog_11_method_26_code 32 = .ok (.if_icmp .ne 7, 3) := by decide +kernel
theorem dX9_trusts_35 : decode prog_11_method_26_code 35 = .ok (.iconst 1, 1) := by decide +kernel
theorem dX9_trusts_36 : decode prog_11_method_26_code 36 = .ok (.goto 4, 3) := by decide +kernel
theorem dX9_trusts_39 : decode prog_11_method_26_code 39 = .ok (.iconst 0, 1) := by decide +kernel
theorem dX9_trusts_40 : decode prog_11_method_26_code 40 = .ok (.ireturn, 1) := by decide +kernel
theorem dX9_as_0 : decode prog_11_method_27_code 0 = .ok (.aload_n 0, 1) := by decide +kernel
theorem dX9_as_1 : decode prog_11_method_27_code 1 = .ok (.iload_n 1, 1) := by decide +kernel
theorem dX9_as_2 : decode prog_11_method_27_code 2 = .ok (.invokevirtual 178, 3) := by decide +kernel
theorem dX9_as_5 : decode prog_11_method_27_code 5 = .ok (.ifCond .ne 6, 3) := by decide +kernel
theorem dX9_as_8 : decode prog_11_method_27_code 8 = .ok (.bipush (-2), 2) := by decide +kernel
theorem dX9_as_10 : decode prog_11_method_27_code 10 = .ok (.ireturn, 1) := by decide +kernel
theorem dX9_as_11 : decode prog_11_method_27_code 11 = .ok (.iload_n 2, 1) := by decide +kernel
theorem dX9_as_12 : decode prog_11_method_27_code 12 = .ok (.iconst 0, 1) := by decide +kernel
theorem dX9_as_13 : decode prog_11_method_27_code 13 = .ok (.iconst 4, 1) := by decide +kernel
theorem dX9_as_14 : decode prog_11_method_27_code 14 = .ok (.invokestatic 69, 3) := by decide +kernel
theorem dX9_as_17 : decode prog_11_method_27_code 17 = .ok (.ifCond .ne 6, 3) := by decide +kernel
theorem dX9_as_20 : decode prog_11_method_27_code 20 = .ok (.bipush (-3), 2) := by decide +kernel
theorem dX9_as_22 : decode prog_11_method_27_code 22 = .ok (.ireturn, 1) := by decide +kernel
theorem dX9_as_23 : decode prog_11_method_27_code 23 = .ok (.aload_n 0, 1) := by decide +kernel
theorem dX9_as_24 : decode prog_11_method_27_code 24 = .ok (.iload_n 1, 1) := by decide +kernel
theorem dX9_as_25 : decode prog_11_method_27_code 25 = .ok (.invokevirtual 181, 3) := by decide +kernel
theorem dX9_as_28 : decode prog_11_method_27_code 28 = .ok (.istore_n 3, 1) := by decide +kernel
theorem dX9_as_29 : decode prog_11_method_27_code 29 = .ok (.iload_n 2, 1) := by decide +kernel
theorem dX9_as_30 : decode prog_11_method_27_code 30 = .ok (.ifCond .eq 36, 3) := by decide +kernel
theorem dX9_as_33 : decode prog_11_method_27_code 33 = .ok (.iload_n 2, 1) := by decide +kernel
theorem dX9_as_34 : decode prog_11_method_27_code 34 = .ok (.iconst 1, 1) := by decide +kernel
theorem dX9_as_35 : decode prog_11_method_27_code 35 = .ok (.if_icmp .ne 11, 3) := by decide +kernel
theorem dX9_as_38 : decode prog_11_method_27_code 38 = .ok (.iload_n 3, 1) := by decide +kernel
theorem dX9_as_39 : decode prog_11_method_27_code 39 = .ok (.iconst 1, 1) := by decide +kernel
theorem dX9_as_40 : decode prog_11_method_27_code 40 = .ok (.if_icmp .eq 30, 3) := by decide +kernel
theorem dX9_as_43 : decode prog_11_method_27_code 43 = .ok (.goto 23, 3) := by decide +kernel
theorem dX9_as_46 : decode prog_11_method_27_code 46 = .ok (.iload_n 2, 1) := by decide +kernel
theorem dX9_as_47 : decode prog_11_method_27_code 47 = .ok (.iconst 2, 1) := by decide +kernel
theorem dX9_as_48 : decode prog_11_method_27_code 48 = .ok (.if_icmp .ne 11, 3) := by decide +kernel
theorem dX9_as_51 : decode prog_11_method_27_code 51 = .ok (.iload_n 3, 1) := by decide +kernel
theorem dX9_as_52 : decode prog_11_method_27_code 52 = .ok (.iconst 1, 1) := by decide +kernel
theorem dX9_as_53 : decode prog_11_method_27_code 53 = .ok (.if_icmp .ne 17, 3) := by decide +kernel
theorem dX9_as_56 : decode prog_11_method_27_code 56 = .ok (.goto 10, 3) := by decide +kernel
theorem dX9_as_59 : decode prog_11_method_27_code 59 = .ok (.iload_n 3, 1) := by decide +kernel
theorem dX9_as_60 : decode prog_11_method_27_code 60 = .ok (.iload_n 2, 1) := by decide +kernel
theorem dX9_as_61 : decode prog_11_method_27_code 61 = .ok (.iconst 1, 1) := by decide +kernel
theorem dX9_as_62 : decode prog_11_method_27_code 62 = .ok (.isub, 1) := by decide +kernel
theorem dX9_as_63 : decode prog_11_method_27_code 63 = .ok (.if_icmp .ne 7, 3) := by decide +kernel
theorem dX9_as_66 : decode prog_11_method_27_code 66 = .ok (.iconst 1, 1) := by decide +kernel
theorem dX9_as_67 : decode prog_11_method_27_code 67 = .ok (.goto 4, 3) := by decide +kernel
theorem dX9_as_70 : decode prog_11_method_27_code 70 = .ok (.iconst 0, 1) := by decide +kernel
theorem dX9_as_71 : decode prog_11_method_27_code 71 = .ok (.istore 4, 2) := by decide +kernel
theorem dX9_as_73 : decode prog_11_method_27_code 73 = .ok (.iload 4, 2) := by decide +kernel
theorem dX9_as_75 : decode prog_11_method_27_code 75 = .ok (.ifCond .eq 19, 3) := by decide +kernel
theorem dX9_as_78 : decode prog_11_method_27_code 78 = .ok (.aload_n 0, 1) := by decide +kernel
theorem dX9_as_79 : decode prog_11_method_27_code 79 = .ok (.iload_n 1, 1) := by decide +kernel
theorem dX9_as_80 : decode prog_11_method_27_code 80 = .ok (.invokevirtual 185, 3) := by decide +kernel
theorem dX9_as_83 : decode prog_11_method_27_code 83 = .ok (.ifCond .eq 7, 3) := by decide +kernel
theorem dX9_as_86 : decode prog_11_method_27_code 86 = .ok (.iconst 1, 1) := by decide +kernel
theorem dX9_as_87 : decode prog_11_method_27_code 87 = .ok (.goto 9, 3) := by decide +kernel
theorem dX9_as_90 : decode prog_11_method_27_code 90 = .ok (.iconst 0, 1) := by decide +kernel
theorem dX9_as_91 : decode prog_11_method_27_code 91 = .ok (.goto 5, 3) := by decide +kernel
theorem dX9_as_94 : decode prog_11_method_27_code 94 = .ok (.bipush (-4), 2) := by decide +kernel
theorem dX9_as_96 : decode prog_11_method_27_code 96 = .ok (.ireturn, 1) := by decide +kernel
theorem dX9_sayingAs_0 : decode prog_11_method_28_code 0 = .ok (.iload_n 1, 1) := by decide +kernel
theorem dX9_sayingAs_1 : decode prog_11_method_28_code 1 = .ok (.iconst 0, 1) := by decide +kernel
theorem dX9_sayingAs_2 : decode prog_11_method_28_code 2 = .ok (.iconst 4, 1) := by decide +kernel
theorem dX9_sayingAs_3 : decode prog_11_method_28_code 3 = .ok (.invokestatic 69, 3) := by decide +kernel
theorem dX9_sayingAs_6 : decode prog_11_method_28_code 6 = .ok (.ifCond .eq 13, 3) := by decide +kernel
theorem dX9_sayingAs_9 : decode prog_11_method_28_code 9 = .ok (.iload_n 2, 1) := by decide +kernel
theorem dX9_sayingAs_10 : decode prog_11_method_28_code 10 = .ok (.iconst 0, 1) := by decide +kernel
theorem dX9_sayingAs_11 : decode prog_11_method_28_code 11 = .ok (.bipush 6, 2) := by decide +kernel
theorem dX9_sayingAs_13 : decode prog_11_method_28_code 13 = .ok (.invokestatic 69, 3) := by decide +kernel
theorem dX9_sayingAs_16 : decode prog_11_method_28_code 16 = .ok (.ifCond .ne 6, 3) := by decide +kernel
theorem dX9_sayingAs_19 : decode prog_11_method_28_code 19 = .ok (.bipush (-3), 2) := by decide +kernel
theorem dX9_sayingAs_21 : decode prog_11_method_28_code 21 = .ok (.ireturn, 1) := by decide +kernel
theorem dX9_sayingAs_22 : decode prog_11_method_28_code 22 = .ok (.iload_n 1, 1) := by decide +kernel
theorem dX9_sayingAs_23 : decode prog_11_method_28_code 23 = .ok (.ifCond .eq 8, 3) := by decide +kernel
theorem dX9_sayingAs_26 : decode prog_11_method_28_code 26 = .ok (.iload_n 1, 1) := by decide +kernel
theorem dX9_sayingAs_27 : decode prog_11_method_28_code 27 = .ok (.iconst 4, 1) := by decide +kernel
theorem dX9_sayingAs_28 : decode prog_11_method_28_code 28 = .ok (.if_icmp .ne 7, 3) := by decide +kernel
theorem dX9_sayingAs_31 : decode prog_11_method_28_code 31 = .ok (.iconst 1, 1) := by decide +kernel
theorem dX9_sayingAs_32 : decode prog_11_method_28_code 32 = .ok (.goto 4, 3) := by decide +kernel
theorem dX9_sayingAs_35 : decode prog_11_method_28_code 35 = .ok (.iconst 0, 1) := by decide +kernel
theorem dX9_sayingAs_36 : decode prog_11_method_28_code 36 = .ok (.istore_n 3, 1) := by decide +kernel
theorem dX9_sayingAs_37 : decode prog_11_method_28_code 37 = .ok (.iconst 0, 1) := by decide +kernel
theorem dX9_sayingAs_38 : decode prog_11_method_28_code 38 = .ok (.istore 4, 2) := by decide +kernel
theorem dX9_sayingAs_40 : decode prog_11_method_28_code 40 = .ok (.iload_n 2, 1) := by decide +kernel
theorem dX9_sayingAs_41 : decode prog_11_method_28_code 41 = .ok (.tableswitch 115 0 5 #[39, 45, 51, 66, 80, 95], 39) := by decide +kernel
theorem dX9_sayingAs_80 : decode prog_11_method_28_code 80 = .ok (.iconst 1, 1) := by decide +kernel
theorem dX9_sayingAs_81 : decode prog_11_method_28_code 81 = .ok (.istore 4, 2) := by decide +kernel
theorem dX9_sayingAs_83 : decode prog_11_method_28_code 83 = .ok (.goto 85, 3) := by decide +kernel
theorem dX9_sayingAs_86 : decode prog_11_method_28_code 86 = .ok (.iload_n 3, 1) := by decide +kernel
theorem dX9_sayingAs_87 : decode prog_11_method_28_code 87 = .ok (.istore 4, 2) := by decide +kernel
theorem dX9_sayingAs_89 : decode prog_11_method_28_code 89 = .ok (.goto 79, 3) := by decide +kernel
theorem dX9_sayingAs_92 : decode prog_11_method_28_code 92 = .ok (.iload_n 1, 1) := by decide +kernel
theorem dX9_sayingAs_93 : decode prog_11_method_28_code 93 = .ok (.iconst 4, 1) := by decide +kernel
theorem dX9_sayingAs_94 : decode prog_11_method_28_code 94 = .ok (.if_icmp .ne 7, 3) := by decide +kernel
theorem dX9_sayingAs_97 : decode prog_11_method_28_code 97 = .ok (.iconst 1, 1) := by decide +kernel
theorem dX9_sayingAs_98 : decode prog_11_method_28_code 98 = .ok (.goto 4, 3) := by decide +kernel
theorem dX9_sayingAs_101 : decode prog_11_method_28_code 101 = .ok (.iconst 0, 1) := by decide +kernel
theorem dX9_sayingAs_102 : decode prog_11_method_28_code 102 = .ok (.istore 4, 2) := by decide +kernel
theorem dX9_sayingAs_104 : decode prog_11_method_28_code 104 = .ok (.goto 64, 3) := by decide +kernel
theorem dX9_sayingAs_107 : decode prog_11_method_28_code 107 = .ok (.iload_n 3, 1) := by decide +kernel
theorem dX9_sayingAs_108 : decode prog_11_method_28_code 108 = .ok (.ifCond .ne 7, 3) := by decide +kernel
theorem dX9_sayingAs_111 : decode prog_11_method_28_code 111 = .ok (.iconst 1, 1) := by decide +kernel
theorem dX9_sayingAs_112 : decode prog_11_method_28_code 112 = .ok (.goto 4, 3) := by decide +kernel
theorem dX9_sayingAs_115 : decode prog_11_method_28_code 115 = .ok (.iconst 0, 1) := by decide +kernel
theorem dX9_sayingAs_116 : decode prog_11_method_28_code 116 = .ok (.istore 4, 2) := by decide +kernel
theorem dX9_sayingAs_118 : decode prog_11_method_28_code 118 = .ok (.goto 50, 3) := by decide +kernel
theorem dX9_sayingAs_121 : decode prog_11_method_28_code 121 = .ok (.iload_n 1, 1) := by decide +kernel
theorem dX9_sayingAs_122 : decode prog_11_method_28_code 122 = .ok (.iconst 1, 1) := by decide +kernel
theorem dX9_sayingAs_123 : decode prog_11_method_28_code 123 = .ok (.if_icmp .ne 7, 3) := by decide +kernel
theorem dX9_sayingAs_126 : decode prog_11_method_28_code 126 = .ok (.iconst 1, 1) := by decide +kernel
theorem dX9_sayingAs_127 : decode prog_11_method_28_code 127 = .ok (.goto 4, 3) := by decide +kernel
theorem dX9_sayingAs_130 : decode prog_11_method_28_code 130 = .ok (.iconst 0, 1) := by decide +kernel
theorem dX9_sayingAs_131 : decode prog_11_method_28_code 131 = .ok (.istore 4, 2) := by decide +kernel
theorem dX9_sayingAs_133 : decode prog_11_method_28_code 133 = .ok (.goto 35, 3) := by decide +kernel
theorem dX9_sayingAs_136 : decode prog_11_method_28_code 136 = .ok (.iload_n 1, 1) := by decide +kernel
theorem dX9_sayingAs_137 : decode prog_11_method_28_code 137 = .ok (.iconst 2, 1) := by decide +kernel
theorem dX9_sayingAs_138 : decode prog_11_method_28_code 138 = .ok (.if_icmp .eq 8, 3) := by decide +kernel
theorem dX9_sayingAs_141 : decode prog_11_method_28_code 141 = .ok (.iload_n 1, 1) := by decide +kernel
theorem dX9_sayingAs_142 : decode prog_11_method_28_code 142 = .ok (.iconst 3, 1) := by decide +kernel
theorem dX9_sayingAs_143 : decode prog_11_method_28_code 143 = .ok (.if_icmp .ne 7, 3) := by decide +kernel
theorem dX9_sayingAs_146 : decode prog_11_method_28_code 146 = .ok (.iconst 1, 1) := by decide +kernel
theorem dX9_sayingAs_147 : decode prog_11_method_28_code 147 = .ok (.goto 4, 3) := by decide +kernel
theorem dX9_sayingAs_150 : decode prog_11_method_28_code 150 = .ok (.iconst 0, 1) := by decide +kernel
theorem dX9_sayingAs_151 : decode prog_11_method_28_code 151 = .ok (.istore 4, 2) := by decide +kernel
theorem dX9_sayingAs_153 : decode prog_11_method_28_code 153 = .ok (.goto 15, 3) := by decide +kernel
theorem dX9_sayingAs_156 : decode prog_11_method_28_code 156 = .ok (.iload_n 1, 1) := by decide +kernel
theorem dX9_sayingAs_157 : decode prog_11_method_28_code 157 = .ok (.iconst 3, 1) := by decide +kernel
theorem dX9_sayingAs_158 : decode prog_11_method_28_code 158 = .ok (.if_icmp .ne 7, 3) := by decide +kernel
theorem dX9_sayingAs_161 : decode prog_11_method_28_code 161 = .ok (.iconst 1, 1) := by decide +kernel
theorem dX9_sayingAs_162 : decode prog_11_method_28_code 162 = .ok (.goto 4, 3) := by decide +kernel
theorem dX9_sayingAs_165 : decode prog_11_method_28_code 165 = .ok (.iconst 0, 1) := by decide +kernel
theorem dX9_sayingAs_166 : decode prog_11_method_28_code 166 = .ok (.istore 4, 2) := by decide +kernel
theorem dX9_sayingAs_168 : decode prog_11_method_28_code 168 = .ok (.iload 4, 2) := by decide +kernel
theorem dX9_sayingAs_170 : decode prog_11_method_28_code 170 = .ok (.ifCond .ne 8, 3) := by decide +kernel
theorem dX9_sayingAs_173 : decode prog_11_method_28_code 173 = .ok (.bipush (-4), 2) := by decide +kernel
theorem dX9_sayingAs_175 : decode prog_11_method_28_code 175 = .ok (.goto 12, 3) := by decide +kernel
theorem dX9_sayingAs_178 : decode prog_11_method_28_code 178 = .ok (.iload_n 3, 1) := by decide +kernel
theorem dX9_sayingAs_179 : decode prog_11_method_28_code 179 = .ok (.ifCond .eq 7, 3) := by decide +kernel
theorem dX9_sayingAs_182 : decode prog_11_method_28_code 182 = .ok (.iconst 1, 1) := by decide +kernel
theorem dX9_sayingAs_183 : decode prog_11_method_28_code 183 = .ok (.goto 4, 3) := by decide +kernel
theorem dX9_sayingAs_186 : decode prog_11_method_28_code 186 = .ok (.iconst 2, 1) := by decide +kernel
theorem dX9_sayingAs_187 : decode prog_11_method_28_code 187 = .ok (.ireturn, 1) := by decide +kernel
theorem dX9_pass_0 : decode prog_11_method_29_code 0 = .ok (.iconst 0, 1) := by decide +kernel
theorem dX9_pass_1 : decode prog_11_method_29_code 1 = .ok (.istore_n 2, 1) := by decide +kernel
theorem dX9_pass_2 : decode prog_11_method_29_code 2 = .ok (.iload_n 2, 1) := by decide +kernel
theorem dX9_pass_3 : decode prog_11_method_29_code 3 = .ok (.aload_n 0, 1) := by decide +kernel
theorem dX9_pass_4 : decode prog_11_method_29_code 4 = .ok (.getfield 73, 3) := by decide +kernel
theorem dX9_pass_7 : decode prog_11_method_29_code 7 = .ok (.if_icmp .ge 69, 3) := by decide +kernel
theorem dX9_pass_10 : decode prog_11_method_29_code 10 = .ok (.aload_n 1, 1) := by decide +kernel
theorem dX9_pass_11 : decode prog_11_method_29_code 11 = .ok (.iconst 2, 1) := by decide +kernel
theorem dX9_pass_12 : decode prog_11_method_29_code 12 = .ok (.bipush 6, 2) := by decide +kernel
theorem dX9_pass_14 : decode prog_11_method_29_code 14 = .ok (.iload_n 2, 1) := by decide +kernel
theorem dX9_pass_15 : decode prog_11_method_29_code 15 = .ok (.imul, 1) := by decide +kernel
theorem dX9_pass_16 : decode prog_11_method_29_code 16 = .ok (.iadd, 1) := by decide +kernel
theorem dX9_pass_17 : decode prog_11_method_29_code 17 = .ok (.aload_n 0, 1) := by decide +kernel
theorem dX9_pass_18 : decode prog_11_method_29_code 18 = .ok (.getfield 13, 3) := by decide +kernel
theorem dX9_pass_21 : decode prog_11_method_29_code 21 = .ok (.bipush 6, 2) := by decide +kernel
theorem dX9_pass_23 : decode prog_11_method_29_code 23 = .ok (.iload_n 2, 1) := by decide +kernel
theorem dX9_pass_24 : decode prog_11_method_29_code 24 = .ok (.imul, 1) := by decide +kernel
theorem dX9_pass_25 : decode prog_11_method_29_code 25 = .ok (.iconst 1, 1) := by decide +kernel
theorem dX9_pass_26 : decode prog_11_method_29_code 26 = .ok (.iadd, 1) := by decide +kernel
theorem dX9_pass_27 : decode prog_11_method_29_code 27 = .ok (.iaload, 1) := by decide +kernel
theorem dX9_pass_28 : decode prog_11_method_29_code 28 = .ok (.iadd, 1) := by decide +kernel
theorem dX9_pass_29 : decode prog_11_method_29_code 29 = .ok (.iaload, 1) := by decide +kernel
theorem dX9_pass_30 : decode prog_11_method_29_code 30 = .ok (.aload_n 0, 1) := by decide +kernel
theorem dX9_pass_31 : decode prog_11_method_29_code 31 = .ok (.getfield 13, 3) := by decide +kernel
theorem dX9_pass_34 : decode prog_11_method_29_code 34 = .ok (.bipush 6, 2) := by decide +kernel
theorem dX9_pass_36 : decode prog_11_method_29_code 36 = .ok (.iload_n 2, 1) := by decide +kernel
theorem dX9_pass_37 : decode prog_11_method_29_code 37 = .ok (.imul, 1) := by decide +kernel
theorem dX9_pass_38 : decode prog_11_method_29_code 38 = .ok (.iconst 2, 1) := by decide +kernel
theorem dX9_pass_39 : decode prog_11_method_29_code 39 = .ok (.iadd, 1) := by decide +kernel
theorem dX9_pass_40 : decode prog_11_method_29_code 40 = .ok (.iaload, 1) := by decide +kernel
theorem dX9_pass_41 : decode prog_11_method_29_code 41 = .ok (.if_icmp .ne 29, 3) := by decide +kernel
theorem dX9_pass_44 : decode prog_11_method_29_code 44 = .ok (.aload_n 1, 1) := by decide +kernel
theorem dX9_pass_45 : decode prog_11_method_29_code 45 = .ok (.aload_n 0, 1) := by decide +kernel
theorem dX9_pass_46 : decode prog_11_method_29_code 46 = .ok (.getfield 13, 3) := by decide +kernel
theorem dX9_pass_49 : decode prog_11_method_29_code 49 = .ok (.bipush 6, 2) := by decide +kernel
theorem dX9_pass_51 : decode prog_11_method_29_code 51 = .ok (.iload_n 2, 1) := by decide +kernel
theorem dX9_pass_52 : decode prog_11_method_29_code 52 = .ok (.imul, 1) := by decide +kernel
theorem dX9_pass_53 : decode prog_11_method_29_code 53 = .ok (.iconst 3, 1) := by decide +kernel
theorem dX9_pass_54 : decode prog_11_method_29_code 54 = .ok (.iadd, 1) := by decide +kernel
theorem dX9_pass_55 : decode prog_11_method_29_code 55 = .ok (.iaload, 1) := by decide +kernel
theorem dX9_pass_56 : decode prog_11_method_29_code 56 = .ok (.aload_n 0, 1) := by decide +kernel
theorem dX9_pass_57 : decode prog_11_method_29_code 57 = .ok (.getfield 13, 3) := by decide +kernel
theorem dX9_pass_60 : decode prog_11_method_29_code 60 = .ok (.bipush 6, 2) := by decide +kernel
theorem dX9_pass_62 : decode prog_11_method_29_code 62 = .ok (.iload_n 2, 1) := by decide +kernel
theorem dX9_pass_63 : decode prog_11_method_29_code 63 = .ok (.imul, 1) := by decide +kernel
theorem dX9_pass_64 : decode prog_11_method_29_code 64 = .ok (.iconst 4, 1) := by decide +kernel
theorem dX9_pass_65 : decode prog_11_method_29_code 65 = .ok (.iadd, 1) := by decide +kernel
theorem dX9_pass_66 : decode prog_11_method_29_code 66 = .ok (.iaload, 1) := by decide +kernel
theorem dX9_pass_67 : decode prog_11_method_29_code 67 = .ok (.invokestatic 188, 3) := by decide +kernel
theorem dX9_pass_70 : decode prog_11_method_29_code 70 = .ok (.iinc 2 1, 3) := by decide +kernel
theorem dX9_pass_73 : decode prog_11_method_29_code 73 = .ok (.goto (-71), 3) := by decide +kernel
theorem dX9_pass_76 : decode prog_11_method_29_code 76 = .ok (.iconst 0, 1) := by decide +kernel
theorem dX9_pass_77 : decode prog_11_method_29_code 77 = .ok (.istore_n 2, 1) := by decide +kernel
theorem dX9_pass_78 : decode prog_11_method_29_code 78 = .ok (.iload_n 2, 1) := by decide +kernel
theorem dX9_pass_79 : decode prog_11_method_29_code 79 = .ok (.aload_n 0, 1) := by decide +kernel
theorem dX9_pass_80 : decode prog_11_method_29_code 80 = .ok (.getfield 159, 3) := by decide +kernel
theorem dX9_pass_83 : decode prog_11_method_29_code 83 = .ok (.if_icmp .ge 60, 3) := by decide +kernel
theorem dX9_pass_86 : decode prog_11_method_29_code 86 = .ok (.aload_n 1, 1) := by decide +kernel
theorem dX9_pass_87 : decode prog_11_method_29_code 87 = .ok (.iconst 0, 1) := by decide +kernel
theorem dX9_pass_88 : decode prog_11_method_29_code 88 = .ok (.iaload, 1) := by decide +kernel
theorem dX9_pass_89 : decode prog_11_method_29_code 89 = .ok (.aload_n 0, 1) := by decide +kernel
theorem dX9_pass_90 : decode prog_11_method_29_code 90 = .ok (.getfield 16, 3) := by decide +kernel
theorem dX9_pass_93 : decode prog_11_method_29_code 93 = .ok (.iconst 4, 1) := by decide +kernel
theorem dX9_pass_94 : decode prog_11_method_29_code 94 = .ok (.iload_n 2, 1) := by decide +kernel
theorem dX9_pass_95 : decode prog_11_method_29_code 95 = .ok (.imul, 1) := by decide +kernel
theorem dX9_pass_96 : decode prog_11_method_29_code 96 = .ok (.iaload, 1) := by decide +kernel
theorem dX9_pass_97 : decode prog_11_method_29_code 97 = .ok (.ishr, 1) := by decide +kernel
theorem dX9_pass_98 : decode prog_11_method_29_code 98 = .ok (.iconst 1, 1) := by decide +kernel
theorem dX9_pass_99 : decode prog_11_method_29_code 99 = .ok (.iand, 1) := by decide +kernel
theorem dX9_pass_100 : decode prog_11_method_29_code 100 = .ok (.aload_n 0, 1) := by decide +kernel
theorem dX9_pass_101 : decode prog_11_method_29_code 101 = .ok (.getfield 16, 3) := by decide +kernel
theorem dX9_pass_104 : decode prog_11_method_29_code 104 = .ok (.iconst 4, 1) := by decide +kernel
theorem dX9_pass_105 : decode prog_11_method_29_code 105 = .ok (.iload_n 2, 1) := by decide +kernel
theorem dX9_pass_106 : decode prog_11_method_29_code 106 = .ok (.imul, 1) := by decide +kernel
theorem dX9_pass_107 : decode prog_11_method_29_code 107 = .ok (.iconst 1, 1) := by decide +kernel
theorem dX9_pass_108 : decode prog_11_method_29_code 108 = .ok (.iadd, 1) := by decide +kernel
theorem dX9_pass_109 : decode prog_11_method_29_code 109 = .ok (.iaload, 1) := by decide +kernel
theorem dX9_pass_110 : decode prog_11_method_29_code 110 = .ok (.if_icmp .ne 27, 3) := by decide +kernel
theorem dX9_pass_113 : decode prog_11_method_29_code 113 = .ok (.aload_n 1, 1) := by decide +kernel
theorem dX9_pass_114 : decode prog_11_method_29_code 114 = .ok (.aload_n 0, 1) := by decide +kernel
theorem dX9_pass_115 : decode prog_11_method_29_code 115 = .ok (.getfield 16, 3) := by decide +kernel
theorem dX9_pass_118 : decode prog_11_method_29_code 118 = .ok (.iconst 4, 1) := by decide +kernel
theorem dX9_pass_119 : decode prog_11_method_29_code 119 = .ok (.iload_n 2, 1) := by decide +kernel
theorem dX9_pass_120 : decode prog_11_method_29_code 120 = .ok (.imul, 1) := by decide +kernel
theorem dX9_pass_121 : decode prog_11_method_29_code 121 = .ok (.iconst 2, 1) := by decide +kernel
theorem dX9_pass_122 : decode prog_11_method_29_code 122 = .ok (.iadd, 1) := by decide +kernel
theorem dX9_pass_123 : decode prog_11_method_29_code 123 = .ok (.iaload, 1) := by decide +kernel
theorem dX9_pass_124 : decode prog_11_method_29_code 124 = .ok (.aload_n 0, 1) := by decide +kernel
theorem dX9_pass_125 : decode prog_11_method_29_code 125 = .ok (.getfield 16, 3) := by decide +kernel
theorem dX9_pass_128 : decode prog_11_method_29_code 128 = .ok (.iconst 4, 1) := by decide +kernel
theorem dX9_pass_129 : decode prog_11_method_29_code 129 = .ok (.iload_n 2, 1) := by decide +kernel
theorem dX9_pass_130 : decode prog_11_method_29_code 130 = .ok (.imul, 1) := by decide +kernel
theorem dX9_pass_131 : decode prog_11_method_29_code 131 = .ok (.iconst 3, 1) := by decide +kernel
theorem dX9_pass_132 : decode prog_11_method_29_code 132 = .ok (.iadd, 1) := by decide +kernel
theorem dX9_pass_133 : decode prog_11_method_29_code 133 = .ok (.iaload, 1) := by decide +kernel
theorem dX9_pass_134 : decode prog_11_method_29_code 134 = .ok (.invokestatic 188, 3) := by decide +kernel
theorem dX9_pass_137 : decode prog_11_method_29_code 137 = .ok (.iinc 2 1, 3) := by decide +kernel
theorem dX9_pass_140 : decode prog_11_method_29_code 140 = .ok (.goto (-62), 3) := by decide +kernel
theorem dX9_pass_143 : decode prog_11_method_29_code 143 = .ok (.aload_n 1, 1) := by decide +kernel
theorem dX9_pass_144 : decode prog_11_method_29_code 144 = .ok (.iconst 1, 1) := by decide +kernel
theorem dX9_pass_145 : decode prog_11_method_29_code 145 = .ok (.dup2, 1) := by decide +kernel
theorem dX9_pass_146 : decode prog_11_method_29_code 146 = .ok (.iaload, 1) := by decide +kernel
theorem dX9_pass_147 : decode prog_11_method_29_code 147 = .ok (.iconst 1, 1) := by decide +kernel
theorem dX9_pass_148 : decode prog_11_method_29_code 148 = .ok (.iadd, 1) := by decide +kernel
theorem dX9_pass_149 : decode prog_11_method_29_code 149 = .ok (.iastore, 1) := by decide +kernel
theorem dX9_pass_150 : decode prog_11_method_29_code 150 = .ok (.return_, 1) := by decide +kernel
theorem dX9_become_0 : decode prog_11_method_30_code 0 = .ok (.aload_n 0, 1) := by decide +kernel
theorem dX9_become_1 : decode prog_11_method_30_code 1 = .ok (.iconst 0, 1) := by decide +kernel
theorem dX9_become_2 : decode prog_11_method_30_code 2 = .ok (.aload_n 0, 1) := by decide +kernel
theorem dX9_become_3 : decode prog_11_method_30_code 3 = .ok (.iconst 0, 1) := by decide +kernel
theorem dX9_become_4 : decode prog_11_method_30_code 4 = .ok (.iaload, 1) := by decide +kernel
theorem dX9_become_5 : decode prog_11_method_30_code 5 = .ok (.iconst 1, 1) := by decide +kernel
theorem dX9_become_6 : decode prog_11_method_30_code 6 = .ok (.iload_n 1, 1) := by decide +kernel
theorem dX9_become_7 : decode prog_11_method_30_code 7 = .ok (.ishl, 1) := by decide +kernel
theorem dX9_become_8 : decode prog_11_method_30_code 8 = .ok (.iconst (-1), 1) := by decide +kernel
theorem dX9_become_9 : decode prog_11_method_30_code 9 = .ok (.ixor, 1) := by decide +kernel
theorem dX9_become_10 : decode prog_11_method_30_code 10 = .ok (.iand, 1) := by decide +kernel
theorem dX9_become_11 : decode prog_11_method_30_code 11 = .ok (.iload_n 2, 1) := by decide +kernel
theorem dX9_become_12 : decode prog_11_method_30_code 12 = .ok (.iload_n 1, 1) := by decide +kernel
theorem dX9_become_13 : decode prog_11_method_30_code 13 = .ok (.ishl, 1) := by decide +kernel
theorem dX9_become_14 : decode prog_11_method_30_code 14 = .ok (.ior, 1) := by decide +kernel
theorem dX9_become_15 : decode prog_11_method_30_code 15 = .ok (.iastore, 1) := by decide +kernel
theorem dX9_become_16 : decode prog_11_method_30_code 16 = .ok (.return_, 1) := by decide +kernel
theorem dX9_lay_0 : decode prog_11_method_31_code 0 = .ok (.aload_n 0, 1) := by decide +kernel
theorem dX9_lay_1 : decode prog_11_method_31_code 1 = .ok (.iload_n 1, 1) := by decide +kernel
theorem dX9_lay_2 : decode prog_11_method_31_code 2 = .ok (.putfield 192, 3) := by decide +kernel
theorem dX9_lay_5 : decode prog_11_method_31_code 5 = .ok (.aload_n 0, 1) := by decide +kernel
theorem dX9_lay_6 : decode prog_11_method_31_code 6 = .ok (.iload_n 2, 1) := by decide +kernel
theorem dX9_lay_7 : decode prog_11_method_31_code 7 = .ok (.putfield 195, 3) := by decide +kernel
theorem dX9_lay_10 : decode prog_11_method_31_code 10 = .ok (.aload_n 0, 1) := by decide +kernel
theorem dX9_lay_11 : decode prog_11_method_31_code 11 = .ok (.iload_n 3, 1) := by decide +kernel
theorem dX9_lay_12 : decode prog_11_method_31_code 12 = .ok (.putfield 198, 3) := by decide +kernel
theorem dX9_lay_15 : decode prog_11_method_31_code 15 = .ok (.aload_n 0, 1) := by decide +kernel
theorem dX9_lay_16 : decode prog_11_method_31_code 16 = .ok (.iload 4, 2) := by decide +kernel
theorem dX9_lay_18 : decode prog_11_method_31_code 18 = .ok (.putfield 201, 3) := by decide +kernel
theorem dX9_lay_21 : decode prog_11_method_31_code 21 = .ok (.aload_n 0, 1) := by decide +kernel
theorem dX9_lay_22 : decode prog_11_method_31_code 22 = .ok (.iload 5, 2) := by decide +kernel
theorem dX9_lay_24 : decode prog_11_method_31_code 24 = .ok (.putfield 204, 3) := by decide +kernel
theorem dX9_lay_27 : decode prog_11_method_31_code 27 = .ok (.return_, 1) := by decide +kernel
theorem dX9_hears_0 : decode prog_11_method_32_code 0 = .ok (.iconst 2, 1) := by decide +kernel
theorem dX9_hears_1 : decode prog_11_method_32_code 1 = .ok (.bipush 6, 2) := by decide +kernel
theorem dX9_hears_3 : decode prog_11_method_32_code 3 = .ok (.iload_n 2, 1) := by decide +kernel
theorem dX9_hears_4 : decode prog_11_method_32_code 4 = .ok (.imul, 1) := by decide +kernel
theorem dX9_hears_5 : decode prog_11_method_32_code 5 = .ok (.iadd, 1) := by decide +kernel
theorem dX9_hears_6 : decode prog_11_method_32_code 6 = .ok (.istore 4, 2) := by decide +kernel
theorem dX9_hears_8 : decode prog_11_method_32_code 8 = .ok (.aload_n 1, 1) := by decide +kernel
theorem dX9_hears_9 : decode prog_11_method_32_code 9 = .ok (.iload 4, 2) := by decide +kernel
theorem dX9_hears_11 : decode prog_11_method_32_code 11 = .ok (.aload_n 0, 1) := by decide +kernel
theorem dX9_hears_12 : decode prog_11_method_32_code 12 = .ok (.getfield 195, 3) := by decide +kernel
theorem dX9_hears_15 : decode prog_11_method_32_code 15 = .ok (.iadd, 1) := by decide +kernel
theorem dX9_hears_16 : decode prog_11_method_32_code 16 = .ok (.iaload, 1) := by decide +kernel
theorem dX9_hears_17 : decode prog_11_method_32_code 17 = .ok (.istore 5, 2) := by decide +kernel
theorem dX9_hears_19 : decode prog_11_method_32_code 19 = .ok (.aload_n 1, 1) := by decide +kernel
theorem dX9_hears_20 : decode prog_11_method_32_code 20 = .ok (.iload 4, 2) := by decide +kernel
theorem dX9_hears_22 : decode prog_11_method_32_code 22 = .ok (.aload_n 0, 1) := by decide +kernel
theorem dX9_hears_23 : decode prog_11_method_32_code 23 = .ok (.getfield 201, 3) := by decide +kernel
theorem dX9_hears_26 : decode prog_11_method_32_code 26 = .ok (.iadd, 1) := by decide +kernel
theorem dX9_hears_27 : decode prog_11_method_32_code 27 = .ok (.iaload, 1) := by decide +kernel
theorem dX9_hears_28 : decode prog_11_method_32_code 28 = .ok (.istore 6, 2) := by decide +kernel
theorem dX9_hears_30 : decode prog_11_method_32_code 30 = .ok (.aload_n 0, 1) := by decide +kernel
theorem dX9_hears_31 : decode prog_11_method_32_code 31 = .ok (.getfield 192, 3) := by decide +kernel
theorem dX9_hears_34 : decode prog_11_method_32_code 34 = .ok (.ifCond .eq 11, 3) := by decide +kernel
theorem dX9_hears_37 : decode prog_11_method_32_code 37 = .ok (.aload_n 0, 1) := by decide +kernel
theorem dX9_hears_38 : decode prog_11_method_32_code 38 = .ok (.getfield 192, 3) := by decide +kernel
theorem dX9_hears_41 : decode prog_11_method_32_code 41 = .ok (.iconst 4, 1) := by decide +kernel
theorem dX9_hears_42 : decode prog_11_method_32_code 42 = .ok (.if_icmp .ne 7, 3) := by decide +kernel
theorem dX9_hears_45 : decode prog_11_method_32_code 45 = .ok (.iconst 1, 1) := by decide +kernel
theorem dX9_hears_46 : decode prog_11_method_32_code 46 = .ok (.goto 4, 3) := by decide +kernel
theorem dX9_hears_49 : decode prog_11_method_32_code 49 = .ok (.iconst 0, 1) := by decide +kernel
theorem dX9_hears_50 : decode prog_11_method_32_code 50 = .ok (.istore 7, 2) := by decide +kernel
theorem dX9_hears_52 : decode prog_11_method_32_code 52 = .ok (.iload 7, 2) := by decide +kernel
theorem dX9_hears_54 : decode prog_11_method_32_code 54 = .ok (.ifCond .eq 32, 3) := by decide +kernel
theorem dX9_hears_57 : decode prog_11_method_32_code 57 = .ok (.aload_n 1, 1) := by decide +kernel
theorem dX9_hears_58 : decode prog_11_method_32_code 58 = .ok (.iload 4, 2) := by decide +kernel
theorem dX9_hears_60 : decode prog_11_method_32_code 60 = .ok (.aload_n 0, 1) := by decide +kernel
theorem dX9_hears_61 : decode prog_11_method_32_code 61 = .ok (.getfield 195, 3) := by decide +kernel
theorem dX9_hears_64 : decode prog_11_method_32_code 64 = .ok (.iadd, 1) := by decide +kernel
theorem dX9_hears_65 : decode prog_11_method_32_code 65 = .ok (.iload_n 3, 1) := by decide +kernel
theorem dX9_hears_66 : decode prog_11_method_32_code 66 = .ok (.ifCond .eq 10, 3) := by decide +kernel
theorem dX9_hears_69 : decode prog_11_method_32_code 69 = .ok (.aload_n 0, 1) := by decide +kernel
theorem dX9_hears_70 : decode prog_11_method_32_code 70 = .ok (.getfield 198, 3) := by decide +kernel
theorem dX9_hears_73 : decode prog_11_method_32_code 73 = .ok (.goto 9, 3) := by decide +kernel
theorem dX9_hears_76 : decode prog_11_method_32_code 76 = .ok (.iconst 1, 1) := by decide +kernel
theorem dX9_hears_77 : decode prog_11_method_32_code 77 = .ok (.aload_n 0, 1) := by decide +kernel
theorem dX9_hears_78 : decode prog_11_method_32_code 78 = .ok (.getfield 198, 3) := by decide +kernel
theorem dX9_hears_81 : decode prog_11_method_32_code 81 = .ok (.isub, 1) := by decide +kernel
theorem dX9_hears_82 : decode prog_11_method_32_code 82 = .ok (.iastore, 1) := by decide +kernel
theorem dX9_hears_83 : decode prog_11_method_32_code 83 = .ok (.goto 307, 3) := by decide +kernel
theorem dX9_hears_86 : decode prog_11_method_32_code 86 = .ok (.aload_n 0, 1) := by decide +kernel
theorem dX9_hears_87 : decode prog_11_method_32_code 87 = .ok (.getfield 192, 3) := by decide +kernel
theorem dX9_hears_90 : decode prog_11_method_32_code 90 = .ok (.iconst 1, 1) := by decide +kernel
theorem dX9_hears_91 : decode prog_11_method_32_code 91 = .ok (.if_icmp .ne 36, 3) := by decide +kernel
theorem dX9_hears_94 : decode prog_11_method_32_code 94 = .ok (.iload_n 3, 1) := by decide +kernel
theorem dX9_hears_95 : decode prog_11_method_32_code 95 = .ok (.ifCond .eq 32, 3) := by decide +kernel
theorem dX9_hears_98 : decode prog_11_method_32_code 98 = .ok (.aload_n 1, 1) := by decide +kernel
theorem dX9_hears_99 : decode prog_11_method_32_code 99 = .ok (.iload 4, 2) := by decide +kernel
theorem dX9_hears_101 : decode prog_11_method_32_code 101 = .ok (.aload_n 0, 1) := by decide +kernel
theorem dX9_hears_102 : decode prog_11_method_32_code 102 = .ok (.getfield 195, 3) := by decide +kernel
theorem dX9_hears_105 : decode prog_11_method_32_code 105 = .ok (.iadd, 1) := by decide +kernel
theorem dX9_hears_106 : decode prog_11_method_32_code 106 = .ok (.aload_n 0, 1) := by decide +kernel
theorem dX9_hears_107 : decode prog_11_method_32_code 107 = .ok (.getfield 198, 3) := by decide +kernel
theorem dX9_hears_110 : decode prog_11_method_32_code 110 = .ok (.iastore, 1) := by decide +kernel
theorem dX9_hears_111 : decode prog_11_method_32_code 111 = .ok (.aload_n 1, 1) := by decide +kernel
theorem dX9_hears_112 : decode prog_11_method_32_code 112 = .ok (.iload 4, 2) := by decide +kernel
theorem dX9_hears_114 : decode prog_11_method_32_code 114 = .ok (.aload_n 0, 1) := by decide +kernel
theorem dX9_hears_115 : decode prog_11_method_32_code 115 = .ok (.getfield 201, 3) := by decide +kernel
theorem dX9_hears_118 : decode prog_11_method_32_code 118 = .ok (.iadd, 1) := by decide +kernel
theorem dX9_hears_119 : decode prog_11_method_32_code 119 = .ok (.aload_n 0, 1) := by decide +kernel
theorem dX9_hears_120 : decode prog_11_method_32_code 120 = .ok (.getfield 204, 3) := by decide +kernel
theorem dX9_hears_123 : decode prog_11_method_32_code 123 = .ok (.iastore, 1) := by decide +kernel
theorem dX9_hears_124 : decode prog_11_method_32_code 124 = .ok (.goto 266, 3) := by decide +kernel
theorem dX9_hears_127 : decode prog_11_method_32_code 127 = .ok (.aload_n 0, 1) := by decide +kernel
theorem dX9_hears_128 : decode prog_11_method_32_code 128 = .ok (.getfield 192, 3) := by decide +kernel
theorem dX9_hears_131 : decode prog_11_method_32_code 131 = .ok (.iconst 2, 1) := by decide +kernel
theorem dX9_hears_132 : decode prog_11_method_32_code 132 = .ok (.if_icmp .ne 40, 3) := by decide +kernel
theorem dX9_hears_135 : decode prog_11_method_32_code 135 = .ok (.iload_n 3, 1) := by decide +kernel
theorem dX9_hears_136 : decode prog_11_method_32_code 136 = .ok (.ifCond .ne 36, 3) := by decide +kernel
theorem dX9_hears_139 : decode prog_11_method_32_code 139 = .ok (.aload_n 1, 1) := by decide +kernel
theorem dX9_hears_140 : decode prog_11_method_32_code 140 = .ok (.iload 4, 2) := by decide +kernel
theorem dX9_hears_142 : decode prog_11_method_32_code 142 = .ok (.aload_n 0, 1) := by decide +kernel
theorem dX9_hears_143 : decode prog_11_method_32_code 143 = .ok (.getfield 195, 3) := by decide +kernel
theorem dX9_hears_146 : decode prog_11_method_32_code 146 = .ok (.iadd, 1) := by decide +kernel
theorem dX9_hears_147 : decode prog_11_method_32_code 147 = .ok (.iconst 1, 1) := by decide +kernel
theorem dX9_hears_148 : decode prog_11_method_32_code 148 = .ok (.aload_n 0, 1) := by decide +kernel
theorem dX9_hears_149 : decode prog_11_method_32_code 149 = .ok (.getfield 198, 3) := by decide +kernel
theorem dX9_hears_152 : decode prog_11_method_32_code 152 = .ok (.isub, 1) := by decide +kernel
theorem dX9_hears_153 : decode prog_11_method_32_code 153 = .ok (.iastore, 1) := by decide +kernel
theorem dX9_hears_154 : decode prog_11_method_32_code 154 = .ok (.aload_n 1, 1) := by decide +kernel
theorem dX9_hears_155 : decode prog_11_method_32_code 155 = .ok (.iload 4, 2) := by decide +kernel
theorem dX9_hears_157 : decode prog_11_method_32_code 157 = .ok (.aload_n 0, 1) := by decide +kernel
theorem dX9_hears_158 : decode prog_11_method_32_code 158 = .ok (.getfield 201, 3) := by decide +kernel
theorem dX9_hears_161 : decode prog_11_method_32_code 161 = .ok (.iadd, 1) := by decide +kernel
theorem dX9_hears_162 : decode prog_11_method_32_code 162 = .ok (.iconst 1, 1) := by decide +kernel
theorem dX9_hears_163 : decode prog_11_method_32_code 163 = .ok (.aload_n 0, 1) := by decide +kernel
theorem dX9_hears_164 : decode prog_11_method_32_code 164 = .ok (.getfield 204, 3) := by decide +kernel
theorem dX9_hears_167 : decode prog_11_method_32_code 167 = .ok (.isub, 1) := by decide +kernel
theorem dX9_hears_168 : decode prog_11_method_32_code 168 = .ok (.iastore, 1) := by decide +kernel
theorem dX9_hears_169 : decode prog_11_method_32_code 169 = .ok (.goto 221, 3) := by decide +kernel
theorem dX9_hears_172 : decode prog_11_method_32_code 172 = .ok (.aload_n 0, 1) := by decide +kernel
theorem dX9_hears_173 : decode prog_11_method_32_code 173 = .ok (.getfield 192, 3) := by decide +kernel
theorem dX9_hears_176 : decode prog_11_method_32_code 176 = .ok (.iconst 3, 1) := by decide +kernel
theorem dX9_hears_177 : decode prog_11_method_32_code 177 = .ok (.if_icmp .ne 38, 3) := by decide +kernel
theorem dX9_hears_180 : decode prog_11_method_32_code 180 = .ok (.iload_n 3, 1) := by decide +kernel
theorem dX9_hears_181 : decode prog_11_method_32_code 181 = .ok (.ifCond .ne 34, 3) := by decide +kernel
theorem dX9_hears_184 : decode prog_11_method_32_code 184 = .ok (.aload_n 1, 1) := by decide +kernel
theorem dX9_hears_185 : decode prog_11_method_32_code 185 = .ok (.iload 4, 2) := by decide +kernel
theorem dX9_hears_187 : decode prog_11_method_32_code 187 = .ok (.aload_n 0, 1) := by decide +kernel
theorem dX9_hears_188 : decode prog_11_method_32_code 188 = .ok (.getfield 195, 3) := by decide +kernel
theorem dX9_hears_191 : decode prog_11_method_32_code 191 = .ok (.iadd, 1) := by decide +kernel
theorem dX9_hears_192 : decode prog_11_method_32_code 192 = .ok (.aload_n 0, 1) := by decide +kernel
theorem dX9_hears_193 : decode prog_11_method_32_code 193 = .ok (.getfield 198, 3) := by decide +kernel
theorem dX9_hears_196 : decode prog_11_method_32_code 196 = .ok (.iastore, 1) := by decide +kernel
theorem dX9_hears_197 : decode prog_11_method_32_code 197 = .ok (.aload_n 1, 1) := by decide +kernel
theorem dX9_hears_198 : decode prog_11_method_32_code 198 = .ok (.iload 4, 2) := by decide +kernel
theorem dX9_hears_200 : decode prog_11_method_32_code 200 = .ok (.aload_n 0, 1) := by decide +kernel
theorem dX9_hears_201 : decode prog_11_method_32_code 201 = .ok (.getfield 201, 3) := by decide +kernel
theorem dX9_hears_204 : decode prog_11_method_32_code 204 = .ok (.iadd, 1) := by decide +kernel
theorem dX9_hears_205 : decode prog_11_method_32_code 205 = .ok (.iconst 1, 1) := by decide +kernel
theorem dX9_hears_206 : decode prog_11_method_32_code 206 = .ok (.aload_n 0, 1) := by decide +kernel
theorem dX9_hears_207 : decode prog_11_method_32_code 207 = .ok (.getfield 204, 3) := by decide +kernel
theorem dX9_hears_210 : decode prog_11_method_32_code 210 = .ok (.isub, 1) := by decide +kernel
theorem dX9_hears_211 : decode prog_11_method_32_code 211 = .ok (.iastore, 1) := by decide +kernel
theorem dX9_hears_212 : decode prog_11_method_32_code 212 = .ok (.goto 178, 3) := by decide +kernel
theorem dX9_hears_215 : decode prog_11_method_32_code 215 = .ok (.aload_n 0, 1) := by decide +kernel
theorem dX9_hears_216 : decode prog_11_method_32_code 216 = .ok (.getfield 192, 3) := by decide +kernel
theorem dX9_hears_219 : decode prog_11_method_32_code 219 = .ok (.iconst 2, 1) := by decide +kernel
theorem dX9_hears_220 : decode prog_11_method_32_code 220 = .ok (.if_icmp .ne 57, 3) := by decide +kernel
theorem dX9_hears_223 : decode prog_11_method_32_code 223 = .ok (.iload 5, 2) := by decide +kernel
theorem dX9_hears_225 : decode prog_11_method_32_code 225 = .ok (.iconst 1, 1) := by decide +kernel
theorem dX9_hears_226 : decode prog_11_method_32_code 226 = .ok (.aload_n 0, 1) := by decide +kernel
theorem dX9_hears_227 : decode prog_11_method_32_code 227 = .ok (.getfield 198, 3) := by decide +kernel
theorem dX9_hears_230 : decode prog_11_method_32_code 230 = .ok (.isub, 1) := by decide +kernel
theorem dX9_hears_231 : decode prog_11_method_32_code 231 = .ok (.if_icmp .ne 19, 3) := by decide +kernel
theorem dX9_hears_234 : decode prog_11_method_32_code 234 = .ok (.aload_n 1, 1) := by decide +kernel
theorem dX9_hears_235 : decode prog_11_method_32_code 235 = .ok (.iload 4, 2) := by decide +kernel
theorem dX9_hears_237 : decode prog_11_method_32_code 237 = .ok (.aload_n 0, 1) := by decide +kernel
theorem dX9_hears_238 : decode prog_11_method_32_code 238 = .ok (.getfield 201, 3) := by decide +kernel
theorem dX9_hears_241 : decode prog_11_method_32_code 241 = .ok (.iadd, 1) := by decide +kernel
theorem dX9_hears_242 : decode prog_11_method_32_code 242 = .ok (.aload_n 0, 1) := by decide +kernel
theorem dX9_hears_243 : decode prog_11_method_32_code 243 = .ok (.getfield 204, 3) := by decide +kernel
theorem dX9_hears_246 : decode prog_11_method_32_code 246 = .ok (.iastore, 1) := by decide +kernel
theorem dX9_hears_247 : decode prog_11_method_32_code 247 = .ok (.goto 143, 3) := by decide +kernel
theorem dX9_hears_250 : decode prog_11_method_32_code 250 = .ok (.iload 6, 2) := by decide +kernel
theorem dX9_hears_252 : decode prog_11_method_32_code 252 = .ok (.iconst 1, 1) := by decide +kernel
theorem dX9_hears_253 : decode prog_11_method_32_code 253 = .ok (.aload_n 0, 1) := by decide +kernel
theorem dX9_hears_254 : decode prog_11_method_32_code 254 = .ok (.getfield 204, 3) := by decide +kernel
theorem dX9_hears_257 : decode prog_11_method_32_code 257 = .ok (.isub, 1) := by decide +kernel
theorem dX9_hears_258 : decode prog_11_method_32_code 258 = .ok (.if_icmp .ne 132, 3) := by decide +kernel
theorem dX9_hears_261 : decode prog_11_method_32_code 261 = .ok (.aload_n 1, 1) := by decide +kernel
theorem dX9_hears_262 : decode prog_11_method_32_code 262 = .ok (.iload 4, 2) := by decide +kernel
theorem dX9_hears_264 : decode prog_11_method_32_code 264 = .ok (.aload_n 0, 1) := by decide +kernel
theorem dX9_hears_265 : decode prog_11_method_32_code 265 = .ok (.getfield 195, 3) := by decide +kernel
theorem dX9_hears_268 : decode prog_11_method_32_code 268 = .ok (.iadd, 1) := by decide +kernel
theorem dX9_hears_269 : decode prog_11_method_32_code 269 = .ok (.aload_n 0, 1) := by decide +kernel
theorem dX9_hears_270 : decode prog_11_method_32_code 270 = .ok (.getfield 198, 3) := by decide +kernel
theorem dX9_hears_273 : decode prog_11_method_32_code 273 = .ok (.iastore, 1) := by decide +kernel
theorem dX9_hears_274 : decode prog_11_method_32_code 274 = .ok (.goto 116, 3) := by decide +kernel
theorem dX9_hears_277 : decode prog_11_method_32_code 277 = .ok (.aload_n 0, 1) := by decide +kernel
theorem dX9_hears_278 : decode prog_11_method_32_code 278 = .ok (.getfield 192, 3) := by decide +kernel
theorem dX9_hears_281 : decode prog_11_method_32_code 281 = .ok (.iconst 3, 1) := by decide +kernel
theorem dX9_hears_282 : decode prog_11_method_32_code 282 = .ok (.if_icmp .ne 57, 3) := by decide +kernel
theorem dX9_hears_285 : decode prog_11_method_32_code 285 = .ok (.iload 5, 2) := by decide +kernel
theorem dX9_hears_287 : decode prog_11_method_32_code 287 = .ok (.aload_n 0, 1) := by decide +kernel
theorem dX9_hears_288 : decode prog_11_method_32_code 288 = .ok (.getfield 198, 3) := by decide +kernel
theorem dX9_hears_291 : decode prog_11_method_32_code 291 = .ok (.if_icmp .ne 19, 3) := by decide +kernel
theorem dX9_hears_294 : decode prog_11_method_32_code 294 = .ok (.aload_n 1, 1) := by decide +kernel
theorem dX9_hears_295 : decode prog_11_method_32_code 295 = .ok (.iload 4, 2) := by decide +kernel
theorem dX9_hears_297 : decode prog_11_method_32_code 297 = .ok (.aload_n 0, 1) := by decide +kernel
theorem dX9_hears_298 : decode prog_11_method_32_code 298 = .ok (.getfield 201, 3) := by decide +kernel
theorem dX9_hears_301 : decode prog_11_method_32_code 301 = .ok (.iadd, 1) := by decide +kernel
theorem dX9_hears_302 : decode prog_11_method_32_code 302 = .ok (.aload_n 0, 1) := by decide +kernel
theorem dX9_hears_303 : decode prog_11_method_32_code 303 = .ok (.getfield 204, 3) := by decide +kernel
theorem dX9_hears_306 : decode prog_11_method_32_code 306 = .ok (.iastore, 1) := by decide +kernel
theorem dX9_hears_307 : decode prog_11_method_32_code 307 = .ok (.goto 83, 3) := by decide +kernel
theorem dX9_hears_310 : decode prog_11_method_32_code 310 = .ok (.iload 6, 2) := by decide +kernel
theorem dX9_hears_312 : decode prog_11_method_32_code 312 = .ok (.iconst 1, 1) := by decide +kernel
theorem dX9_hears_313 : decode prog_11_method_32_code 313 = .ok (.aload_n 0, 1) := by decide +kernel
theorem dX9_hears_314 : decode prog_11_method_32_code 314 = .ok (.getfield 204, 3) := by decide +kernel
theorem dX9_hears_317 : decode prog_11_method_32_code 317 = .ok (.isub, 1) := by decide +kernel
theorem dX9_hears_318 : decode prog_11_method_32_code 318 = .ok (.if_icmp .ne 72, 3) := by decide +kernel
theorem dX9_hears_321 : decode prog_11_method_32_code 321 = .ok (.aload_n 1, 1) := by decide +kernel
theorem dX9_hears_322 : decode prog_11_method_32_code 322 = .ok (.iload 4, 2) := by decide +kernel
theorem dX9_hears_324 : decode prog_11_method_32_code 324 = .ok (.aload_n 0, 1) := by decide +kernel
theorem dX9_hears_325 : decode prog_11_method_32_code 325 = .ok (.getfield 195, 3) := by decide +kernel
theorem dX9_hears_328 : decode prog_11_method_32_code 328 = .ok (.iadd, 1) := by decide +kernel
theorem dX9_hears_329 : decode prog_11_method_32_code 329 = .ok (.iconst 1, 1) := by decide +kernel
theorem dX9_hears_330 : decode prog_11_method_32_code 330 = .ok (.aload_n 0, 1) := by decide +kernel
theorem dX9_hears_331 : decode prog_11_method_32_code 331 = .ok (.getfield 198, 3) := by decide +kernel
theorem dX9_hears_334 : decode prog_11_method_32_code 334 = .ok (.isub, 1) := by decide +kernel
theorem dX9_hears_335 : decode prog_11_method_32_code 335 = .ok (.iastore, 1) := by decide +kernel
theorem dX9_hears_336 : decode prog_11_method_32_code 336 = .ok (.goto 54, 3) := by decide +kernel
theorem dX9_hears_339 : decode prog_11_method_32_code 339 = .ok (.iload 5, 2) := by decide +kernel
theorem dX9_hears_341 : decode prog_11_method_32_code 341 = .ok (.aload_n 0, 1) := by decide +kernel
theorem dX9_hears_342 : decode prog_11_method_32_code 342 = .ok (.getfield 198, 3) := by decide +kernel
theorem dX9_hears_345 : decode prog_11_method_32_code 345 = .ok (.if_icmp .ne 21, 3) := by decide +kernel
theorem dX9_hears_348 : decode prog_11_method_32_code 348 = .ok (.aload_n 1, 1) := by decide +kernel
theorem dX9_hears_349 : decode prog_11_method_32_code 349 = .ok (.iload 4, 2) := by decide +kernel
theorem dX9_hears_351 : decode prog_11_method_32_code 351 = .ok (.aload_n 0, 1) := by decide +kernel
theorem dX9_hears_352 : decode prog_11_method_32_code 352 = .ok (.getfield 201, 3) := by decide +kernel
theorem dX9_hears_355 : decode prog_11_method_32_code 355 = .ok (.iadd, 1) := by decide +kernel
theorem dX9_hears_356 : decode prog_11_method_32_code 356 = .ok (.iconst 1, 1) := by decide +kernel
theorem dX9_hears_357 : decode prog_11_method_32_code 357 = .ok (.aload_n 0, 1) := by decide +kernel
theorem dX9_hears_358 : decode prog_11_method_32_code 358 = .ok (.getfield 204, 3) := by decide +kernel
theorem dX9_hears_361 : decode prog_11_method_32_code 361 = .ok (.isub, 1) := by decide +kernel
theorem dX9_hears_362 : decode prog_11_method_32_code 362 = .ok (.iastore, 1) := by decide +kernel
theorem dX9_hears_363 : decode prog_11_method_32_code 363 = .ok (.goto 27, 3) := by decide +kernel
theorem dX9_hears_366 : decode prog_11_method_32_code 366 = .ok (.iload 6, 2) := by decide +kernel
theorem dX9_hears_368 : decode prog_11_method_32_code 368 = .ok (.aload_n 0, 1) := by decide +kernel
theorem dX9_hears_369 : decode prog_11_method_32_code 369 = .ok (.getfield 204, 3) := by decide +kernel
theorem dX9_hears_372 : decode prog_11_method_32_code 372 = .ok (.if_icmp .ne 18, 3) := by decide +kernel
theorem dX9_hears_375 : decode prog_11_method_32_code 375 = .ok (.aload_n 1, 1) := by decide +kernel
theorem dX9_hears_376 : decode prog_11_method_32_code 376 = .ok (.iload 4, 2) := by decide +kernel
theorem dX9_hears_378 : decode prog_11_method_32_code 378 = .ok (.aload_n 0, 1) := by decide +kernel
theorem dX9_hears_379 : decode prog_11_method_32_code 379 = .ok (.getfield 195, 3) := by decide +kernel
theorem dX9_hears_382 : decode prog_11_method_32_code 382 = .ok (.iadd, 1) := by decide +kernel
theorem dX9_hears_383 : decode prog_11_method_32_code 383 = .ok (.iconst 1, 1) := by decide +kernel
theorem dX9_hears_384 : decode prog_11_method_32_code 384 = .ok (.aload_n 0, 1) := by decide +kernel
theorem dX9_hears_385 : decode prog_11_method_32_code 385 = .ok (.getfield 198, 3) := by decide +kernel
theorem dX9_hears_388 : decode prog_11_method_32_code 388 = .ok (.isub, 1) := by decide +kernel
theorem dX9_hears_389 : decode prog_11_method_32_code 389 = .ok (.iastore, 1) := by decide +kernel
theorem dX9_hears_390 : decode prog_11_method_32_code 390 = .ok (.return_, 1) := by decide +kernel
theorem dX9_hearAll_0 : decode prog_11_method_33_code 0 = .ok (.iconst 0, 1) := by decide +kernel
theorem dX9_hearAll_1 : decode prog_11_method_33_code 1 = .ok (.istore_n 3, 1) := by decide +kernel
theorem dX9_hearAll_2 : decode prog_11_method_33_code 2 = .ok (.iconst 0, 1) := by decide +kernel
theorem dX9_hearAll_3 : decode prog_11_method_33_code 3 = .ok (.istore 4, 2) := by decide +kernel
theorem dX9_hearAll_5 : decode prog_11_method_33_code 5 = .ok (.iload 4, 2) := by decide +kernel
theorem dX9_hearAll_7 : decode prog_11_method_33_code 7 = .ok (.aload_n 0, 1) := by decide +kernel
theorem dX9_hearAll_8 : decode prog_11_method_33_code 8 = .ok (.getfield 73, 3) := by decide +kernel
theorem dX9_hearAll_11 : decode prog_11_method_33_code 11 = .ok (.if_icmp .ge 38, 3) := by decide +kernel
theorem dX9_hearAll_14 : decode prog_11_method_33_code 14 = .ok (.iload_n 3, 1) := by decide +kernel
theorem dX9_hearAll_15 : decode prog_11_method_33_code 15 = .ok (.ifCond .ne 22, 3) := by decide +kernel
theorem dX9_hearAll_18 : decode prog_11_method_33_code 18 = .ok (.iload_n 2, 1) := by decide +kernel
theorem dX9_hearAll_19 : decode prog_11_method_33_code 19 = .ok (.iload 4, 2) := by decide +kernel
theorem dX9_hearAll_21 : decode prog_11_method_33_code 21 = .ok (.invokestatic 172, 3) := by decide +kernel
theorem dX9_hearAll_24 : decode prog_11_method_33_code 24 = .ok (.ifCond .eq 17, 3) := by decide +kernel
theorem dX9_hearAll_27 : decode prog_11_method_33_code 27 = .ok (.aload_n 0, 1) := by decide +kernel
theorem dX9_hearAll_28 : decode prog_11_method_33_code 28 = .ok (.iload 4, 2) := by decide +kernel
theorem dX9_hearAll_30 : decode prog_11_method_33_code 30 = .ok (.invokevirtual 181, 3) := by decide +kernel
theorem dX9_hearAll_33 : decode prog_11_method_33_code 33 = .ok (.iconst 3, 1) := by decide +kernel
theorem dX9_hearAll_34 : decode prog_11_method_33_code 34 = .ok (.if_icmp .ne 7, 3) := by decide +kernel
theorem dX9_hearAll_37 : decode prog_11_method_33_code 37 = .ok (.iconst 1, 1) := by decide +kernel
theorem dX9_hearAll_38 : decode prog_11_method_33_code 38 = .ok (.goto 4, 3) := by decide +kernel
theorem dX9_hearAll_41 : decode prog_11_method_33_code 41 = .ok (.iconst 0, 1) := by decide +kernel
theorem dX9_hearAll_42 : decode prog_11_method_33_code 42 = .ok (.istore_n 3, 1) := by decide +kernel
theorem dX9_hearAll_43 : decode prog_11_method_33_code 43 = .ok (.iinc 4 1, 3) := by decide +kernel
theorem dX9_hearAll_46 : decode prog_11_method_33_code 46 = .ok (.goto (-41), 3) := by decide +kernel
theorem dX9_hearAll_49 : decode prog_11_method_33_code 49 = .ok (.iconst 0, 1) := by decide +kernel
theorem dX9_hearAll_50 : decode prog_11_method_33_code 50 = .ok (.istore 4, 2) := by decide +kernel
theorem dX9_hearAll_52 : decode prog_11_method_33_code 52 = .ok (.iload 4, 2) := by decide +kernel
theorem dX9_hearAll_54 : decode prog_11_method_33_code 54 = .ok (.aload_n 0, 1) := by decide +kernel
theorem dX9_hearAll_55 : decode prog_11_method_33_code 55 = .ok (.getfield 73, 3) := by decide +kernel
theorem dX9_hearAll_58 : decode prog_11_method_33_code 58 = .ok (.if_icmp .ge 52, 3) := by decide +kernel
theorem dX9_hearAll_61 : decode prog_11_method_33_code 61 = .ok (.iload_n 3, 1) := by decide +kernel
theorem dX9_hearAll_62 : decode prog_11_method_33_code 62 = .ok (.ifCond .ne 12, 3) := by decide +kernel
theorem dX9_hearAll_65 : decode prog_11_method_33_code 65 = .ok (.iload_n 2, 1) := by decide +kernel
theorem dX9_hearAll_66 : decode prog_11_method_33_code 66 = .ok (.iload 4, 2) := by decide +kernel
theorem dX9_hearAll_68 : decode prog_11_method_33_code 68 = .ok (.invokestatic 172, 3) := by decide +kernel
theorem dX9_hearAll_71 : decode prog_11_method_33_code 71 = .ok (.ifCond .eq 33, 3) := by decide +kernel
theorem dX9_hearAll_74 : decode prog_11_method_33_code 74 = .ok (.aload_n 0, 1) := by decide +kernel
theorem dX9_hearAll_75 : decode prog_11_method_33_code 75 = .ok (.aload_n 1, 1) := by decide +kernel
theorem dX9_hearAll_76 : decode prog_11_method_33_code 76 = .ok (.iload 4, 2) := by decide +kernel
theorem dX9_hearAll_78 : decode prog_11_method_33_code 78 = .ok (.iload_n 2, 1) := by decide +kernel
theorem dX9_hearAll_79 : decode prog_11_method_33_code 79 = .ok (.iload 4, 2) := by decide +kernel
theorem dX9_hearAll_81 : decode prog_11_method_33_code 81 = .ok (.invokestatic 172, 3) := by decide +kernel
theorem dX9_hearAll_84 : decode prog_11_method_33_code 84 = .ok (.ifCond .eq 12, 3) := by decide +kernel
theorem dX9_hearAll_87 : decode prog_11_method_33_code 87 = .ok (.aload_n 0, 1) := by decide +kernel
theorem dX9_hearAll_88 : decode prog_11_method_33_code 88 = .ok (.iload 4, 2) := by decide +kernel
theorem dX9_hearAll_90 : decode prog_11_method_33_code 90 = .ok (.invokevirtual 185, 3) := by decide +kernel
theorem dX9_hearAll_93 : decode prog_11_method_33_code 93 = .ok (.ifCond .eq 7, 3) := by decide +kernel
theorem dX9_hearAll_96 : decode prog_11_method_33_code 96 = .ok (.iconst 1, 1) := by decide +kernel
theorem dX9_hearAll_97 : decode prog_11_method_33_code 97 = .ok (.goto 4, 3) := by decide +kernel
theorem dX9_hearAll_100 : decode prog_11_method_33_code 100 = .ok (.iconst 0, 1) := by decide +kernel
theorem dX9_hearAll_101 : decode prog_11_method_33_code 101 = .ok (.invokevirtual 207, 3) := by decide +kernel
theorem dX9_hearAll_104 : decode prog_11_method_33_code 104 = .ok (.iinc 4 1, 3) := by decide +kernel
theorem dX9_hearAll_107 : decode prog_11_method_33_code 107 = .ok (.goto (-55), 3) := by decide +kernel
theorem dX9_hearAll_110 : decode prog_11_method_33_code 110 = .ok (.return_, 1) := by decide +kernel
theorem dX9_isSo_0 : decode prog_11_method_34_code 0 = .ok (.aload_n 1, 1) := by decide +kernel
theorem dX9_isSo_1 : decode prog_11_method_34_code 1 = .ok (.iconst 0, 1) := by decide +kernel
theorem dX9_isSo_2 : decode prog_11_method_34_code 2 = .ok (.iaload, 1) := by decide +kernel
theorem dX9_isSo_3 : decode prog_11_method_34_code 3 = .ok (.aload_n 0, 1) := by decide +kernel
theorem dX9_isSo_4 : decode prog_11_method_34_code 4 = .ok (.getfield 195, 3) := by decide +kernel
theorem dX9_isSo_7 : decode prog_11_method_34_code 7 = .ok (.ishr, 1) := by decide +kernel
theorem dX9_isSo_8 : decode prog_11_method_34_code 8 = .ok (.iconst 1, 1) := by decide +kernel
theorem dX9_isSo_9 : decode prog_11_method_34_code 9 = .ok (.iand, 1) := by decide +kernel
theorem dX9_isSo_10 : decode prog_11_method_34_code 10 = .ok (.aload_n 0, 1) := by decide +kernel
theorem dX9_isSo_11 : decode prog_11_method_34_code 11 = .ok (.getfield 198, 3) := by decide +kernel
theorem dX9_isSo_14 : decode prog_11_method_34_code 14 = .ok (.if_icmp .ne 7, 3) := by decide +kernel
theorem dX9_isSo_17 : decode prog_11_method_34_code 17 = .ok (.iconst 1, 1) := by decide +kernel
theorem dX9_isSo_18 : decode prog_11_method_34_code 18 = .ok (.goto 4, 3) := by decide +kernel
theorem dX9_isSo_21 : decode prog_11_method_34_code 21 = .ok (.iconst 0, 1) := by decide +kernel
theorem dX9_isSo_22 : decode prog_11_method_34_code 22 = .ok (.istore_n 3, 1) := by decide +kernel
theorem dX9_isSo_23 : decode prog_11_method_34_code 23 = .ok (.aload_n 1, 1) := by decide +kernel
theorem dX9_isSo_24 : decode prog_11_method_34_code 24 = .ok (.iconst 0, 1) := by decide +kernel
theorem dX9_isSo_25 : decode prog_11_method_34_code 25 = .ok (.iaload, 1) := by decide +kernel
theorem dX9_isSo_26 : decode prog_11_method_34_code 26 = .ok (.aload_n 0, 1) := by decide +kernel
theorem dX9_isSo_27 : decode prog_11_method_34_code 27 = .ok (.getfield 201, 3) := by decide +kernel
theorem dX9_isSo_30 : decode prog_11_method_34_code 30 = .ok (.ishr, 1) := by decide +kernel
theorem dX9_isSo_31 : decode prog_11_method_34_code 31 = .ok (.iconst 1, 1) := by decide +kernel
theorem dX9_isSo_32 : decode prog_11_method_34_code 32 = .ok (.iand, 1) := by decide +kernel
theorem dX9_isSo_33 : decode prog_11_method_34_code 33 = .ok (.aload_n 0, 1) := by decide +kernel
theorem dX9_isSo_34 : decode prog_11_method_34_code 34 = .ok (.getfield 204, 3) := by decide +kernel
theorem dX9_isSo_37 : decode prog_11_method_34_code 37 = .ok (.if_icmp .ne 7, 3) := by decide +kernel
theorem dX9_isSo_40 : decode prog_11_method_34_code 40 = .ok (.iconst 1, 1) := by decide +kernel
theorem dX9_isSo_41 : decode prog_11_method_34_code 41 = .ok (.goto 4, 3) := by decide +kernel
theorem dX9_isSo_44 : decode prog_11_method_34_code 44 = .ok (.iconst 0, 1) := by decide +kernel
theorem dX9_isSo_45 : decode prog_11_method_34_code 45 = .ok (.istore 4, 2) := by decide +kernel
theorem dX9_isSo_47 : decode prog_11_method_34_code 47 = .ok (.aload_n 0, 1) := by decide +kernel
theorem dX9_isSo_48 : decode prog_11_method_34_code 48 = .ok (.getfield 192, 3) := by decide +kernel
theorem dX9_isSo_51 : decode prog_11_method_34_code 51 = .ok (.tableswitch 76 0 3 #[29, 31, 46, 61], 29) := by decide +kernel
theorem dX9_isSo_80 : decode prog_11_method_34_code 80 = .ok (.iload_n 3, 1) := by decide +kernel
theorem dX9_isSo_81 : decode prog_11_method_34_code 81 = .ok (.ireturn, 1) := by decide +kernel
theorem dX9_isSo_82 : decode prog_11_method_34_code 82 = .ok (.iload_n 3, 1) := by decide +kernel
theorem dX9_isSo_83 : decode prog_11_method_34_code 83 = .ok (.ifCond .eq 12, 3) := by decide +kernel
theorem dX9_isSo_86 : decode prog_11_method_34_code 86 = .ok (.iload 4, 2) := by decide +kernel
theorem dX9_isSo_88 : decode prog_11_method_34_code 88 = .ok (.ifCond .eq 7, 3) := by decide +kernel
theorem dX9_isSo_91 : decode prog_11_method_34_code 91 = .ok (.iconst 1, 1) := by decide +kernel
theorem dX9_isSo_92 : decode prog_11_method_34_code 92 = .ok (.goto 4, 3) := by decide +kernel
theorem dX9_isSo_95 : decode prog_11_method_34_code 95 = .ok (.iconst 0, 1) := by decide +kernel
theorem dX9_isSo_96 : decode prog_11_method_34_code 96 = .ok (.ireturn, 1) := by decide +kernel
theorem dX9_isSo_97 : decode prog_11_method_34_code 97 = .ok (.iload_n 3, 1) := by decide +kernel
theorem dX9_isSo_98 : decode prog_11_method_34_code 98 = .ok (.ifCond .ne 8, 3) := by decide +kernel
theorem dX9_isSo_101 : decode prog_11_method_34_code 101 = .ok (.iload 4, 2) := by decide +kernel
theorem dX9_isSo_103 : decode prog_11_method_34_code 103 = .ok (.ifCond .eq 7, 3) := by decide +kernel
theorem dX9_isSo_106 : decode prog_11_method_34_code 106 = .ok (.iconst 1, 1) := by decide +kernel
theorem dX9_isSo_107 : decode prog_11_method_34_code 107 = .ok (.goto 4, 3) := by decide +kernel
theorem dX9_isSo_110 : decode prog_11_method_34_code 110 = .ok (.iconst 0, 1) := by decide +kernel
theorem dX9_isSo_111 : decode prog_11_method_34_code 111 = .ok (.ireturn, 1) := by decide +kernel
theorem dX9_isSo_112 : decode prog_11_method_34_code 112 = .ok (.iload_n 3, 1) := by decide +kernel
theorem dX9_isSo_113 : decode prog_11_method_34_code 113 = .ok (.ifCond .eq 8, 3) := by decide +kernel
theorem dX9_isSo_116 : decode prog_11_method_34_code 116 = .ok (.iload 4, 2) := by decide +kernel
theorem dX9_isSo_118 : decode prog_11_method_34_code 118 = .ok (.ifCond .eq 7, 3) := by decide +kernel
theorem dX9_isSo_121 : decode prog_11_method_34_code 121 = .ok (.iconst 1, 1) := by decide +kernel
theorem dX9_isSo_122 : decode prog_11_method_34_code 122 = .ok (.goto 4, 3) := by decide +kernel
theorem dX9_isSo_125 : decode prog_11_method_34_code 125 = .ok (.iconst 0, 1) := by decide +kernel
theorem dX9_isSo_126 : decode prog_11_method_34_code 126 = .ok (.ireturn, 1) := by decide +kernel
theorem dX9_isSo_127 : decode prog_11_method_34_code 127 = .ok (.aload_n 1, 1) := by decide +kernel
theorem dX9_isSo_128 : decode prog_11_method_34_code 128 = .ok (.iconst 0, 1) := by decide +kernel
theorem dX9_isSo_129 : decode prog_11_method_34_code 129 = .ok (.aload_n 0, 1) := by decide +kernel
theorem dX9_isSo_130 : decode prog_11_method_34_code 130 = .ok (.getfield 31, 3) := by decide +kernel
theorem dX9_isSo_133 : decode prog_11_method_34_code 133 = .ok (.iconst 0, 1) := by decide +kernel
theorem dX9_isSo_134 : decode prog_11_method_34_code 134 = .ok (.invokestatic 211, 3) := by decide +kernel
theorem dX9_isSo_137 : decode prog_11_method_34_code 137 = .ok (.aload_n 0, 1) := by decide +kernel
theorem dX9_isSo_138 : decode prog_11_method_34_code 138 = .ok (.aload_n 0, 1) := by decide +kernel
theorem dX9_isSo_139 : decode prog_11_method_34_code 139 = .ok (.getfield 31, 3) := by decide +kernel
theorem dX9_isSo_142 : decode prog_11_method_34_code 142 = .ok (.iload_n 2, 1) := by decide +kernel
theorem dX9_isSo_143 : decode prog_11_method_34_code 143 = .ok (.invokevirtual 215, 3) := by decide +kernel
theorem dX9_isSo_146 : decode prog_11_method_34_code 146 = .ok (.aload_n 0, 1) := by decide +kernel
theorem dX9_isSo_147 : decode prog_11_method_34_code 147 = .ok (.aload_n 0, 1) := by decide +kernel
theorem dX9_isSo_148 : decode prog_11_method_34_code 148 = .ok (.getfield 31, 3) := by decide +kernel
theorem dX9_isSo_151 : decode prog_11_method_34_code 151 = .ok (.invokevirtual 219, 3) := by decide +kernel
theorem dX9_isSo_154 : decode prog_11_method_34_code 154 = .ok (.aload_n 0, 1) := by decide +kernel
theorem dX9_isSo_155 : decode prog_11_method_34_code 155 = .ok (.getfield 31, 3) := by decide +kernel
theorem dX9_isSo_158 : decode prog_11_method_34_code 158 = .ok (.iconst 0, 1) := by decide +kernel
theorem dX9_isSo_159 : decode prog_11_method_34_code 159 = .ok (.iaload, 1) := by decide +kernel
theorem dX9_isSo_160 : decode prog_11_method_34_code 160 = .ok (.aload_n 0, 1) := by decide +kernel
theorem dX9_isSo_161 : decode prog_11_method_34_code 161 = .ok (.getfield 195, 3) := by decide +kernel
theorem dX9_isSo_164 : decode prog_11_method_34_code 164 = .ok (.ishr, 1) := by decide +kernel
theorem dX9_isSo_165 : decode prog_11_method_34_code 165 = .ok (.iconst 1, 1) := by decide +kernel
theorem dX9_isSo_166 : decode prog_11_method_34_code 166 = .ok (.iand, 1) := by decide +kernel
theorem dX9_isSo_167 : decode prog_11_method_34_code 167 = .ok (.aload_n 0, 1) := by decide +kernel
theorem dX9_isSo_168 : decode prog_11_method_34_code 168 = .ok (.getfield 198, 3) := by decide +kernel
theorem dX9_isSo_171 : decode prog_11_method_34_code 171 = .ok (.if_icmp .ne 7, 3) := by decide +kernel
theorem dX9_isSo_174 : decode prog_11_method_34_code 174 = .ok (.iconst 1, 1) := by decide +kernel
theorem dX9_isSo_175 : decode prog_11_method_34_code 175 = .ok (.goto 4, 3) := by decide +kernel
theorem dX9_isSo_178 : decode prog_11_method_34_code 178 = .ok (.iconst 0, 1) := by decide +kernel
theorem dX9_isSo_179 : decode prog_11_method_34_code 179 = .ok (.ireturn, 1) := by decide +kernel
theorem dX9_everybody_0 : decode prog_11_method_35_code 0 = .ok (.iconst 1, 1) := by decide +kernel
theorem dX9_everybody_1 : decode prog_11_method_35_code 1 = .ok (.aload_n 0, 1) := by decide +kernel
theorem dX9_everybody_2 : decode prog_11_method_35_code 2 = .ok (.getfield 73, 3) := by decide +kernel
theorem dX9_everybody_5 : decode prog_11_method_35_code 5 = .ok (.ishl, 1) := by decide +kernel
theorem dX9_everybody_6 : decode prog_11_method_35_code 6 = .ok (.iconst 1, 1) := by decide +kernel
theorem dX9_everybody_7 : decode prog_11_method_35_code 7 = .ok (.isub, 1) := by decide +kernel
theorem dX9_everybody_8 : decode prog_11_method_35_code 8 = .ok (.ireturn, 1) := by decide +kernel
theorem dX9_barred_0 : decode prog_11_method_36_code 0 = .ok (.iload_n 1, 1) := by decide +kernel
theorem dX9_barred_1 : decode prog_11_method_36_code 1 = .ok (.iconst 0, 1) := by decide +kernel
theorem dX9_barred_2 : decode prog_11_method_36_code 2 = .ok (.iconst 4, 1) := by decide +kernel
theorem dX9_barred_3 : decode prog_11_method_36_code 3 = .ok (.invokestatic 69, 3) := by decide +kernel
theorem dX9_barred_6 : decode prog_11_method_36_code 6 = .ok (.ifCond .ne 6, 3) := by decide +kernel
theorem dX9_barred_9 : decode prog_11_method_36_code 9 = .ok (.bipush (-3), 2) := by decide +kernel
theorem dX9_barred_11 : decode prog_11_method_36_code 11 = .ok (.ireturn, 1) := by decide +kernel
theorem dX9_barred_12 : decode prog_11_method_36_code 12 = .ok (.iload_n 1, 1) := by decide +kernel
theorem dX9_barred_13 : decode prog_11_method_36_code 13 = .ok (.ifCond .eq 8, 3) := by decide +kernel
theorem dX9_barred_16 : decode prog_11_method_36_code 16 = .ok (.iload_n 1, 1) := by decide +kernel
theorem dX9_barred_17 : decode prog_11_method_36_code 17 = .ok (.iconst 4, 1) := by decide +kernel
theorem dX9_barred_18 : decode prog_11_method_36_code 18 = .ok (.if_icmp .ne 7, 3) := by decide +kernel
theorem dX9_barred_21 : decode prog_11_method_36_code 21 = .ok (.iconst 1, 1) := by decide +kernel
theorem dX9_barred_22 : decode prog_11_method_36_code 22 = .ok (.goto 4, 3) := by decide +kernel
theorem dX9_barred_25 : decode prog_11_method_36_code 25 = .ok (.iconst 0, 1) := by decide +kernel
theorem dX9_barred_26 : decode prog_11_method_36_code 26 = .ok (.istore 6, 2) := by decide +kernel
theorem dX9_barred_28 : decode prog_11_method_36_code 28 = .ok (.aload_n 0, 1) := by decide +kernel
theorem dX9_barred_29 : decode prog_11_method_36_code 29 = .ok (.iload_n 2, 1) := by decide +kernel
theorem dX9_barred_30 : decode prog_11_method_36_code 30 = .ok (.invokevirtual 175, 3) := by decide +kernel
theorem dX9_barred_33 : decode prog_11_method_36_code 33 = .ok (.ifCond .eq 23, 3) := by decide +kernel
theorem dX9_barred_36 : decode prog_11_method_36_code 36 = .ok (.iload 6, 2) := by decide +kernel
theorem dX9_barred_38 : decode prog_11_method_36_code 38 = .ok (.ifCond .ne 21, 3) := by decide +kernel
theorem dX9_barred_41 : decode prog_11_method_36_code 41 = .ok (.aload_n 0, 1) := by decide +kernel
theorem dX9_barred_42 : decode prog_11_method_36_code 42 = .ok (.iload 4, 2) := by decide +kernel
theorem dX9_barred_44 : decode prog_11_method_36_code 44 = .ok (.invokevirtual 175, 3) := by decide +kernel
theorem dX9_barred_47 : decode prog_11_method_36_code 47 = .ok (.ifCond .eq 9, 3) := by decide +kernel
theorem dX9_barred_50 : decode prog_11_method_36_code 50 = .ok (.iload 4, 2) := by decide +kernel
theorem dX9_barred_52 : decode prog_11_method_36_code 52 = .ok (.iload_n 2, 1) := by decide +kernel
theorem dX9_barred_53 : decode prog_11_method_36_code 53 = .ok (.if_icmp .ne 6, 3) := by decide +kernel
theorem dX9_barred_56 : decode prog_11_method_36_code 56 = .ok (.bipush (-2), 2) := by decide +kernel
theorem dX9_barred_58 : decode prog_11_method_36_code 58 = .ok (.ireturn, 1) := by decide +kernel
theorem dX9_barred_59 : decode prog_11_method_36_code 59 = .ok (.iload_n 3, 1) := by decide +kernel
theorem dX9_barred_60 : decode prog_11_method_36_code 60 = .ok (.iconst 0, 1) := by decide +kernel
theorem dX9_barred_61 : decode prog_11_method_36_code 61 = .ok (.iconst 1, 1) := by decide +kernel
theorem dX9_barred_62 : decode prog_11_method_36_code 62 = .ok (.invokestatic 69, 3) := by decide +kernel
theorem dX9_barred_65 : decode prog_11_method_36_code 65 = .ok (.ifCond .eq 18, 3) := by decide +kernel
theorem dX9_barred_68 : decode prog_11_method_36_code 68 = .ok (.iload 6, 2) := by decide +kernel
theorem dX9_barred_70 : decode prog_11_method_36_code 70 = .ok (.ifCond .ne 18, 3) := by decide +kernel
theorem dX9_barred_73 : decode prog_11_method_36_code 73 = .ok (.iload 5, 2) := by decide +kernel
theorem dX9_barred_75 : decode prog_11_method_36_code 75 = .ok (.iconst 0, 1) := by decide +kernel
theorem dX9_barred_76 : decode prog_11_method_36_code 76 = .ok (.iconst 1, 1) := by decide +kernel
theorem dX9_barred_77 : decode prog_11_method_36_code 77 = .ok (.invokestatic 69, 3) := by decide +kernel
theorem dX9_barred_80 : decode prog_11_method_36_code 80 = .ok (.ifCond .ne 8, 3) := by decide +kernel
theorem dX9_barred_83 : decode prog_11_method_36_code 83 = .ok (.bipush (-3), 2) := by decide +kernel
theorem dX9_barred_85 : decode prog_11_method_36_code 85 = .ok (.goto 4, 3) := by decide +kernel
theorem dX9_barred_88 : decode prog_11_method_36_code 88 = .ok (.iconst 0, 1) := by decide +kernel
theorem dX9_barred_89 : decode prog_11_method_36_code 89 = .ok (.ireturn, 1) := by decide +kernel
theorem dX9_layTold_0 : decode prog_11_method_37_code 0 = .ok (.iload_n 1, 1) := by decide +kernel
theorem dX9_layTold_1 : decode prog_11_method_37_code 1 = .ok (.ifCond .eq 8, 3) := by decide +kernel
theorem dX9_layTold_4 : decode prog_11_method_37_code 4 = .ok (.iload_n 1, 1) := by decide +kernel
theorem dX9_layTold_5 : decode prog_11_method_37_code 5 = .ok (.iconst 4, 1) := by decide +kernel
theorem dX9_layTold_6 : decode prog_11_method_37_code 6 = .ok (.if_icmp .ne 7, 3) := by decide +kernel
theorem dX9_layTold_9 : decode prog_11_method_37_code 9 = .ok (.iconst 1, 1) := by decide +kernel
theorem dX9_layTold_10 : decode prog_11_method_37_code 10 = .ok (.goto 4, 3) := by decide +kernel
theorem dX9_layTold_13 : decode prog_11_method_37_code 13 = .ok (.iconst 0, 1) := by decide +kernel
theorem dX9_layTold_14 : decode prog_11_method_37_code 14 = .ok (.istore 6, 2) := by decide +kernel
theorem dX9_layTold_16 : decode prog_11_method_37_code 16 = .ok (.aload_n 0, 1) := by decide +kernel
theorem dX9_layTold_17 : decode prog_11_method_37_code 17 = .ok (.iload_n 1, 1) := by decide +kernel
theorem dX9_layTold_18 : decode prog_11_method_37_code 18 = .ok (.iload_n 2, 1) := by decide +kernel
theorem dX9_layTold_19 : decode prog_11_method_37_code 19 = .ok (.iload_n 3, 1) := by decide +kernel
theorem dX9_layTold_20 : decode prog_11_method_37_code 20 = .ok (.iload 6, 2) := by decide +kernel
theorem dX9_layTold_22 : decode prog_11_method_37_code 22 = .ok (.ifCond .eq 7, 3) := by decide +kernel
theorem dX9_layTold_25 : decode prog_11_method_37_code 25 = .ok (.iconst 0, 1) := by decide +kernel
theorem dX9_layTold_26 : decode prog_11_method_37_code 26 = .ok (.goto 5, 3) := by decide +kernel
theorem dX9_layTold_29 : decode prog_11_method_37_code 29 = .ok (.iload 4, 2) := by decide +kernel
theorem dX9_layTold_31 : decode prog_11_method_37_code 31 = .ok (.iload 6, 2) := by decide +kernel
theorem dX9_layTold_33 : decode prog_11_method_37_code 33 = .ok (.ifCond .eq 7, 3) := by decide +kernel
theorem dX9_layTold_36 : decode prog_11_method_37_code 36 = .ok (.iconst 0, 1) := by decide +kernel
theorem dX9_layTold_37 : decode prog_11_method_37_code 37 = .ok (.goto 5, 3) := by decide +kernel
theorem dX9_layTold_40 : decode prog_11_method_37_code 40 = .ok (.iload 5, 2) := by decide +kernel
theorem dX9_layTold_42 : decode prog_11_method_37_code 42 = .ok (.invokevirtual 223, 3) := by decide +kernel
theorem dX9_layTold_45 : decode prog_11_method_37_code 45 = .ok (.return_, 1) := by decide +kernel
theorem dX9_so_0 : decode prog_11_method_38_code 0 = .ok (.aload_n 0, 1) := by decide +kernel
theorem dX9_so_1 : decode prog_11_method_38_code 1 = .ok (.iload_n 1, 1) := by decide +kernel
theorem dX9_so_2 : decode prog_11_method_38_code 2 = .ok (.iload_n 2, 1) := by decide +kernel
theorem dX9_so_3 : decode prog_11_method_38_code 3 = .ok (.iload_n 3, 1) := by decide +kernel
theorem dX9_so_4 : decode prog_11_method_38_code 4 = .ok (.iload 4, 2) := by decide +kernel
theorem dX9_so_6 : decode prog_11_method_38_code 6 = .ok (.iload 5, 2) := by decide +kernel
theorem dX9_so_8 : decode prog_11_method_38_code 8 = .ok (.invokevirtual 227, 3) := by decide +kernel
theorem dX9_so_11 : decode prog_11_method_38_code 11 = .ok (.istore 6, 2) := by decide +kernel
theorem dX9_so_13 : decode prog_11_method_38_code 13 = .ok (.iload 6, 2) := by decide +kernel
theorem dX9_so_15 : decode prog_11_method_38_code 15 = .ok (.ifCond .ge 6, 3) := by decide +kernel
theorem dX9_so_18 : decode prog_11_method_38_code 18 = .ok (.iload 6, 2) := by decide +kernel
theorem dX9_so_20 : decode prog_11_method_38_code 20 = .ok (.ireturn, 1) := by decide +kernel
theorem dX9_so_21 : decode prog_11_method_38_code 21 = .ok (.aload_n 0, 1) := by decide +kernel
theorem dX9_so_22 : decode prog_11_method_38_code 22 = .ok (.iload_n 1, 1) := by decide +kernel
theorem dX9_so_23 : decode prog_11_method_38_code 23 = .ok (.iload_n 2, 1) := by decide +kernel
theorem dX9_so_24 : decode prog_11_method_38_code 24 = .ok (.iload_n 3, 1) := by decide +kernel
theorem dX9_so_25 : decode prog_11_method_38_code 25 = .ok (.iload 4, 2) := by decide +kernel
theorem dX9_so_27 : decode prog_11_method_38_code 27 = .ok (.iload 5, 2) := by decide +kernel
theorem dX9_so_29 : decode prog_11_method_38_code 29 = .ok (.invokevirtual 231, 3) := by decide +kernel
theorem dX9_so_32 : decode prog_11_method_38_code 32 = .ok (.aload_n 0, 1) := by decide +kernel
theorem dX9_so_33 : decode prog_11_method_38_code 33 = .ok (.aload_n 0, 1) := by decide +kernel
theorem dX9_so_34 : decode prog_11_method_38_code 34 = .ok (.getfield 25, 3) := by decide +kernel
theorem dX9_so_37 : decode prog_11_method_38_code 37 = .ok (.aload_n 0, 1) := by decide +kernel
theorem dX9_so_38 : decode prog_11_method_38_code 38 = .ok (.invokevirtual 234, 3) := by decide +kernel
theorem dX9_so_41 : decode prog_11_method_38_code 41 = .ok (.invokevirtual 237, 3) := by decide +kernel
theorem dX9_so_44 : decode prog_11_method_38_code 44 = .ok (.ifCond .eq 7, 3) := by decide +kernel
theorem dX9_so_47 : decode prog_11_method_38_code 47 = .ok (.iconst 1, 1) := by decide +kernel
theorem dX9_so_48 : decode prog_11_method_38_code 48 = .ok (.goto 4, 3) := by decide +kernel
theorem dX9_so_51 : decode prog_11_method_38_code 51 = .ok (.iconst 0, 1) := by decide +kernel
theorem dX9_so_52 : decode prog_11_method_38_code 52 = .ok (.ireturn, 1) := by decide +kernel
theorem dX9_note_0 : decode prog_11_method_39_code 0 = .ok (.aload_n 0, 1) := by decide +kernel
theorem dX9_note_1 : decode prog_11_method_39_code 1 = .ok (.getfield 63, 3) := by decide +kernel
theorem dX9_note_4 : decode prog_11_method_39_code 4 = .ok (.bipush 8, 2) := by decide +kernel
theorem dX9_note_6 : decode prog_11_method_39_code 6 = .ok (.if_icmp .ne 43, 3) := by decide +kernel
theorem dX9_note_9 : decode prog_11_method_39_code 9 = .ok (.iconst 0, 1) := by decide +kernel
theorem dX9_note_10 : decode prog_11_method_39_code 10 = .ok (.istore_n 1, 1) := by decide +kernel
theorem dX9_note_11 : decode prog_11_method_39_code 11 = .ok (.iload_n 1, 1) := by decide +kernel
theorem dX9_note_12 : decode prog_11_method_39_code 12 = .ok (.sipush 224, 3) := by decide +kernel
theorem dX9_note_15 : decode prog_11_method_39_code 15 = .ok (.if_icmp .ge 24, 3) := by decide +kernel
theorem dX9_note_18 : decode prog_11_method_39_code 18 = .ok (.aload_n 0, 1) := by decide +kernel
theorem dX9_note_19 : decode prog_11_method_39_code 19 = .ok (.getfield 44, 3) := by decide +kernel
theorem dX9_note_22 : decode prog_11_method_39_code 22 = .ok (.iload_n 1, 1) := by decide +kernel
theorem dX9_note_23 : decode prog_11_method_39_code 23 = .ok (.aload_n 0, 1) := by decide +kernel
theorem dX9_note_24 : decode prog_11_method_39_code 24 = .ok (.getfield 44, 3) := by decide +kernel
theorem dX9_note_27 : decode prog_11_method_39_code 27 = .ok (.iload_n 1, 1) := by decide +kernel
theorem dX9_note_28 : decode prog_11_method_39_code 28 = .ok (.bipush 32, 2) := by decide +kernel
theorem dX9_note_30 : decode prog_11_method_39_code 30 = .ok (.iadd, 1) := by decide +kernel
theorem dX9_note_31 : decode prog_11_method_39_code 31 = .ok (.iaload, 1) := by decide +kernel
theorem dX9_note_32 : decode prog_11_method_39_code 32 = .ok (.iastore, 1) := by decide +kernel
theorem dX9_note_33 : decode prog_11_method_39_code 33 = .ok (.iinc 1 1, 3) := by decide +kernel
theorem dX9_note_36 : decode prog_11_method_39_code 36 = .ok (.goto (-25), 3) := by decide +kernel
theorem dX9_note_39 : decode prog_11_method_39_code 39 = .ok (.aload_n 0, 1) := by decide +kernel
theorem dX9_note_40 : decode prog_11_method_39_code 40 = .ok (.dup, 1) := by decide +kernel
theorem dX9_note_41 : decode prog_11_method_39_code 41 = .ok (.getfield 63, 3) := by decide +kernel
theorem dX9_note_44 : decode prog_11_method_39_code 44 = .ok (.iconst 1, 1) := by decide +kernel
theorem dX9_note_45 : decode prog_11_method_39_code 45 = .ok (.isub, 1) := by decide +kernel
theorem dX9_note_46 : decode prog_11_method_39_code 46 = .ok (.putfield 63, 3) := by decide +kernel
theorem dX9_note_49 : decode prog_11_method_39_code 49 = .ok (.aload_n 0, 1) := by decide +kernel
theorem dX9_note_50 : decode prog_11_method_39_code 50 = .ok (.getfield 25, 3) := by decide +kernel
theorem dX9_note_53 : decode prog_11_method_39_code 53 = .ok (.iconst 0, 1) := by decide +kernel
theorem dX9_note_54 : decode prog_11_method_39_code 54 = .ok (.aload_n 0, 1) := by decide +kernel
theorem dX9_note_55 : decode prog_11_method_39_code 55 = .ok (.getfield 44, 3) := by decide +kernel
theorem dX9_note_58 : decode prog_11_method_39_code 58 = .ok (.bipush 32, 2) := by decide +kernel
theorem dX9_note_60 : decode prog_11_method_39_code 60 = .ok (.aload_n 0, 1) := by decide +kernel
theorem dX9_note_61 : decode prog_11_method_39_code 61 = .ok (.getfield 63, 3) := by decide +kernel
theorem dX9_note_64 : decode prog_11_method_39_code 64 = .ok (.imul, 1) := by decide +kernel
theorem dX9_note_65 : decode prog_11_method_39_code 65 = .ok (.invokestatic 211, 3) := by decide +kernel
theorem dX9_note_68 : decode prog_11_method_39_code 68 = .ok (.aload_n 0, 1) := by decide +kernel
theorem dX9_note_69 : decode prog_11_method_39_code 69 = .ok (.dup, 1) := by decide +kernel
theorem dX9_note_70 : decode prog_11_method_39_code 70 = .ok (.getfield 63, 3) := by decide +kernel
theorem dX9_note_73 : decode prog_11_method_39_code 73 = .ok (.iconst 1, 1) := by decide +kernel
theorem dX9_note_74 : decode prog_11_method_39_code 74 = .ok (.iadd, 1) := by decide +kernel
theorem dX9_note_75 : decode prog_11_method_39_code 75 = .ok (.putfield 63, 3) := by decide +kernel
theorem dX9_note_78 : decode prog_11_method_39_code 78 = .ok (.return_, 1) := by decide +kernel
theorem dX9_changed_0 : decode prog_11_method_40_code 0 = .ok (.iconst 0, 1) := by decide +kernel
theorem dX9_changed_1 : decode prog_11_method_40_code 1 = .ok (.istore_n 3, 1) := by decide +kernel
theorem dX9_changed_2 : decode prog_11_method_40_code 2 = .ok (.iconst 0, 1) := by decide +kernel
theorem dX9_changed_3 : decode prog_11_method_40_code 3 = .ok (.istore 4, 2) := by decide +kernel
theorem dX9_changed_5 : decode prog_11_method_40_code 5 = .ok (.iload 4, 2) := by decide +kernel
theorem dX9_changed_7 : decode prog_11_method_40_code 7 = .ok (.aload_n 0, 1) := by decide +kernel
theorem dX9_changed_8 : decode prog_11_method_40_code 8 = .ok (.getfield 73, 3) := by decide +kernel
theorem dX9_changed_11 : decode prog_11_method_40_code 11 = .ok (.if_icmp .ge 65, 3) := by decide +kernel
theorem dX9_changed_14 : decode prog_11_method_40_code 14 = .ok (.iconst 0, 1) := by decide +kernel
theorem dX9_changed_15 : decode prog_11_method_40_code 15 = .ok (.istore 5, 2) := by decide +kernel
theorem dX9_changed_17 : decode prog_11_method_40_code 17 = .ok (.iload 5, 2) := by decide +kernel
theorem dX9_changed_19 : decode prog_11_method_40_code 19 = .ok (.aload_n 0, 1) := by decide +kernel
theorem dX9_changed_20 : decode prog_11_method_40_code 20 = .ok (.getfield 59, 3) := by decide +kernel
theorem dX9_changed_23 : decode prog_11_method_40_code 23 = .ok (.if_icmp .ge 47, 3) := by decide +kernel
theorem dX9_changed_26 : decode prog_11_method_40_code 26 = .ok (.iload_n 3, 1) := by decide +kernel
theorem dX9_changed_27 : decode prog_11_method_40_code 27 = .ok (.aload_n 1, 1) := by decide +kernel
theorem dX9_changed_28 : decode prog_11_method_40_code 28 = .ok (.iconst 2, 1) := by decide +kernel
theorem dX9_changed_29 : decode prog_11_method_40_code 29 = .ok (.bipush 6, 2) := by decide +kernel
theorem dX9_changed_31 : decode prog_11_method_40_code 31 = .ok (.iload 4, 2) := by decide +kernel
theorem dX9_changed_33 : decode prog_11_method_40_code 33 = .ok (.imul, 1) := by decide +kernel
theorem dX9_changed_34 : decode prog_11_method_40_code 34 = .ok (.iadd, 1) := by decide +kernel
theorem dX9_changed_35 : decode prog_11_method_40_code 35 = .ok (.iload 5, 2) := by decide +kernel
theorem dX9_changed_37 : decode prog_11_method_40_code 37 = .ok (.iadd, 1) := by decide +kernel
theorem dX9_changed_38 : decode prog_11_method_40_code 38 = .ok (.iaload, 1) := by decide +kernel
theorem dX9_changed_39 : decode prog_11_method_40_code 39 = .ok (.aload_n 2, 1) := by decide +kernel
theorem dX9_changed_40 : decode prog_11_method_40_code 40 = .ok (.iconst 2, 1) := by decide +kernel
theorem dX9_changed_41 : decode prog_11_method_40_code 41 = .ok (.bipush 6, 2) := by decide +kernel
theorem dX9_changed_43 : decode prog_11_method_40_code 43 = .ok (.iload 4, 2) := by decide +kernel
theorem dX9_changed_45 : decode prog_11_method_40_code 45 = .ok (.imul, 1) := by decide +kernel
theorem dX9_changed_46 : decode prog_11_method_40_code 46 = .ok (.iadd, 1) := by decide +kernel
theorem dX9_changed_47 : decode prog_11_method_40_code 47 = .ok (.iload 5, 2) := by decide +kernel
theorem dX9_changed_49 : decode prog_11_method_40_code 49 = .ok (.iadd, 1) := by decide +kernel
theorem dX9_changed_50 : decode prog_11_method_40_code 50 = .ok (.iaload, 1) := by decide +kernel
theorem dX9_changed_51 : decode prog_11_method_40_code 51 = .ok (.if_icmp .eq 10, 3) := by decide +kernel
theorem dX9_changed_54 : decode prog_11_method_40_code 54 = .ok (.iconst 1, 1) := by decide +kernel
theorem dX9_changed_55 : decode prog_11_method_40_code 55 = .ok (.iload 4, 2) := by decide +kernel
theorem dX9_changed_57 : decode prog_11_method_40_code 57 = .ok (.ishl, 1) := by decide +kernel
theorem dX9_changed_58 : decode prog_11_method_40_code 58 = .ok (.goto 4, 3) := by decide +kernel
theorem dX9_changed_61 : decode prog_11_method_40_code 61 = .ok (.iconst 0, 1) := by decide +kernel
theorem dX9_changed_62 : decode prog_11_method_40_code 62 = .ok (.ior, 1) := by decide +kernel
theorem dX9_changed_63 : decode prog_11_method_40_code 63 = .ok (.istore_n 3, 1) := by decide +kernel
theorem dX9_changed_64 : decode prog_11_method_40_code 64 = .ok (.iinc 5 1, 3) := by decide +kernel
theorem dX9_changed_67 : decode prog_11_method_40_code 67 = .ok (.goto (-50), 3) := by decide +kernel
theorem dX9_changed_70 : decode prog_11_method_40_code 70 = .ok (.iinc 4 1, 3) := by decide +kernel
theorem dX9_changed_73 : decode prog_11_method_40_code 73 = .ok (.goto (-68), 3) := by decide +kernel
theorem dX9_changed_76 : decode prog_11_method_40_code 76 = .ok (.iload_n 3, 1) := by decide +kernel
theorem dX9_changed_77 : decode prog_11_method_40_code 77 = .ok (.ireturn, 1) := by decide +kernel
theorem dX9_say_0 : decode prog_11_method_41_code 0 = .ok (.iload_n 1, 1) := by decide +kernel
theorem dX9_say_1 : decode prog_11_method_41_code 1 = .ok (.iconst 1, 1) := by decide +kernel
theorem dX9_say_2 : decode prog_11_method_41_code 2 = .ok (.aload_n 0, 1) := by decide +kernel
theorem dX9_say_3 : decode prog_11_method_41_code 3 = .ok (.invokevirtual 234, 3) := by decide +kernel
theorem dX9_say_6 : decode prog_11_method_41_code 6 = .ok (.invokestatic 69, 3) := by decide +kernel
theorem dX9_say_9 : decode prog_11_method_41_code 9 = .ok (.ifCond .ne 6, 3) := by decide +kernel
theorem dX9_say_12 : decode prog_11_method_41_code 12 = .ok (.bipush (-3), 2) := by decide +kernel
theorem dX9_say_14 : decode prog_11_method_41_code 14 = .ok (.ireturn, 1) := by decide +kernel
theorem dX9_say_15 : decode prog_11_method_41_code 15 = .ok (.aload_n 0, 1) := by decide +kernel
theorem dX9_say_16 : decode prog_11_method_41_code 16 = .ok (.iload_n 2, 1) := by decide +kernel
theorem dX9_say_17 : decode prog_11_method_41_code 17 = .ok (.iload_n 3, 1) := by decide +kernel
theorem dX9_say_18 : decode prog_11_method_41_code 18 = .ok (.iload 4, 2) := by decide +kernel
theorem dX9_say_20 : decode prog_11_method_41_code 20 = .ok (.iload 5, 2) := by decide +kernel
theorem dX9_say_22 : decode prog_11_method_41_code 22 = .ok (.iload 6, 2) := by decide +kernel
theorem dX9_say_24 : decode prog_11_method_41_code 24 = .ok (.invokevirtual 227, 3) := by decide +kernel
theorem dX9_say_27 : decode prog_11_method_41_code 27 = .ok (.istore 7, 2) := by decide +kernel
theorem dX9_say_29 : decode prog_11_method_41_code 29 = .ok (.iload 7, 2) := by decide +kernel
theorem dX9_say_31 : decode prog_11_method_41_code 31 = .ok (.ifCond .ge 6, 3) := by decide +kernel
theorem dX9_say_34 : decode prog_11_method_41_code 34 = .ok (.iload 7, 2) := by decide +kernel
theorem dX9_say_36 : decode prog_11_method_41_code 36 = .ok (.ireturn, 1) := by decide +kernel
theorem dX9_say_37 : decode prog_11_method_41_code 37 = .ok (.aload_n 0, 1) := by decide +kernel
theorem dX9_say_38 : decode prog_11_method_41_code 38 = .ok (.iload_n 2, 1) := by decide +kernel
theorem dX9_say_39 : decode prog_11_method_41_code 39 = .ok (.iload_n 3, 1) := by decide +kernel
theorem dX9_say_40 : decode prog_11_method_41_code 40 = .ok (.iload 4, 2) := by decide +kernel
theorem dX9_say_42 : decode prog_11_method_41_code 42 = .ok (.iload 5, 2) := by decide +kernel
theorem dX9_say_44 : decode prog_11_method_41_code 44 = .ok (.iload 6, 2) := by decide +kernel
theorem dX9_say_46 : decode prog_11_method_41_code 46 = .ok (.invokevirtual 231, 3) := by decide +kernel
theorem dX9_say_49 : decode prog_11_method_41_code 49 = .ok (.aload_n 0, 1) := by decide +kernel
theorem dX9_say_50 : decode prog_11_method_41_code 50 = .ok (.aload_n 0, 1) := by decide +kernel
theorem dX9_say_51 : decode prog_11_method_41_code 51 = .ok (.getfield 25, 3) := by decide +kernel
theorem dX9_say_54 : decode prog_11_method_41_code 54 = .ok (.iload_n 1, 1) := by decide +kernel
theorem dX9_say_55 : decode prog_11_method_41_code 55 = .ok (.invokevirtual 237, 3) := by decide +kernel
theorem dX9_say_58 : decode prog_11_method_41_code 58 = .ok (.ifCond .ne 6, 3) := by decide +kernel
theorem dX9_say_61 : decode prog_11_method_41_code 61 = .ok (.bipush (-4), 2) := by decide +kernel
theorem dX9_say_63 : decode prog_11_method_41_code 63 = .ok (.ireturn, 1) := by decide +kernel
theorem dX9_say_64 : decode prog_11_method_41_code 64 = .ok (.aload_n 0, 1) := by decide +kernel
theorem dX9_say_65 : decode prog_11_method_41_code 65 = .ok (.invokevirtual 241, 3) := by decide +kernel
theorem dX9_say_68 : decode prog_11_method_41_code 68 = .ok (.aload_n 0, 1) := by decide +kernel
theorem dX9_say_69 : decode prog_11_method_41_code 69 = .ok (.getfield 25, 3) := by decide +kernel
theorem dX9_say_72 : decode prog_11_method_41_code 72 = .ok (.iconst 0, 1) := by decide +kernel
theorem dX9_say_73 : decode prog_11_method_41_code 73 = .ok (.aload_n 0, 1) := by decide +kernel
theorem dX9_say_74 : decode prog_11_method_41_code 74 = .ok (.getfield 28, 3) := by decide +kernel
theorem dX9_say_77 : decode prog_11_method_41_code 77 = .ok (.iconst 0, 1) := by decide +kernel
theorem dX9_say_78 : decode prog_11_method_41_code 78 = .ok (.invokestatic 211, 3) := by decide +kernel
theorem dX9_say_81 : decode prog_11_method_41_code 81 = .ok (.aload_n 0, 1) := by decide +kernel
theorem dX9_say_82 : decode prog_11_method_41_code 82 = .ok (.aload_n 0, 1) := by decide +kernel
theorem dX9_say_83 : decode prog_11_method_41_code 83 = .ok (.getfield 25, 3) := by decide +kernel
theorem dX9_say_86 : decode prog_11_method_41_code 86 = .ok (.iload_n 1, 1) := by decide +kernel
theorem dX9_say_87 : decode prog_11_method_41_code 87 = .ok (.invokevirtual 215, 3) := by decide +kernel
theorem dX9_say_90 : decode prog_11_method_41_code 90 = .ok (.aload_n 0, 1) := by decide +kernel
theorem dX9_say_91 : decode prog_11_method_41_code 91 = .ok (.aload_n 0, 1) := by decide +kernel
theorem dX9_say_92 : decode prog_11_method_41_code 92 = .ok (.getfield 25, 3) := by decide +kernel
theorem dX9_say_95 : decode prog_11_method_41_code 95 = .ok (.aload_n 0, 1) := by decide +kernel
theorem dX9_say_96 : decode prog_11_method_41_code 96 = .ok (.getfield 28, 3) := by decide +kernel
theorem dX9_say_99 : decode prog_11_method_41_code 99 = .ok (.invokevirtual 244, 3) := by decide +kernel
theorem dX9_say_102 : decode prog_11_method_41_code 102 = .ok (.ireturn, 1) := by decide +kernel
theorem dX9_night_0 : decode prog_11_method_42_code 0 = .ok (.aload_n 0, 1) := by decide +kernel
theorem dX9_night_1 : decode prog_11_method_42_code 1 = .ok (.getfield 25, 3) := by decide +kernel
theorem dX9_night_4 : decode prog_11_method_42_code 4 = .ok (.iconst 1, 1) := by decide +kernel
theorem dX9_night_5 : decode prog_11_method_42_code 5 = .ok (.iaload, 1) := by decide +kernel
theorem dX9_night_6 : decode prog_11_method_42_code 6 = .ok (.sipush 999, 3) := by decide +kernel
theorem dX9_night_9 : decode prog_11_method_42_code 9 = .ok (.if_icmp .ne 6, 3) := by decide +kernel
theorem dX9_night_12 : decode prog_11_method_42_code 12 = .ok (.bipush (-5), 2) := by decide +kernel
theorem dX9_night_14 : decode prog_11_method_42_code 14 = .ok (.ireturn, 1) := by decide +kernel
theorem dX9_night_15 : decode prog_11_method_42_code 15 = .ok (.aload_n 0, 1) := by decide +kernel
theorem dX9_night_16 : decode prog_11_method_42_code 16 = .ok (.invokevirtual 241, 3) := by decide +kernel
theorem dX9_night_19 : decode prog_11_method_42_code 19 = .ok (.aload_n 0, 1) := by decide +kernel
theorem dX9_night_20 : decode prog_11_method_42_code 20 = .ok (.aload_n 0, 1) := by decide +kernel
theorem dX9_night_21 : decode prog_11_method_42_code 21 = .ok (.getfield 25, 3) := by decide +kernel
theorem dX9_night_24 : decode prog_11_method_42_code 24 = .ok (.invokevirtual 219, 3) := by decide +kernel
theorem dX9_night_27 : decode prog_11_method_42_code 27 = .ok (.aload_n 0, 1) := by decide +kernel
theorem dX9_night_28 : decode prog_11_method_42_code 28 = .ok (.aload_n 0, 1) := by decide +kernel
theorem dX9_night_29 : decode prog_11_method_42_code 29 = .ok (.getfield 25, 3) := by decide +kernel
theorem dX9_night_32 : decode prog_11_method_42_code 32 = .ok (.iconst 0, 1) := by decide +kernel
theorem dX9_night_33 : decode prog_11_method_42_code 33 = .ok (.iaload, 1) := by decide +kernel
theorem dX9_night_34 : decode prog_11_method_42_code 34 = .ok (.invokevirtual 248, 3) := by decide +kernel
theorem dX9_night_37 : decode prog_11_method_42_code 37 = .ok (.sipush 9999, 3) := by decide +kernel
theorem dX9_night_40 : decode prog_11_method_42_code 40 = .ok (.iadd, 1) := by decide +kernel
theorem dX9_night_41 : decode prog_11_method_42_code 41 = .ok (.ireturn, 1) := by decide +kernel
theorem dX9_undo_0 : decode prog_11_method_43_code 0 = .ok (.aload_n 0, 1) := by decide +kernel
theorem dX9_undo_1 : decode prog_11_method_43_code 1 = .ok (.getfield 63, 3) := by decide +kernel
theorem dX9_undo_4 : decode prog_11_method_43_code 4 = .ok (.ifCond .ne 6, 3) := by decide +kernel
theorem dX9_undo_7 : decode prog_11_method_43_code 7 = .ok (.bipush (-4), 2) := by decide +kernel
theorem dX9_undo_9 : decode prog_11_method_43_code 9 = .ok (.ireturn, 1) := by decide +kernel
theorem dX9_undo_10 : decode prog_11_method_43_code 10 = .ok (.aload_n 0, 1) := by decide +kernel
theorem dX9_undo_11 : decode prog_11_method_43_code 11 = .ok (.dup, 1) := by decide +kernel
theorem dX9_undo_12 : decode prog_11_method_43_code 12 = .ok (.getfield 63, 3) := by decide +kernel
theorem dX9_undo_15 : decode prog_11_method_43_code 15 = .ok (.iconst 1, 1) := by decide +kernel
theorem dX9_undo_16 : decode prog_11_method_43_code 16 = .ok (.isub, 1) := by decide +kernel
theorem dX9_undo_17 : decode prog_11_method_43_code 17 = .ok (.putfield 63, 3) := by decide +kernel
theorem dX9_undo_20 : decode prog_11_method_43_code 20 = .ok (.aload_n 0, 1) := by decide +kernel
theorem dX9_undo_21 : decode prog_11_method_43_code 21 = .ok (.getfield 44, 3) := by decide +kernel
theorem dX9_undo_24 : decode prog_11_method_43_code 24 = .ok (.bipush 32, 2) := by decide +kernel
theorem dX9_undo_26 : decode prog_11_method_43_code 26 = .ok (.aload_n 0, 1) := by decide +kernel
theorem dX9_undo_27 : decode prog_11_method_43_code 27 = .ok (.getfield 63, 3) := by decide +kernel
theorem dX9_undo_30 : decode prog_11_method_43_code 30 = .ok (.imul, 1) := by decide +kernel
theorem dX9_undo_31 : decode prog_11_method_43_code 31 = .ok (.aload_n 0, 1) := by decide +kernel
theorem dX9_undo_32 : decode prog_11_method_43_code 32 = .ok (.getfield 25, 3) := by decide +kernel
theorem dX9_undo_35 : decode prog_11_method_43_code 35 = .ok (.iconst 0, 1) := by decide +kernel
theorem dX9_undo_36 : decode prog_11_method_43_code 36 = .ok (.invokestatic 211, 3) := by decide +kernel
theorem dX9_undo_39 : decode prog_11_method_43_code 39 = .ok (.aload_n 0, 1) := by decide +kernel
theorem dX9_undo_40 : decode prog_11_method_43_code 40 = .ok (.getfield 63, 3) := by decide +kernel
theorem dX9_undo_43 : decode prog_11_method_43_code 43 = .ok (.ireturn, 1) := by decide +kernel
theorem dX9_keep_0 : decode prog_11_method_44_code 0 = .ok (.iload_n 1, 1) := by decide +kernel
theorem dX9_keep_1 : decode prog_11_method_44_code 1 = .ok (.iconst 0, 1) := by decide +kernel
theorem dX9_keep_2 : decode prog_11_method_44_code 2 = .ok (.iconst 1, 1) := by decide +kernel
theorem dX9_keep_3 : decode prog_11_method_44_code 3 = .ok (.invokestatic 69, 3) := by decide +kernel
theorem dX9_keep_6 : decode prog_11_method_44_code 6 = .ok (.ifCond .ne 6, 3) := by decide +kernel
theorem dX9_keep_9 : decode prog_11_method_44_code 9 = .ok (.bipush (-2), 2) := by decide +kernel
theorem dX9_keep_11 : decode prog_11_method_44_code 11 = .ok (.ireturn, 1) := by decide +kernel
theorem dX9_keep_12 : decode prog_11_method_44_code 12 = .ok (.aload_n 0, 1) := by decide +kernel
theorem dX9_keep_13 : decode prog_11_method_44_code 13 = .ok (.getfield 25, 3) := by decide +kernel
theorem dX9_keep_16 : decode prog_11_method_44_code 16 = .ok (.iconst 0, 1) := by decide +kernel
theorem dX9_keep_17 : decode prog_11_method_44_code 17 = .ok (.aload_n 0, 1) := by decide +kernel
theorem dX9_keep_18 : decode prog_11_method_44_code 18 = .ok (.getfield 37, 3) := by decide +kernel
theorem dX9_keep_21 : decode prog_11_method_44_code 21 = .ok (.bipush 32, 2) := by decide +kernel
theorem dX9_keep_23 : decode prog_11_method_44_code 23 = .ok (.iload_n 1, 1) := by decide +kernel
theorem dX9_keep_24 : decode prog_11_method_44_code 24 = .ok (.imul, 1) := by decide +kernel
theorem dX9_keep_25 : decode prog_11_method_44_code 25 = .ok (.invokestatic 211, 3) := by decide +kernel
theorem dX9_keep_28 : decode prog_11_method_44_code 28 = .ok (.aload_n 0, 1) := by decide +kernel
theorem dX9_keep_29 : decode prog_11_method_44_code 29 = .ok (.getfield 40, 3) := by decide +kernel
theorem dX9_keep_32 : decode prog_11_method_44_code 32 = .ok (.iload_n 1, 1) := by decide +kernel
theorem dX9_keep_33 : decode prog_11_method_44_code 33 = .ok (.iconst 1, 1) := by decide +kernel
theorem dX9_keep_34 : decode prog_11_method_44_code 34 = .ok (.bastore, 1) := by decide +kernel
theorem dX9_keep_35 : decode prog_11_method_44_code 35 = .ok (.aload_n 0, 1) := by decide +kernel
theorem dX9_keep_36 : decode prog_11_method_44_code 36 = .ok (.getfield 25, 3) := by decide +kernel
theorem dX9_keep_39 : decode prog_11_method_44_code 39 = .ok (.iconst 1, 1) := by decide +kernel
theorem dX9_keep_40 : decode prog_11_method_44_code 40 = .ok (.iaload, 1) := by decide +kernel
theorem dX9_keep_41 : decode prog_11_method_44_code 41 = .ok (.ireturn, 1) := by decide +kernel
theorem dX9_back_0 : decode prog_11_method_45_code 0 = .ok (.iload_n 1, 1) := by decide +kernel
theorem dX9_back_1 : decode prog_11_method_45_code 1 = .ok (.iconst 0, 1) := by decide +kernel
theorem dX9_back_2 : decode prog_11_method_45_code 2 = .ok (.iconst 1, 1) := by decide +kernel
theorem dX9_back_3 : decode prog_11_method_45_code 3 = .ok (.invokestatic 69, 3) := by decide +kernel
theorem dX9_back_6 : decode prog_11_method_45_code 6 = .ok (.ifCond .ne 6, 3) := by decide +kernel
theorem dX9_back_9 : decode prog_11_method_45_code 9 = .ok (.bipush (-2), 2) := by decide +kernel
theorem dX9_back_11 : decode prog_11_method_45_code 11 = .ok (.ireturn, 1) := by decide +kernel
theorem dX9_back_12 : decode prog_11_method_45_code 12 = .ok (.aload_n 0, 1) := by decide +kernel
theorem dX9_back_13 : decode prog_11_method_45_code 13 = .ok (.getfield 40, 3) := by decide +kernel
theorem dX9_back_16 : decode prog_11_method_45_code 16 = .ok (.iload_n 1, 1) := by decide +kernel
theorem dX9_back_17 : decode prog_11_method_45_code 17 = .ok (.baload, 1) := by decide +kernel
theorem dX9_back_18 : decode prog_11_method_45_code 18 = .ok (.ifCond .ne 6, 3) := by decide +kernel
theorem dX9_back_21 : decode prog_11_method_45_code 21 = .ok (.bipush (-4), 2) := by decide +kernel
theorem dX9_back_23 : decode prog_11_method_45_code 23 = .ok (.ireturn, 1) := by decide +kernel
theorem dX9_back_24 : decode prog_11_method_45_code 24 = .ok (.aload_n 0, 1) := by decide +kernel
theorem dX9_back_25 : decode prog_11_method_45_code 25 = .ok (.getfield 37, 3) := by decide +kernel
theorem dX9_back_28 : decode prog_11_method_45_code 28 = .ok (.bipush 32, 2) := by decide +kernel
theorem dX9_back_30 : decode prog_11_method_45_code 30 = .ok (.iload_n 1, 1) := by decide +kernel
theorem dX9_back_31 : decode prog_11_method_45_code 31 = .ok (.imul, 1) := by decide +kernel
theorem dX9_back_32 : decode prog_11_method_45_code 32 = .ok (.aload_n 0, 1) := by decide +kernel
theorem dX9_back_33 : decode prog_11_method_45_code 33 = .ok (.getfield 25, 3) := by decide +kernel
theorem dX9_back_36 : decode prog_11_method_45_code 36 = .ok (.iconst 0, 1) := by decide +kernel
theorem dX9_back_37 : decode prog_11_method_45_code 37 = .ok (.invokestatic 211, 3) := by decide +kernel
theorem dX9_back_40 : decode prog_11_method_45_code 40 = .ok (.aload_n 0, 1) := by decide +kernel
theorem dX9_back_41 : decode prog_11_method_45_code 41 = .ok (.iconst 0, 1) := by decide +kernel
theorem dX9_back_42 : decode prog_11_method_45_code 42 = .ok (.putfield 63, 3) := by decide +kernel
theorem dX9_back_45 : decode prog_11_method_45_code 45 = .ok (.aload_n 0, 1) := by decide +kernel
theorem dX9_back_46 : decode prog_11_method_45_code 46 = .ok (.getfield 25, 3) := by decide +kernel
theorem dX9_back_49 : decode prog_11_method_45_code 49 = .ok (.iconst 1, 1) := by decide +kernel
theorem dX9_back_50 : decode prog_11_method_45_code 50 = .ok (.iaload, 1) := by decide +kernel
theorem dX9_back_51 : decode prog_11_method_45_code 51 = .ok (.ireturn, 1) := by decide +kernel
theorem dX9_coming_0 : decode prog_11_method_46_code 0 = .ok (.iload_n 1, 1) := by decide +kernel
theorem dX9_coming_1 : decode prog_11_method_46_code 1 = .ok (.iconst 1, 1) := by decide +kernel
theorem dX9_coming_2 : decode prog_11_method_46_code 2 = .ok (.bipush 20, 2) := by decide +kernel
theorem dX9_coming_4 : decode prog_11_method_46_code 4 = .ok (.invokestatic 69, 3) := by decide +kernel
theorem dX9_coming_7 : decode prog_11_method_46_code 7 = .ok (.ifCond .eq 12, 3) := by decide +kernel
theorem dX9_coming_10 : decode prog_11_method_46_code 10 = .ok (.iload_n 2, 1) := by decide +kernel
theorem dX9_coming_11 : decode prog_11_method_46_code 11 = .ok (.iconst 0, 1) := by decide +kernel
theorem dX9_coming_12 : decode prog_11_method_46_code 12 = .ok (.iconst 1, 1) := by decide +kernel
theorem dX9_coming_13 : decode prog_11_method_46_code 13 = .ok (.invokestatic 69, 3) := by decide +kernel
theorem dX9_coming_16 : decode prog_11_method_46_code 16 = .ok (.ifCond .ne 6, 3) := by decide +kernel
theorem dX9_coming_19 : decode prog_11_method_46_code 19 = .ok (.bipush (-3), 2) := by decide +kernel
theorem dX9_coming_21 : decode prog_11_method_46_code 21 = .ok (.ireturn, 1) := by decide +kernel
theorem dX9_coming_22 : decode prog_11_method_46_code 22 = .ok (.aload_n 0, 1) := by decide +kernel
theorem dX9_coming_23 : decode prog_11_method_46_code 23 = .ok (.getfield 25, 3) := by decide +kernel
theorem dX9_coming_26 : decode prog_11_method_46_code 26 = .ok (.iconst 0, 1) := by decide +kernel
theorem dX9_coming_27 : decode prog_11_method_46_code 27 = .ok (.aload_n 0, 1) := by decide +kernel
theorem dX9_coming_28 : decode prog_11_method_46_code 28 = .ok (.getfield 28, 3) := by decide +kernel
theorem dX9_coming_31 : decode prog_11_method_46_code 31 = .ok (.iconst 0, 1) := by decide +kernel
theorem dX9_coming_32 : decode prog_11_method_46_code 32 = .ok (.invokestatic 211, 3) := by decide +kernel
theorem dX9_coming_35 : decode prog_11_method_46_code 35 = .ok (.iconst 0, 1) := by decide +kernel
theorem dX9_coming_36 : decode prog_11_method_46_code 36 = .ok (.istore_n 3, 1) := by decide +kernel
theorem dX9_coming_37 : decode prog_11_method_46_code 37 = .ok (.iload_n 3, 1) := by decide +kernel
theorem dX9_coming_38 : decode prog_11_method_46_code 38 = .ok (.iload_n 1, 1) := by decide +kernel
theorem dX9_coming_39 : decode prog_11_method_46_code 39 = .ok (.if_icmp .ge 17, 3) := by decide +kernel
theorem dX9_coming_42 : decode prog_11_method_46_code 42 = .ok (.aload_n 0, 1) := by decide +kernel
theorem dX9_coming_43 : decode prog_11_method_46_code 43 = .ok (.aload_n 0, 1) := by decide +kernel
theorem dX9_coming_44 : decode prog_11_method_46_code 44 = .ok (.getfield 28, 3) := by decide +kernel
theorem dX9_coming_47 : decode prog_11_method_46_code 47 = .ok (.invokevirtual 219, 3) := by decide +kernel
theorem dX9_coming_50 : decode prog_11_method_46_code 50 = .ok (.iinc 3 1, 3) := by decide +kernel
theorem dX9_coming_53 : decode prog_11_method_46_code 53 = .ok (.goto (-16), 3) := by decide +kernel
theorem dX9_coming_56 : decode prog_11_method_46_code 56 = .ok (.iload_n 2, 1) := by decide +kernel
theorem dX9_coming_57 : decode prog_11_method_46_code 57 = .ok (.ifCond .ne 12, 3) := by decide +kernel
theorem dX9_coming_60 : decode prog_11_method_46_code 60 = .ok (.aload_n 0, 1) := by decide +kernel
theorem dX9_coming_61 : decode prog_11_method_46_code 61 = .ok (.getfield 28, 3) := by decide +kernel
theorem dX9_coming_64 : decode prog_11_method_46_code 64 = .ok (.iconst 0, 1) := by decide +kernel
theorem dX9_coming_65 : decode prog_11_method_46_code 65 = .ok (.iaload, 1) := by decide +kernel
theorem dX9_coming_66 : decode prog_11_method_46_code 66 = .ok (.goto 17, 3) := by decide +kernel
theorem dX9_coming_69 : decode prog_11_method_46_code 69 = .ok (.aload_n 0, 1) := by decide +kernel
theorem dX9_coming_70 : decode prog_11_method_46_code 70 = .ok (.aload_n 0, 1) := by decide +kernel
theorem dX9_coming_71 : decode prog_11_method_46_code 71 = .ok (.getfield 28, 3) := by decide +kernel
theorem dX9_coming_74 : decode prog_11_method_46_code 74 = .ok (.iconst 0, 1) := by decide +kernel
theorem dX9_coming_75 : decode prog_11_method_46_code 75 = .ok (.iaload, 1) := by decide +kernel
theorem dX9_coming_76 : decode prog_11_method_46_code 76 = .ok (.invokevirtual 248, 3) := by decide +kernel
theorem dX9_coming_79 : decode prog_11_method_46_code 79 = .ok (.sipush 9999, 3) := by decide +kernel
theorem dX9_coming_82 : decode prog_11_method_46_code 82 = .ok (.iadd, 1) := by decide +kernel
theorem dX9_coming_83 : decode prog_11_method_46_code 83 = .ok (.ireturn, 1) := by decide +kernel
theorem dX9_isSentence_0 : decode prog_11_method_47_code 0 = .ok (.aload_n 0, 1) := by decide +kernel
theorem dX9_isSentence_1 : decode prog_11_method_47_code 1 = .ok (.iload_n 1, 1) := by decide +kernel
theorem dX9_isSentence_2 : decode prog_11_method_47_code 2 = .ok (.sipush 10000, 3) := by decide +kernel
theorem dX9_isSentence_5 : decode prog_11_method_47_code 5 = .ok (.idiv, 1) := by decide +kernel
theorem dX9_isSentence_6 : decode prog_11_method_47_code 6 = .ok (.iload_n 1, 1) := by decide +kernel
theorem dX9_isSentence_7 : decode prog_11_method_47_code 7 = .ok (.sipush 1000, 3) := by decide +kernel
theorem dX9_isSentence_10 : decode prog_11_method_47_code 10 = .ok (.idiv, 1) := by decide +kernel
theorem dX9_isSentence_11 : decode prog_11_method_47_code 11 = .ok (.bipush 10, 2) := by decide +kernel
theorem dX9_isSentence_13 : decode prog_11_method_47_code 13 = .ok (.irem, 1) := by decide +kernel
theorem dX9_isSentence_14 : decode prog_11_method_47_code 14 = .ok (.iload_n 1, 1) := by decide +kernel
theorem dX9_isSentence_15 : decode prog_11_method_47_code 15 = .ok (.bipush 100, 2) := by decide +kernel
theorem dX9_isSentence_17 : decode prog_11_method_47_code 17 = .ok (.idiv, 1) := by decide +kernel
theorem dX9_isSentence_18 : decode prog_11_method_47_code 18 = .ok (.bipush 10, 2) := by decide +kernel
theorem dX9_isSentence_20 : decode prog_11_method_47_code 20 = .ok (.irem, 1) := by decide +kernel
theorem dX9_isSentence_21 : decode prog_11_method_47_code 21 = .ok (.iload_n 1, 1) := by decide +kernel
theorem dX9_isSentence_22 : decode prog_11_method_47_code 22 = .ok (.bipush 10, 2) := by decide +kernel
theorem dX9_isSentence_24 : decode prog_11_method_47_code 24 = .ok (.idiv, 1) := by decide +kernel
theorem dX9_isSentence_25 : decode prog_11_method_47_code 25 = .ok (.bipush 10, 2) := by decide +kernel
theorem dX9_isSentence_27 : decode prog_11_method_47_code 27 = .ok (.irem, 1) := by decide +kernel
theorem dX9_isSentence_28 : decode prog_11_method_47_code 28 = .ok (.iload_n 1, 1) := by decide +kernel
theorem dX9_isSentence_29 : decode prog_11_method_47_code 29 = .ok (.bipush 10, 2) := by decide +kernel
theorem dX9_isSentence_31 : decode prog_11_method_47_code 31 = .ok (.irem, 1) := by decide +kernel
theorem dX9_isSentence_32 : decode prog_11_method_47_code 32 = .ok (.invokevirtual 223, 3) := by decide +kernel
theorem dX9_isSentence_35 : decode prog_11_method_47_code 35 = .ok (.aload_n 0, 1) := by decide +kernel
theorem dX9_isSentence_36 : decode prog_11_method_47_code 36 = .ok (.aload_n 0, 1) := by decide +kernel
theorem dX9_isSentence_37 : decode prog_11_method_47_code 37 = .ok (.getfield 192, 3) := by decide +kernel
theorem dX9_isSentence_40 : decode prog_11_method_47_code 40 = .ok (.aload_n 0, 1) := by decide +kernel
theorem dX9_isSentence_41 : decode prog_11_method_47_code 41 = .ok (.getfield 195, 3) := by decide +kernel
theorem dX9_isSentence_44 : decode prog_11_method_47_code 44 = .ok (.aload_n 0, 1) := by decide +kernel
theorem dX9_isSentence_45 : decode prog_11_method_47_code 45 = .ok (.getfield 198, 3) := by decide +kernel
theorem dX9_isSentence_48 : decode prog_11_method_47_code 48 = .ok (.aload_n 0, 1) := by decide +kernel
theorem dX9_isSentence_49 : decode prog_11_method_47_code 49 = .ok (.getfield 201, 3) := by decide +kernel
theorem dX9_isSentence_52 : decode prog_11_method_47_code 52 = .ok (.aload_n 0, 1) := by decide +kernel
theorem dX9_isSentence_53 : decode prog_11_method_47_code 53 = .ok (.getfield 204, 3) := by decide +kernel
theorem dX9_isSentence_56 : decode prog_11_method_47_code 56 = .ok (.invokevirtual 227, 3) := by decide +kernel
theorem dX9_isSentence_59 : decode prog_11_method_47_code 59 = .ok (.ifCond .ge 5, 3) := by decide +kernel
theorem dX9_isSentence_62 : decode prog_11_method_47_code 62 = .ok (.iconst 0, 1) := by decide +kernel
theorem dX9_isSentence_63 : decode prog_11_method_47_code 63 = .ok (.ireturn, 1) := by decide +kernel
theorem dX9_isSentence_64 : decode prog_11_method_47_code 64 = .ok (.aload_n 0, 1) := by decide +kernel
theorem dX9_isSentence_65 : decode prog_11_method_47_code 65 = .ok (.getfield 192, 3) := by decide +kernel
theorem dX9_isSentence_68 : decode prog_11_method_47_code 68 = .ok (.ifCond .eq 11, 3) := by decide +kernel
theorem dX9_isSentence_71 : decode prog_11_method_47_code 71 = .ok (.aload_n 0, 1) := by decide +kernel
theorem dX9_isSentence_72 : decode prog_11_method_47_code 72 = .ok (.getfield 192, 3) := by decide +kernel
theorem dX9_isSentence_75 : decode prog_11_method_47_code 75 = .ok (.iconst 4, 1) := by decide +kernel
theorem dX9_isSentence_76 : decode prog_11_method_47_code 76 = .ok (.if_icmp .ne 7, 3) := by decide +kernel
theorem dX9_isSentence_79 : decode prog_11_method_47_code 79 = .ok (.iconst 1, 1) := by decide +kernel
theorem dX9_isSentence_80 : decode prog_11_method_47_code 80 = .ok (.goto 4, 3) := by decide +kernel
theorem dX9_isSentence_83 : decode prog_11_method_47_code 83 = .ok (.iconst 0, 1) := by decide +kernel
theorem dX9_isSentence_84 : decode prog_11_method_47_code 84 = .ok (.istore_n 2, 1) := by decide +kernel
theorem dX9_isSentence_85 : decode prog_11_method_47_code 85 = .ok (.iload_n 2, 1) := by decide +kernel
theorem dX9_isSentence_86 : decode prog_11_method_47_code 86 = .ok (.ifCond .eq 17, 3) := by decide +kernel
theorem dX9_isSentence_89 : decode prog_11_method_47_code 89 = .ok (.aload_n 0, 1) := by decide +kernel
theorem dX9_isSentence_90 : decode prog_11_method_47_code 90 = .ok (.getfield 201, 3) := by decide +kernel
theorem dX9_isSentence_93 : decode prog_11_method_47_code 93 = .ok (.ifCond .ne 14, 3) := by decide +kernel
theorem dX9_isSentence_96 : decode prog_11_method_47_code 96 = .ok (.aload_n 0, 1) := by decide +kernel
theorem dX9_isSentence_97 : decode prog_11_method_47_code 97 = .ok (.getfield 204, 3) := by decide +kernel
theorem dX9_isSentence_100 : decode prog_11_method_47_code 100 = .ok (.ifCond .ne 7, 3) := by decide +kernel
theorem dX9_isSentence_103 : decode prog_11_method_47_code 103 = .ok (.iconst 1, 1) := by decide +kernel
theorem dX9_isSentence_104 : decode prog_11_method_47_code 104 = .ok (.goto 4, 3) := by decide +kernel
theorem dX9_isSentence_107 : decode prog_11_method_47_code 107 = .ok (.iconst 0, 1) := by decide +kernel
theorem dX9_isSentence_108 : decode prog_11_method_47_code 108 = .ok (.ireturn, 1) := by decide +kernel
theorem dX9_nextNumber_0 : decode prog_11_method_48_code 0 = .ok (.iload_n 0, 1) := by decide +kernel
theorem dX9_nextNumber_1 : decode prog_11_method_48_code 1 = .ok (.iconst 1, 1) := by decide +kernel
theorem dX9_nextNumber_2 : decode prog_11_method_48_code 2 = .ok (.iadd, 1) := by decide +kernel
theorem dX9_nextNumber_3 : decode prog_11_method_48_code 3 = .ok (.istore_n 1, 1) := by decide +kernel
theorem dX9_nextNumber_4 : decode prog_11_method_48_code 4 = .ok (.iload_n 1, 1) := by decide +kernel
theorem dX9_nextNumber_5 : decode prog_11_method_48_code 5 = .ok (.bipush 10, 2) := by decide +kernel
theorem dX9_nextNumber_7 : decode prog_11_method_48_code 7 = .ok (.irem, 1) := by decide +kernel
theorem dX9_nextNumber_8 : decode prog_11_method_48_code 8 = .ok (.iconst 1, 1) := by decide +kernel
theorem dX9_nextNumber_9 : decode prog_11_method_48_code 9 = .ok (.if_icmp .le 16, 3) := by decide +kernel
theorem dX9_nextNumber_12 : decode prog_11_method_48_code 12 = .ok (.iload_n 1, 1) := by decide +kernel
theorem dX9_nextNumber_13 : decode prog_11_method_48_code 13 = .ok (.bipush 10, 2) := by decide +kernel
theorem dX9_nextNumber_15 : decode prog_11_method_48_code 15 = .ok (.idiv, 1) := by decide +kernel
theorem dX9_nextNumber_16 : decode prog_11_method_48_code 16 = .ok (.bipush 10, 2) := by decide +kernel
theorem dX9_nextNumber_18 : decode prog_11_method_48_code 18 = .ok (.imul, 1) := by decide +kernel
theorem dX9_nextNumber_19 : decode prog_11_method_48_code 19 = .ok (.bipush 10, 2) := by decide +kernel
theorem dX9_nextNumber_21 : decode prog_11_method_48_code 21 = .ok (.iadd, 1) := by decide +kernel
theorem dX9_nextNumber_22 : decode prog_11_method_48_code 22 = .ok (.goto 4, 3) := by decide +kernel
theorem dX9_nextNumber_25 : decode prog_11_method_48_code 25 = .ok (.iload_n 1, 1) := by decide +kernel
theorem dX9_nextNumber_26 : decode prog_11_method_48_code 26 = .ok (.ireturn, 1) := by decide +kernel
theorem dX9_layBest_0 : decode prog_11_method_49_code 0 = .ok (.aload_n 1, 1) := by decide +kernel
theorem dX9_layBest_1 : decode prog_11_method_49_code 1 = .ok (.iconst 0, 1) := by decide +kernel
theorem dX9_layBest_2 : decode prog_11_method_49_code 2 = .ok (.aload_n 0, 1) := by decide +kernel
theorem dX9_layBest_3 : decode prog_11_method_49_code 3 = .ok (.getfield 28, 3) := by decide +kernel
theorem dX9_layBest_6 : decode prog_11_method_49_code 6 = .ok (.iconst 0, 1) := by decide +kernel
theorem dX9_layBest_7 : decode prog_11_method_49_code 7 = .ok (.invokestatic 211, 3) := by decide +kernel
theorem dX9_layBest_10 : decode prog_11_method_49_code 10 = .ok (.aload_n 0, 1) := by decide +kernel
theorem dX9_layBest_11 : decode prog_11_method_49_code 11 = .ok (.aload_n 0, 1) := by decide +kernel
theorem dX9_layBest_12 : decode prog_11_method_49_code 12 = .ok (.getfield 28, 3) := by decide +kernel
theorem dX9_layBest_15 : decode prog_11_method_49_code 15 = .ok (.invokevirtual 219, 3) := by decide +kernel
theorem dX9_layBest_18 : decode prog_11_method_49_code 18 = .ok (.aload_n 0, 1) := by decide +kernel
theorem dX9_layBest_19 : decode prog_11_method_49_code 19 = .ok (.aload_n 0, 1) := by decide +kernel
theorem dX9_layBest_20 : decode prog_11_method_49_code 20 = .ok (.aload_n 0, 1) := by decide +kernel
theorem dX9_layBest_21 : decode prog_11_method_49_code 21 = .ok (.getfield 28, 3) := by decide +kernel
theorem dX9_layBest_24 : decode prog_11_method_49_code 24 = .ok (.iconst 0, 1) := by decide +kernel
theorem dX9_layBest_25 : decode prog_11_method_49_code 25 = .ok (.iaload, 1) := by decide +kernel
theorem dX9_layBest_26 : decode prog_11_method_49_code 26 = .ok (.invokevirtual 248, 3) := by decide +kernel
theorem dX9_layBest_29 : decode prog_11_method_49_code 29 = .ok (.putfield 251, 3) := by decide +kernel
theorem dX9_layBest_32 : decode prog_11_method_49_code 32 = .ok (.aload_n 0, 1) := by decide +kernel
theorem dX9_layBest_33 : decode prog_11_method_49_code 33 = .ok (.iconst (-1), 1) := by decide +kernel
theorem dX9_layBest_34 : decode prog_11_method_49_code 34 = .ok (.putfield 254, 3) := by decide +kernel
theorem dX9_layBest_37 : decode prog_11_method_49_code 37 = .ok (.aload_n 0, 1) := by decide +kernel
theorem dX9_layBest_38 : decode prog_11_method_49_code 38 = .ok (.iconst 0, 1) := by decide +kernel
theorem dX9_layBest_39 : decode prog_11_method_49_code 39 = .ok (.putfield 257, 3) := by decide +kernel
theorem dX9_layBest_42 : decode prog_11_method_49_code 42 = .ok (.iconst 0, 1) := by decide +kernel
theorem dX9_layBest_43 : decode prog_11_method_49_code 43 = .ok (.istore_n 2, 1) := by decide +kernel
theorem dX9_layBest_44 : decode prog_11_method_49_code 44 = .ok (.iload_n 2, 1) := by decide +kernel
theorem dX9_layBest_45 : decode prog_11_method_49_code 45 = .ok (.ldc_w 260, 3) := by decide +kernel
theorem dX9_layBest_48 : decode prog_11_method_49_code 48 = .ok (.if_icmp .ge 111, 3) := by decide +kernel
theorem dX9_layBest_51 : decode prog_11_method_49_code 51 = .ok (.aload_n 0, 1) := by decide +kernel
theorem dX9_layBest_52 : decode prog_11_method_49_code 52 = .ok (.iload_n 2, 1) := by decide +kernel
theorem dX9_layBest_53 : decode prog_11_method_49_code 53 = .ok (.invokevirtual 261, 3) := by decide +kernel
theorem dX9_layBest_56 : decode prog_11_method_49_code 56 = .ok (.ifCond .ne 6, 3) := by decide +kernel
theorem dX9_layBest_59 : decode prog_11_method_49_code 59 = .ok (.goto 92, 3) := by decide +kernel
theorem dX9_layBest_62 : decode prog_11_method_49_code 62 = .ok (.iconst 1, 1) := by decide +kernel
theorem dX9_layBest_63 : decode prog_11_method_49_code 63 = .ok (.istore_n 3, 1) := by decide +kernel
theorem dX9_layBest_64 : decode prog_11_method_49_code 64 = .ok (.iload_n 3, 1) := by decide +kernel
theorem dX9_layBest_65 : decode prog_11_method_49_code 65 = .ok (.aload_n 0, 1) := by decide +kernel
theorem dX9_layBest_66 : decode prog_11_method_49_code 66 = .ok (.invokevirtual 234, 3) := by decide +kernel
theorem dX9_layBest_69 : decode prog_11_method_49_code 69 = .ok (.if_icmp .gt 82, 3) := by decide +kernel
theorem dX9_layBest_72 : decode prog_11_method_49_code 72 = .ok (.aload_n 0, 1) := by decide +kernel
theorem dX9_layBest_73 : decode prog_11_method_49_code 73 = .ok (.aload_n 1, 1) := by decide +kernel
theorem dX9_layBest_74 : decode prog_11_method_49_code 74 = .ok (.iload_n 3, 1) := by decide +kernel
theorem dX9_layBest_75 : decode prog_11_method_49_code 75 = .ok (.invokevirtual 237, 3) := by decide +kernel
theorem dX9_layBest_78 : decode prog_11_method_49_code 78 = .ok (.ifCond .eq 67, 3) := by decide +kernel
theorem dX9_layBest_81 : decode prog_11_method_49_code 81 = .ok (.aload_n 1, 1) := by decide +kernel
theorem dX9_layBest_82 : decode prog_11_method_49_code 82 = .ok (.iconst 0, 1) := by decide +kernel
theorem dX9_layBest_83 : decode prog_11_method_49_code 83 = .ok (.aload_n 0, 1) := by decide +kernel
theorem dX9_layBest_84 : decode prog_11_method_49_code 84 = .ok (.getfield 28, 3) := by decide +kernel
theorem dX9_layBest_87 : decode prog_11_method_49_code 87 = .ok (.iconst 0, 1) := by decide +kernel
theorem dX9_layBest_88 : decode prog_11_method_49_code 88 = .ok (.invokestatic 211, 3) := by decide +kernel
theorem dX9_layBest_91 : decode prog_11_method_49_code 91 = .ok (.aload_n 0, 1) := by decide +kernel
theorem dX9_layBest_92 : decode prog_11_method_49_code 92 = .ok (.aload_n 0, 1) := by decide +kernel
theorem dX9_layBest_93 : decode prog_11_method_49_code 93 = .ok (.getfield 28, 3) := by decide +kernel
theorem dX9_layBest_96 : decode prog_11_method_49_code 96 = .ok (.iload_n 3, 1) := by decide +kernel
theorem dX9_layBest_97 : decode prog_11_method_49_code 97 = .ok (.invokevirtual 215, 3) := by decide +kernel
theorem dX9_layBest_100 : decode prog_11_method_49_code 100 = .ok (.aload_n 0, 1) := by decide +kernel
theorem dX9_layBest_101 : decode prog_11_method_49_code 101 = .ok (.aload_n 0, 1) := by decide +kernel
theorem dX9_layBest_102 : decode prog_11_method_49_code 102 = .ok (.getfield 28, 3) := by decide +kernel
theorem dX9_layBest_105 : decode prog_11_method_49_code 105 = .ok (.invokevirtual 219, 3) := by decide +kernel
theorem dX9_layBest_108 : decode prog_11_method_49_code 108 = .ok (.aload_n 0, 1) := by decide +kernel
theorem dX9_layBest_109 : decode prog_11_method_49_code 109 = .ok (.aload_n 0, 1) := by decide +kernel
theorem dX9_layBest_110 : decode prog_11_method_49_code 110 = .ok (.getfield 28, 3) := by decide +kernel
theorem dX9_layBest_113 : decode prog_11_method_49_code 113 = .ok (.iconst 0, 1) := by decide +kernel
theorem dX9_layBest_114 : decode prog_11_method_49_code 114 = .ok (.iaload, 1) := by decide +kernel
theorem dX9_layBest_115 : decode prog_11_method_49_code 115 = .ok (.invokevirtual 248, 3) := by decide +kernel
theorem dX9_layBest_118 : decode prog_11_method_49_code 118 = .ok (.istore 4, 2) := by decide +kernel
theorem dX9_layBest_120 : decode prog_11_method_49_code 120 = .ok (.iload 4, 2) := by decide +kernel
theorem dX9_layBest_122 : decode prog_11_method_49_code 122 = .ok (.aload_n 0, 1) := by decide +kernel
theorem dX9_layBest_123 : decode prog_11_method_49_code 123 = .ok (.getfield 251, 3) := by decide +kernel
theorem dX9_layBest_126 : decode prog_11_method_49_code 126 = .ok (.if_icmp .le 19, 3) := by decide +kernel
theorem dX9_layBest_129 : decode prog_11_method_49_code 129 = .ok (.aload_n 0, 1) := by decide +kernel
theorem dX9_layBest_130 : decode prog_11_method_49_code 130 = .ok (.iload 4, 2) := by decide +kernel
theorem dX9_layBest_132 : decode prog_11_method_49_code 132 = .ok (.putfield 251, 3) := by decide +kernel
theorem dX9_layBest_135 : decode prog_11_method_49_code 135 = .ok (.aload_n 0, 1) := by decide +kernel
theorem dX9_layBest_136 : decode prog_11_method_49_code 136 = .ok (.iload_n 2, 1) := by decide +kernel
theorem dX9_layBest_137 : decode prog_11_method_49_code 137 = .ok (.putfield 254, 3) := by decide +kernel
theorem dX9_layBest_140 : decode prog_11_method_49_code 140 = .ok (.aload_n 0, 1) := by decide +kernel
theorem dX9_layBest_141 : decode prog_11_method_49_code 141 = .ok (.iload_n 3, 1) := by decide +kernel
theorem dX9_layBest_142 : decode prog_11_method_49_code 142 = .ok (.putfield 257, 3) := by decide +kernel
theorem dX9_layBest_145 : decode prog_11_method_49_code 145 = .ok (.iinc 3 1, 3) := by decide +kernel
theorem dX9_layBest_148 : decode prog_11_method_49_code 148 = .ok (.goto (-84), 3) := by decide +kernel
theorem dX9_layBest_151 : decode prog_11_method_49_code 151 = .ok (.iload_n 2, 1) := by decide +kernel
theorem dX9_layBest_152 : decode prog_11_method_49_code 152 = .ok (.invokestatic 264, 3) := by decide +kernel
theorem dX9_layBest_155 : decode prog_11_method_49_code 155 = .ok (.istore_n 2, 1) := by decide +kernel
theorem dX9_layBest_156 : decode prog_11_method_49_code 156 = .ok (.goto (-112), 3) := by decide +kernel
theorem dX9_layBest_159 : decode prog_11_method_49_code 159 = .ok (.return_, 1) := by decide +kernel
theorem dX9_best_0 : decode prog_11_method_50_code 0 = .ok (.iload_n 1, 1) := by decide +kernel
theorem dX9_best_1 : decode prog_11_method_50_code 1 = .ok (.iconst 0, 1) := by decide +kernel
theorem dX9_best_2 : decode prog_11_method_50_code 2 = .ok (.iconst 2, 1) := by decide +kernel
theorem dX9_best_3 : decode prog_11_method_50_code 3 = .ok (.invokestatic 69, 3) := by decide +kernel
theorem dX9_best_6 : decode prog_11_method_50_code 6 = .ok (.ifCond .ne 6, 3) := by decide +kernel
theorem dX9_best_9 : decode prog_11_method_50_code 9 = .ok (.bipush (-3), 2) := by decide +kernel
theorem dX9_best_11 : decode prog_11_method_50_code 11 = .ok (.ireturn, 1) := by decide +kernel
theorem dX9_best_12 : decode prog_11_method_50_code 12 = .ok (.aload_n 0, 1) := by decide +kernel
theorem dX9_best_13 : decode prog_11_method_50_code 13 = .ok (.aload_n 0, 1) := by decide +kernel
theorem dX9_best_14 : decode prog_11_method_50_code 14 = .ok (.getfield 25, 3) := by decide +kernel
theorem dX9_best_17 : decode prog_11_method_50_code 17 = .ok (.invokevirtual 267, 3) := by decide +kernel
theorem dX9_best_20 : decode prog_11_method_50_code 20 = .ok (.iload_n 1, 1) := by decide +kernel
theorem dX9_best_21 : decode prog_11_method_50_code 21 = .ok (.ifCond .ne 14, 3) := by decide +kernel
theorem dX9_best_24 : decode prog_11_method_50_code 24 = .ok (.aload_n 0, 1) := by decide +kernel
theorem dX9_best_25 : decode prog_11_method_50_code 25 = .ok (.getfield 251, 3) := by decide +kernel
theorem dX9_best_28 : decode prog_11_method_50_code 28 = .ok (.sipush 9999, 3) := by decide +kernel
theorem dX9_best_31 : decode prog_11_method_50_code 31 = .ok (.iadd, 1) := by decide +kernel
theorem dX9_best_32 : decode prog_11_method_50_code 32 = .ok (.goto 19, 3) := by decide +kernel
theorem dX9_best_35 : decode prog_11_method_50_code 35 = .ok (.iload_n 1, 1) := by decide +kernel
theorem dX9_best_36 : decode prog_11_method_50_code 36 = .ok (.iconst 1, 1) := by decide +kernel
theorem dX9_best_37 : decode prog_11_method_50_code 37 = .ok (.if_icmp .ne 10, 3) := by decide +kernel
theorem dX9_best_40 : decode prog_11_method_50_code 40 = .ok (.aload_n 0, 1) := by decide +kernel
theorem dX9_best_41 : decode prog_11_method_50_code 41 = .ok (.getfield 254, 3) := by decide +kernel
theorem dX9_best_44 : decode prog_11_method_50_code 44 = .ok (.goto 7, 3) := by decide +kernel
theorem dX9_best_47 : decode prog_11_method_50_code 47 = .ok (.aload_n 0, 1) := by decide +kernel
theorem dX9_best_48 : decode prog_11_method_50_code 48 = .ok (.getfield 257, 3) := by decide +kernel
theorem dX9_best_51 : decode prog_11_method_50_code 51 = .ok (.ireturn, 1) := by decide +kernel
theorem dX9_askOf_0 : decode prog_11_method_51_code 0 = .ok (.iconst 0, 1) := by decide +kernel
theorem dX9_askOf_1 : decode prog_11_method_51_code 1 = .ok (.istore 4, 2) := by decide +kernel
theorem dX9_askOf_3 : decode prog_11_method_51_code 3 = .ok (.iconst (-1), 1) := by decide +kernel
theorem dX9_askOf_4 : decode prog_11_method_51_code 4 = .ok (.istore 5, 2) := by decide +kernel
theorem dX9_askOf_6 : decode prog_11_method_51_code 6 = .ok (.iconst 0, 1) := by decide +kernel
theorem dX9_askOf_7 : decode prog_11_method_51_code 7 = .ok (.istore 6, 2) := by decide +kernel
theorem dX9_askOf_9 : decode prog_11_method_51_code 9 = .ok (.iload 6, 2) := by decide +kernel
theorem dX9_askOf_11 : decode prog_11_method_51_code 11 = .ok (.ldc_w 260, 3) := by decide +kernel
theorem dX9_askOf_14 : decode prog_11_method_51_code 14 = .ok (.if_icmp .ge 188, 3) := by decide +kernel
theorem dX9_askOf_17 : decode prog_11_method_51_code 17 = .ok (.aload_n 0, 1) := by decide +kernel
theorem dX9_askOf_18 : decode prog_11_method_51_code 18 = .ok (.iload 6, 2) := by decide +kernel
theorem dX9_askOf_20 : decode prog_11_method_51_code 20 = .ok (.invokevirtual 261, 3) := by decide +kernel
theorem dX9_askOf_23 : decode prog_11_method_51_code 23 = .ok (.ifCond .eq 169, 3) := by decide +kernel
theorem dX9_askOf_26 : decode prog_11_method_51_code 26 = .ok (.aload_n 0, 1) := by decide +kernel
theorem dX9_askOf_27 : decode prog_11_method_51_code 27 = .ok (.aload_n 0, 1) := by decide +kernel
theorem dX9_askOf_28 : decode prog_11_method_51_code 28 = .ok (.getfield 25, 3) := by decide +kernel
theorem dX9_askOf_31 : decode prog_11_method_51_code 31 = .ok (.iconst 1, 1) := by decide +kernel
theorem dX9_askOf_32 : decode prog_11_method_51_code 32 = .ok (.iload_n 1, 1) := by decide +kernel
theorem dX9_askOf_33 : decode prog_11_method_51_code 33 = .ok (.ishl, 1) := by decide +kernel
theorem dX9_askOf_34 : decode prog_11_method_51_code 34 = .ok (.invokevirtual 237, 3) := by decide +kernel
theorem dX9_askOf_37 : decode prog_11_method_51_code 37 = .ok (.ifCond .eq 155, 3) := by decide +kernel
theorem dX9_askOf_40 : decode prog_11_method_51_code 40 = .ok (.aload_n 0, 1) := by decide +kernel
theorem dX9_askOf_41 : decode prog_11_method_51_code 41 = .ok (.getfield 25, 3) := by decide +kernel
theorem dX9_askOf_44 : decode prog_11_method_51_code 44 = .ok (.iconst 0, 1) := by decide +kernel
theorem dX9_askOf_45 : decode prog_11_method_51_code 45 = .ok (.aload_n 0, 1) := by decide +kernel
theorem dX9_askOf_46 : decode prog_11_method_51_code 46 = .ok (.getfield 28, 3) := by decide +kernel
theorem dX9_askOf_49 : decode prog_11_method_51_code 49 = .ok (.iconst 0, 1) := by decide +kernel
theorem dX9_askOf_50 : decode prog_11_method_51_code 50 = .ok (.invokestatic 211, 3) := by decide +kernel
theorem dX9_askOf_53 : decode prog_11_method_51_code 53 = .ok (.aload_n 0, 1) := by decide +kernel
theorem dX9_askOf_54 : decode prog_11_method_51_code 54 = .ok (.aload_n 0, 1) := by decide +kernel
theorem dX9_askOf_55 : decode prog_11_method_51_code 55 = .ok (.getfield 28, 3) := by decide +kernel
theorem dX9_askOf_58 : decode prog_11_method_51_code 58 = .ok (.iconst 1, 1) := by decide +kernel
theorem dX9_askOf_59 : decode prog_11_method_51_code 59 = .ok (.iload_n 1, 1) := by decide +kernel
theorem dX9_askOf_60 : decode prog_11_method_51_code 60 = .ok (.ishl, 1) := by decide +kernel
theorem dX9_askOf_61 : decode prog_11_method_51_code 61 = .ok (.invokevirtual 215, 3) := by decide +kernel
theorem dX9_askOf_64 : decode prog_11_method_51_code 64 = .ok (.aload_n 0, 1) := by decide +kernel
theorem dX9_askOf_65 : decode prog_11_method_51_code 65 = .ok (.getfield 28, 3) := by decide +kernel
theorem dX9_askOf_68 : decode prog_11_method_51_code 68 = .ok (.iconst 2, 1) := by decide +kernel
theorem dX9_askOf_69 : decode prog_11_method_51_code 69 = .ok (.bipush 6, 2) := by decide +kernel
theorem dX9_askOf_71 : decode prog_11_method_51_code 71 = .ok (.iload_n 1, 1) := by decide +kernel
theorem dX9_askOf_72 : decode prog_11_method_51_code 72 = .ok (.imul, 1) := by decide +kernel
theorem dX9_askOf_73 : decode prog_11_method_51_code 73 = .ok (.iadd, 1) := by decide +kernel
theorem dX9_askOf_74 : decode prog_11_method_51_code 74 = .ok (.aload_n 0, 1) := by decide +kernel
theorem dX9_askOf_75 : decode prog_11_method_51_code 75 = .ok (.getfield 13, 3) := by decide +kernel
theorem dX9_askOf_78 : decode prog_11_method_51_code 78 = .ok (.bipush 6, 2) := by decide +kernel
theorem dX9_askOf_80 : decode prog_11_method_51_code 80 = .ok (.iload_n 1, 1) := by decide +kernel
theorem dX9_askOf_81 : decode prog_11_method_51_code 81 = .ok (.imul, 1) := by decide +kernel
theorem dX9_askOf_82 : decode prog_11_method_51_code 82 = .ok (.iconst 1, 1) := by decide +kernel
theorem dX9_askOf_83 : decode prog_11_method_51_code 83 = .ok (.iadd, 1) := by decide +kernel
theorem dX9_askOf_84 : decode prog_11_method_51_code 84 = .ok (.iaload, 1) := by decide +kernel
theorem dX9_askOf_85 : decode prog_11_method_51_code 85 = .ok (.iadd, 1) := by decide +kernel
theorem dX9_askOf_86 : decode prog_11_method_51_code 86 = .ok (.iaload, 1) := by decide +kernel
theorem dX9_askOf_87 : decode prog_11_method_51_code 87 = .ok (.aload_n 0, 1) := by decide +kernel
theorem dX9_askOf_88 : decode prog_11_method_51_code 88 = .ok (.getfield 13, 3) := by decide +kernel
theorem dX9_askOf_91 : decode prog_11_method_51_code 91 = .ok (.bipush 6, 2) := by decide +kernel
theorem dX9_askOf_93 : decode prog_11_method_51_code 93 = .ok (.iload_n 1, 1) := by decide +kernel
theorem dX9_askOf_94 : decode prog_11_method_51_code 94 = .ok (.imul, 1) := by decide +kernel
theorem dX9_askOf_95 : decode prog_11_method_51_code 95 = .ok (.iconst 2, 1) := by decide +kernel
theorem dX9_askOf_96 : decode prog_11_method_51_code 96 = .ok (.iadd, 1) := by decide +kernel
theorem dX9_askOf_97 : decode prog_11_method_51_code 97 = .ok (.iaload, 1) := by decide +kernel
theorem dX9_askOf_98 : decode prog_11_method_51_code 98 = .ok (.if_icmp .ne 7, 3) := by decide +kernel
theorem dX9_askOf_101 : decode prog_11_method_51_code 101 = .ok (.iconst 1, 1) := by decide +kernel
theorem dX9_askOf_102 : decode prog_11_method_51_code 102 = .ok (.goto 4, 3) := by decide +kernel
theorem dX9_askOf_105 : decode prog_11_method_51_code 105 = .ok (.iconst 0, 1) := by decide +kernel
theorem dX9_askOf_106 : decode prog_11_method_51_code 106 = .ok (.istore 7, 2) := by decide +kernel
theorem dX9_askOf_108 : decode prog_11_method_51_code 108 = .ok (.iload_n 2, 1) := by decide +kernel
theorem dX9_askOf_109 : decode prog_11_method_51_code 109 = .ok (.iconst 2, 1) := by decide +kernel
theorem dX9_askOf_110 : decode prog_11_method_51_code 110 = .ok (.if_icmp .ne 26, 3) := by decide +kernel
theorem dX9_askOf_113 : decode prog_11_method_51_code 113 = .ok (.aload_n 0, 1) := by decide +kernel
theorem dX9_askOf_114 : decode prog_11_method_51_code 114 = .ok (.aload_n 0, 1) := by decide +kernel
theorem dX9_askOf_115 : decode prog_11_method_51_code 115 = .ok (.getfield 28, 3) := by decide +kernel
theorem dX9_askOf_118 : decode prog_11_method_51_code 118 = .ok (.aload_n 0, 1) := by decide +kernel
theorem dX9_askOf_119 : decode prog_11_method_51_code 119 = .ok (.getfield 25, 3) := by decide +kernel
theorem dX9_askOf_122 : decode prog_11_method_51_code 122 = .ok (.invokevirtual 244, 3) := by decide +kernel
theorem dX9_askOf_125 : decode prog_11_method_51_code 125 = .ok (.ifCond .ne 7, 3) := by decide +kernel
theorem dX9_askOf_128 : decode prog_11_method_51_code 128 = .ok (.iconst 1, 1) := by decide +kernel
theorem dX9_askOf_129 : decode prog_11_method_51_code 129 = .ok (.goto 27, 3) := by decide +kernel
theorem dX9_askOf_132 : decode prog_11_method_51_code 132 = .ok (.iconst 0, 1) := by decide +kernel
theorem dX9_askOf_133 : decode prog_11_method_51_code 133 = .ok (.goto 23, 3) := by decide +kernel
theorem dX9_askOf_136 : decode prog_11_method_51_code 136 = .ok (.iload 7, 2) := by decide +kernel
theorem dX9_askOf_138 : decode prog_11_method_51_code 138 = .ok (.iload_n 2, 1) := by decide +kernel
theorem dX9_askOf_139 : decode prog_11_method_51_code 139 = .ok (.iconst 1, 1) := by decide +kernel
theorem dX9_askOf_140 : decode prog_11_method_51_code 140 = .ok (.if_icmp .ne 7, 3) := by decide +kernel
theorem dX9_askOf_143 : decode prog_11_method_51_code 143 = .ok (.iconst 1, 1) := by decide +kernel
theorem dX9_askOf_144 : decode prog_11_method_51_code 144 = .ok (.goto 4, 3) := by decide +kernel
theorem dX9_askOf_147 : decode prog_11_method_51_code 147 = .ok (.iconst 0, 1) := by decide +kernel
theorem dX9_askOf_148 : decode prog_11_method_51_code 148 = .ok (.if_icmp .ne 7, 3) := by decide +kernel
theorem dX9_askOf_151 : decode prog_11_method_51_code 151 = .ok (.iconst 1, 1) := by decide +kernel
theorem dX9_askOf_152 : decode prog_11_method_51_code 152 = .ok (.goto 4, 3) := by decide +kernel
theorem dX9_askOf_155 : decode prog_11_method_51_code 155 = .ok (.iconst 0, 1) := by decide +kernel
theorem dX9_askOf_156 : decode prog_11_method_51_code 156 = .ok (.istore 8, 2) := by decide +kernel
theorem dX9_askOf_158 : decode prog_11_method_51_code 158 = .ok (.iload 8, 2) := by decide +kernel
theorem dX9_askOf_160 : decode prog_11_method_51_code 160 = .ok (.ifCond .eq 13, 3) := by decide +kernel
theorem dX9_askOf_163 : decode prog_11_method_51_code 163 = .ok (.iload 4, 2) := by decide +kernel
theorem dX9_askOf_165 : decode prog_11_method_51_code 165 = .ok (.ifCond .ne 8, 3) := by decide +kernel
theorem dX9_askOf_168 : decode prog_11_method_51_code 168 = .ok (.iload 6, 2) := by decide +kernel
theorem dX9_askOf_170 : decode prog_11_method_51_code 170 = .ok (.goto 5, 3) := by decide +kernel
theorem dX9_askOf_173 : decode prog_11_method_51_code 173 = .ok (.iload 5, 2) := by decide +kernel
theorem dX9_askOf_175 : decode prog_11_method_51_code 175 = .ok (.istore 5, 2) := by decide +kernel
theorem dX9_askOf_177 : decode prog_11_method_51_code 177 = .ok (.iload 4, 2) := by decide +kernel
theorem dX9_askOf_179 : decode prog_11_method_51_code 179 = .ok (.iload 8, 2) := by decide +kernel
theorem dX9_askOf_181 : decode prog_11_method_51_code 181 = .ok (.ifCond .eq 7, 3) := by decide +kernel
theorem dX9_askOf_184 : decode prog_11_method_51_code 184 = .ok (.iconst 1, 1) := by decide +kernel
theorem dX9_askOf_185 : decode prog_11_method_51_code 185 = .ok (.goto 4, 3) := by decide +kernel
theorem dX9_askOf_188 : decode prog_11_method_51_code 188 = .ok (.iconst 0, 1) := by decide +kernel
theorem dX9_askOf_189 : decode prog_11_method_51_code 189 = .ok (.iadd, 1) := by decide +kernel
theorem dX9_askOf_190 : decode prog_11_method_51_code 190 = .ok (.istore 4, 2) := by decide +kernel
theorem dX9_askOf_192 : decode prog_11_method_51_code 192 = .ok (.iload 6, 2) := by decide +kernel
theorem dX9_askOf_194 : decode prog_11_method_51_code 194 = .ok (.invokestatic 264, 3) := by decide +kernel
theorem dX9_askOf_197 : decode prog_11_method_51_code 197 = .ok (.istore 6, 2) := by decide +kernel
theorem dX9_askOf_199 : decode prog_11_method_51_code 199 = .ok (.goto (-190), 3) := by decide +kernel
theorem dX9_askOf_202 : decode prog_11_method_51_code 202 = .ok (.iload_n 3, 1) := by decide +kernel
theorem dX9_askOf_203 : decode prog_11_method_51_code 203 = .ok (.ifCond .ne 8, 3) := by decide +kernel
theorem dX9_askOf_206 : decode prog_11_method_51_code 206 = .ok (.iload 4, 2) := by decide +kernel
theorem dX9_askOf_208 : decode prog_11_method_51_code 208 = .ok (.goto 5, 3) := by decide +kernel
theorem dX9_askOf_211 : decode prog_11_method_51_code 211 = .ok (.iload 5, 2) := by decide +kernel
theorem dX9_askOf_213 : decode prog_11_method_51_code 213 = .ok (.ireturn, 1) := by decide +kernel
theorem dX9_empty_0 : decode prog_11_method_52_code 0 = .ok (.aload_n 0, 1) := by decide +kernel
theorem dX9_empty_1 : decode prog_11_method_52_code 1 = .ok (.iload_n 1, 1) := by decide +kernel
theorem dX9_empty_2 : decode prog_11_method_52_code 2 = .ok (.invokevirtual 178, 3) := by decide +kernel
theorem dX9_empty_5 : decode prog_11_method_52_code 5 = .ok (.ifCond .ne 6, 3) := by decide +kernel
theorem dX9_empty_8 : decode prog_11_method_52_code 8 = .ok (.bipush (-2), 2) := by decide +kernel
theorem dX9_empty_10 : decode prog_11_method_52_code 10 = .ok (.ireturn, 1) := by decide +kernel
theorem dX9_empty_11 : decode prog_11_method_52_code 11 = .ok (.iload_n 2, 1) := by decide +kernel
theorem dX9_empty_12 : decode prog_11_method_52_code 12 = .ok (.iconst 0, 1) := by decide +kernel
theorem dX9_empty_13 : decode prog_11_method_52_code 13 = .ok (.iconst 1, 1) := by decide +kernel
theorem dX9_empty_14 : decode prog_11_method_52_code 14 = .ok (.invokestatic 69, 3) := by decide +kernel
theorem dX9_empty_17 : decode prog_11_method_52_code 17 = .ok (.ifCond .eq 13, 3) := by decide +kernel
theorem dX9_empty_20 : decode prog_11_method_52_code 20 = .ok (.aload_n 0, 1) := by decide +kernel
theorem dX9_empty_21 : decode prog_11_method_52_code 21 = .ok (.iload_n 1, 1) := by decide +kernel
theorem dX9_empty_22 : decode prog_11_method_52_code 22 = .ok (.iconst 2, 1) := by decide +kernel
theorem dX9_empty_23 : decode prog_11_method_52_code 23 = .ok (.iload_n 2, 1) := by decide +kernel
theorem dX9_empty_24 : decode prog_11_method_52_code 24 = .ok (.invokevirtual 270, 3) := by decide +kernel
theorem dX9_empty_27 : decode prog_11_method_52_code 27 = .ok (.goto 5, 3) := by decide +kernel
theorem dX9_empty_30 : decode prog_11_method_52_code 30 = .ok (.bipush (-3), 2) := by decide +kernel
theorem dX9_empty_32 : decode prog_11_method_52_code 32 = .ok (.ireturn, 1) := by decide +kernel
theorem dX9_said_0 : decode prog_11_method_53_code 0 = .ok (.aload_n 0, 1) := by decide +kernel
theorem dX9_said_1 : decode prog_11_method_53_code 1 = .ok (.iload_n 1, 1) := by decide +kernel
theorem dX9_said_2 : decode prog_11_method_53_code 2 = .ok (.invokevirtual 178, 3) := by decide +kernel
theorem dX9_said_5 : decode prog_11_method_53_code 5 = .ok (.ifCond .ne 6, 3) := by decide +kernel
theorem dX9_said_8 : decode prog_11_method_53_code 8 = .ok (.bipush (-2), 2) := by decide +kernel
theorem dX9_said_10 : decode prog_11_method_53_code 10 = .ok (.ireturn, 1) := by decide +kernel
theorem dX9_said_11 : decode prog_11_method_53_code 11 = .ok (.iload_n 2, 1) := by decide +kernel
theorem dX9_said_12 : decode prog_11_method_53_code 12 = .ok (.iconst 0, 1) := by decide +kernel
theorem dX9_said_13 : decode prog_11_method_53_code 13 = .ok (.iconst 1, 1) := by decide +kernel
theorem dX9_said_14 : decode prog_11_method_53_code 14 = .ok (.invokestatic 69, 3) := by decide +kernel
theorem dX9_said_17 : decode prog_11_method_53_code 17 = .ok (.ifCond .eq 22, 3) := by decide +kernel
theorem dX9_said_20 : decode prog_11_method_53_code 20 = .ok (.iload_n 3, 1) := by decide +kernel
theorem dX9_said_21 : decode prog_11_method_53_code 21 = .ok (.iconst 0, 1) := by decide +kernel
theorem dX9_said_22 : decode prog_11_method_53_code 22 = .ok (.iconst 1, 1) := by decide +kernel
theorem dX9_said_23 : decode prog_11_method_53_code 23 = .ok (.invokestatic 69, 3) := by decide +kernel
theorem dX9_said_26 : decode prog_11_method_53_code 26 = .ok (.ifCond .eq 13, 3) := by decide +kernel
theorem dX9_said_29 : decode prog_11_method_53_code 29 = .ok (.aload_n 0, 1) := by decide +kernel
theorem dX9_said_30 : decode prog_11_method_53_code 30 = .ok (.iload_n 1, 1) := by decide +kernel
theorem dX9_said_31 : decode prog_11_method_53_code 31 = .ok (.iload_n 2, 1) := by decide +kernel
theorem dX9_said_32 : decode prog_11_method_53_code 32 = .ok (.iload_n 3, 1) := by decide +kernel
theorem dX9_said_33 : decode prog_11_method_53_code 33 = .ok (.invokevirtual 270, 3) := by decide +kernel
theorem dX9_said_36 : decode prog_11_method_53_code 36 = .ok (.goto 5, 3) := by decide +kernel
theorem dX9_said_39 : decode prog_11_method_53_code 39 = .ok (.bipush (-3), 2) := by decide +kernel
theorem dX9_said_41 : decode prog_11_method_53_code 41 = .ok (.ireturn, 1) := by decide +kernel
theorem dX9_sumBy_0 : decode prog_11_method_54_code 0 = .ok (.aload_n 0, 1) := by decide +kernel
theorem dX9_sumBy_1 : decode prog_11_method_54_code 1 = .ok (.getfield 25, 3) := by decide +kernel
theorem dX9_sumBy_4 : decode prog_11_method_54_code 4 = .ok (.iconst 0, 1) := by decide +kernel
theorem dX9_sumBy_5 : decode prog_11_method_54_code 5 = .ok (.aload_n 0, 1) := by decide +kernel
theorem dX9_sumBy_6 : decode prog_11_method_54_code 6 = .ok (.getfield 28, 3) := by decide +kernel
theorem dX9_sumBy_9 : decode prog_11_method_54_code 9 = .ok (.iconst 0, 1) := by decide +kernel
theorem dX9_sumBy_10 : decode prog_11_method_54_code 10 = .ok (.invokestatic 211, 3) := by decide +kernel
theorem dX9_sumBy_13 : decode prog_11_method_54_code 13 = .ok (.aload_n 0, 1) := by decide +kernel
theorem dX9_sumBy_14 : decode prog_11_method_54_code 14 = .ok (.getfield 28, 3) := by decide +kernel
theorem dX9_sumBy_17 : decode prog_11_method_54_code 17 = .ok (.iconst 2, 1) := by decide +kernel
theorem dX9_sumBy_18 : decode prog_11_method_54_code 18 = .ok (.bipush 6, 2) := by decide +kernel
theorem dX9_sumBy_20 : decode prog_11_method_54_code 20 = .ok (.iload_n 1, 1) := by decide +kernel
theorem dX9_sumBy_21 : decode prog_11_method_54_code 21 = .ok (.imul, 1) := by decide +kernel
theorem dX9_sumBy_22 : decode prog_11_method_54_code 22 = .ok (.iadd, 1) := by decide +kernel
theorem dX9_sumBy_23 : decode prog_11_method_54_code 23 = .ok (.iload_n 3, 1) := by decide +kernel
theorem dX9_sumBy_24 : decode prog_11_method_54_code 24 = .ok (.iadd, 1) := by decide +kernel
theorem dX9_sumBy_25 : decode prog_11_method_54_code 25 = .ok (.iload 5, 2) := by decide +kernel
theorem dX9_sumBy_27 : decode prog_11_method_54_code 27 = .ok (.iconst 1, 1) := by decide +kernel
theorem dX9_sumBy_28 : decode prog_11_method_54_code 28 = .ok (.if_icmp .le 8, 3) := by decide +kernel
theorem dX9_sumBy_31 : decode prog_11_method_54_code 31 = .ok (.iload 4, 2) := by decide +kernel
theorem dX9_sumBy_33 : decode prog_11_method_54_code 33 = .ok (.goto 7, 3) := by decide +kernel
theorem dX9_sumBy_36 : decode prog_11_method_54_code 36 = .ok (.iconst 1, 1) := by decide +kernel
theorem dX9_sumBy_37 : decode prog_11_method_54_code 37 = .ok (.iload 4, 2) := by decide +kernel
theorem dX9_sumBy_39 : decode prog_11_method_54_code 39 = .ok (.isub, 1) := by decide +kernel
theorem dX9_sumBy_40 : decode prog_11_method_54_code 40 = .ok (.iastore, 1) := by decide +kernel
theorem dX9_sumBy_41 : decode prog_11_method_54_code 41 = .ok (.aload_n 0, 1) := by decide +kernel
theorem dX9_sumBy_42 : decode prog_11_method_54_code 42 = .ok (.getfield 28, 3) := by decide +kernel
theorem dX9_sumBy_45 : decode prog_11_method_54_code 45 = .ok (.iconst 2, 1) := by decide +kernel
theorem dX9_sumBy_46 : decode prog_11_method_54_code 46 = .ok (.bipush 6, 2) := by decide +kernel
theorem dX9_sumBy_48 : decode prog_11_method_54_code 48 = .ok (.iload_n 2, 1) := by decide +kernel
theorem dX9_sumBy_49 : decode prog_11_method_54_code 49 = .ok (.imul, 1) := by decide +kernel
theorem dX9_sumBy_50 : decode prog_11_method_54_code 50 = .ok (.iadd, 1) := by decide +kernel
theorem dX9_sumBy_51 : decode prog_11_method_54_code 51 = .ok (.iload_n 3, 1) := by decide +kernel
theorem dX9_sumBy_52 : decode prog_11_method_54_code 52 = .ok (.iadd, 1) := by decide +kernel
theorem dX9_sumBy_53 : decode prog_11_method_54_code 53 = .ok (.iload 5, 2) := by decide +kernel
theorem dX9_sumBy_55 : decode prog_11_method_54_code 55 = .ok (.iconst 2, 1) := by decide +kernel
theorem dX9_sumBy_56 : decode prog_11_method_54_code 56 = .ok (.irem, 1) := by decide +kernel
theorem dX9_sumBy_57 : decode prog_11_method_54_code 57 = .ok (.iconst 1, 1) := by decide +kernel
theorem dX9_sumBy_58 : decode prog_11_method_54_code 58 = .ok (.if_icmp .ne 8, 3) := by decide +kernel
theorem dX9_sumBy_61 : decode prog_11_method_54_code 61 = .ok (.iload 4, 2) := by decide +kernel
theorem dX9_sumBy_63 : decode prog_11_method_54_code 63 = .ok (.goto 7, 3) := by decide +kernel
theorem dX9_sumBy_66 : decode prog_11_method_54_code 66 = .ok (.iconst 1, 1) := by decide +kernel
theorem dX9_sumBy_67 : decode prog_11_method_54_code 67 = .ok (.iload 4, 2) := by decide +kernel
theorem dX9_sumBy_69 : decode prog_11_method_54_code 69 = .ok (.isub, 1) := by decide +kernel
theorem dX9_sumBy_70 : decode prog_11_method_54_code 70 = .ok (.iastore, 1) := by decide +kernel
theorem dX9_sumBy_71 : decode prog_11_method_54_code 71 = .ok (.aload_n 0, 1) := by decide +kernel
theorem dX9_sumBy_72 : decode prog_11_method_54_code 72 = .ok (.aload_n 0, 1) := by decide +kernel
theorem dX9_sumBy_73 : decode prog_11_method_54_code 73 = .ok (.getfield 28, 3) := by decide +kernel
theorem dX9_sumBy_76 : decode prog_11_method_54_code 76 = .ok (.invokevirtual 219, 3) := by decide +kernel
theorem dX9_sumBy_79 : decode prog_11_method_54_code 79 = .ok (.aload_n 0, 1) := by decide +kernel
theorem dX9_sumBy_80 : decode prog_11_method_54_code 80 = .ok (.aload_n 0, 1) := by decide +kernel
theorem dX9_sumBy_81 : decode prog_11_method_54_code 81 = .ok (.getfield 28, 3) := by decide +kernel
theorem dX9_sumBy_84 : decode prog_11_method_54_code 84 = .ok (.iconst 0, 1) := by decide +kernel
theorem dX9_sumBy_85 : decode prog_11_method_54_code 85 = .ok (.iaload, 1) := by decide +kernel
theorem dX9_sumBy_86 : decode prog_11_method_54_code 86 = .ok (.invokevirtual 248, 3) := by decide +kernel
theorem dX9_sumBy_89 : decode prog_11_method_54_code 89 = .ok (.ireturn, 1) := by decide +kernel
theorem dX9_rests_0 : decode prog_11_method_55_code 0 = .ok (.aload_n 0, 1) := by decide +kernel
theorem dX9_rests_1 : decode prog_11_method_55_code 1 = .ok (.iload_n 1, 1) := by decide +kernel
theorem dX9_rests_2 : decode prog_11_method_55_code 2 = .ok (.invokevirtual 178, 3) := by decide +kernel
theorem dX9_rests_5 : decode prog_11_method_55_code 5 = .ok (.ifCond .eq 24, 3) := by decide +kernel
theorem dX9_rests_8 : decode prog_11_method_55_code 8 = .ok (.aload_n 0, 1) := by decide +kernel
theorem dX9_rests_9 : decode prog_11_method_55_code 9 = .ok (.iload_n 2, 1) := by decide +kernel
theorem dX9_rests_10 : decode prog_11_method_55_code 10 = .ok (.invokevirtual 178, 3) := by decide +kernel
theorem dX9_rests_13 : decode prog_11_method_55_code 13 = .ok (.ifCond .eq 16, 3) := by decide +kernel
theorem dX9_rests_16 : decode prog_11_method_55_code 16 = .ok (.iload_n 1, 1) := by decide +kernel
theorem dX9_rests_17 : decode prog_11_method_55_code 17 = .ok (.iload_n 2, 1) := by decide +kernel
theorem dX9_rests_18 : decode prog_11_method_55_code 18 = .ok (.if_icmp .eq 11, 3) := by decide +kernel
theorem dX9_rests_21 : decode prog_11_method_55_code 21 = .ok (.aload_n 0, 1) := by decide +kernel
theorem dX9_rests_22 : decode prog_11_method_55_code 22 = .ok (.iload_n 3, 1) := by decide +kernel
theorem dX9_rests_23 : decode prog_11_method_55_code 23 = .ok (.invokevirtual 175, 3) := by decide +kernel
theorem dX9_rests_26 : decode prog_11_method_55_code 26 = .ok (.ifCond .ne 6, 3) := by decide +kernel
theorem dX9_rests_29 : decode prog_11_method_55_code 29 = .ok (.bipush (-2), 2) := by decide +kernel
theorem dX9_rests_31 : decode prog_11_method_55_code 31 = .ok (.ireturn, 1) := by decide +kernel
theorem dX9_rests_32 : decode prog_11_method_55_code 32 = .ok (.iload 4, 2) := by decide +kernel
theorem dX9_rests_34 : decode prog_11_method_55_code 34 = .ok (.iconst 0, 1) := by decide +kernel
theorem dX9_rests_35 : decode prog_11_method_55_code 35 = .ok (.iconst 1, 1) := by decide +kernel
theorem dX9_rests_36 : decode prog_11_method_55_code 36 = .ok (.invokestatic 69, 3) := by decide +kernel
theorem dX9_rests_39 : decode prog_11_method_55_code 39 = .ok (.ifCond .eq 13, 3) := by decide +kernel
theorem dX9_rests_42 : decode prog_11_method_55_code 42 = .ok (.iload 5, 2) := by decide +kernel
theorem dX9_rests_44 : decode prog_11_method_55_code 44 = .ok (.iconst 0, 1) := by decide +kernel
theorem dX9_rests_45 : decode prog_11_method_55_code 45 = .ok (.iconst 1, 1) := by decide +kernel
theorem dX9_rests_46 : decode prog_11_method_55_code 46 = .ok (.invokestatic 69, 3) := by decide +kernel
theorem dX9_rests_49 : decode prog_11_method_55_code 49 = .ok (.ifCond .ne 6, 3) := by decide +kernel
theorem dX9_rests_52 : decode prog_11_method_55_code 52 = .ok (.bipush (-3), 2) := by decide +kernel
theorem dX9_rests_54 : decode prog_11_method_55_code 54 = .ok (.ireturn, 1) := by decide +kernel
theorem dX9_rests_55 : decode prog_11_method_55_code 55 = .ok (.iconst 0, 1) := by decide +kernel
theorem dX9_rests_56 : decode prog_11_method_55_code 56 = .ok (.istore 6, 2) := by decide +kernel
theorem dX9_rests_58 : decode prog_11_method_55_code 58 = .ok (.iconst (-1), 1) := by decide +kernel
theorem dX9_rests_59 : decode prog_11_method_55_code 59 = .ok (.istore 7, 2) := by decide +kernel
theorem dX9_rests_61 : decode prog_11_method_55_code 61 = .ok (.iconst 3, 1) := by decide +kernel
theorem dX9_rests_62 : decode prog_11_method_55_code 62 = .ok (.istore 8, 2) := by decide +kernel
theorem dX9_rests_64 : decode prog_11_method_55_code 64 = .ok (.iload 8, 2) := by decide +kernel
theorem dX9_rests_66 : decode prog_11_method_55_code 66 = .ok (.ifCond .lt 65, 3) := by decide +kernel
theorem dX9_rests_69 : decode prog_11_method_55_code 69 = .ok (.aload_n 0, 1) := by decide +kernel
theorem dX9_rests_70 : decode prog_11_method_55_code 70 = .ok (.iload_n 1, 1) := by decide +kernel
theorem dX9_rests_71 : decode prog_11_method_55_code 71 = .ok (.iload_n 2, 1) := by decide +kernel
theorem dX9_rests_72 : decode prog_11_method_55_code 72 = .ok (.iload_n 3, 1) := by decide +kernel
theorem dX9_rests_73 : decode prog_11_method_55_code 73 = .ok (.iload 4, 2) := by decide +kernel
theorem dX9_rests_75 : decode prog_11_method_55_code 75 = .ok (.iload 8, 2) := by decide +kernel
theorem dX9_rests_77 : decode prog_11_method_55_code 77 = .ok (.invokevirtual 274, 3) := by decide +kernel
theorem dX9_rests_80 : decode prog_11_method_55_code 80 = .ok (.istore 9, 2) := by decide +kernel
theorem dX9_rests_82 : decode prog_11_method_55_code 82 = .ok (.aload_n 0, 1) := by decide +kernel
theorem dX9_rests_83 : decode prog_11_method_55_code 83 = .ok (.iload_n 1, 1) := by decide +kernel
theorem dX9_rests_84 : decode prog_11_method_55_code 84 = .ok (.iload_n 2, 1) := by decide +kernel
theorem dX9_rests_85 : decode prog_11_method_55_code 85 = .ok (.iload_n 3, 1) := by decide +kernel
theorem dX9_rests_86 : decode prog_11_method_55_code 86 = .ok (.iload 4, 2) := by decide +kernel
theorem dX9_rests_88 : decode prog_11_method_55_code 88 = .ok (.iload 8, 2) := by decide +kernel
theorem dX9_rests_90 : decode prog_11_method_55_code 90 = .ok (.iconst 2, 1) := by decide +kernel
theorem dX9_rests_91 : decode prog_11_method_55_code 91 = .ok (.ixor, 1) := by decide +kernel
theorem dX9_rests_92 : decode prog_11_method_55_code 92 = .ok (.invokevirtual 274, 3) := by decide +kernel
theorem dX9_rests_95 : decode prog_11_method_55_code 95 = .ok (.iload 9, 2) := by decide +kernel
theorem dX9_rests_97 : decode prog_11_method_55_code 97 = .ok (.if_icmp .gt 28, 3) := by decide +kernel
theorem dX9_rests_100 : decode prog_11_method_55_code 100 = .ok (.aload_n 0, 1) := by decide +kernel
theorem dX9_rests_101 : decode prog_11_method_55_code 101 = .ok (.iload_n 1, 1) := by decide +kernel
theorem dX9_rests_102 : decode prog_11_method_55_code 102 = .ok (.iload_n 2, 1) := by decide +kernel
theorem dX9_rests_103 : decode prog_11_method_55_code 103 = .ok (.iload_n 3, 1) := by decide +kernel
theorem dX9_rests_104 : decode prog_11_method_55_code 104 = .ok (.iload 4, 2) := by decide +kernel
theorem dX9_rests_106 : decode prog_11_method_55_code 106 = .ok (.iload 8, 2) := by decide +kernel
theorem dX9_rests_108 : decode prog_11_method_55_code 108 = .ok (.iconst 1, 1) := by decide +kernel
theorem dX9_rests_109 : decode prog_11_method_55_code 109 = .ok (.ixor, 1) := by decide +kernel
theorem dX9_rests_110 : decode prog_11_method_55_code 110 = .ok (.invokevirtual 274, 3) := by decide +kernel
theorem dX9_rests_113 : decode prog_11_method_55_code 113 = .ok (.iload 9, 2) := by decide +kernel
theorem dX9_rests_115 : decode prog_11_method_55_code 115 = .ok (.if_icmp .gt 10, 3) := by decide +kernel
theorem dX9_rests_118 : decode prog_11_method_55_code 118 = .ok (.iinc 6 1, 3) := by decide +kernel
theorem dX9_rests_121 : decode prog_11_method_55_code 121 = .ok (.iload 8, 2) := by decide +kernel
theorem dX9_rests_123 : decode prog_11_method_55_code 123 = .ok (.istore 7, 2) := by decide +kernel
theorem dX9_rests_125 : decode prog_11_method_55_code 125 = .ok (.iinc 8 (-1), 3) := by decide +kernel
theorem dX9_rests_128 : decode prog_11_method_55_code 128 = .ok (.goto (-64), 3) := by decide +kernel
theorem dX9_rests_131 : decode prog_11_method_55_code 131 = .ok (.iload 5, 2) := by decide +kernel
theorem dX9_rests_133 : decode prog_11_method_55_code 133 = .ok (.ifCond .ne 8, 3) := by decide +kernel
theorem dX9_rests_136 : decode prog_11_method_55_code 136 = .ok (.iload 6, 2) := by decide +kernel
theorem dX9_rests_138 : decode prog_11_method_55_code 138 = .ok (.goto 5, 3) := by decide +kernel
theorem dX9_rests_141 : decode prog_11_method_55_code 141 = .ok (.iload 7, 2) := by decide +kernel
theorem dX9_rests_143 : decode prog_11_method_55_code 143 = .ok (.ireturn, 1) := by decide +kernel
theorem dX9_bet_0 : decode prog_11_method_56_code 0 = .ok (.aload_n 0, 1) := by decide +kernel
theorem dX9_bet_1 : decode prog_11_method_56_code 1 = .ok (.iload_n 1, 1) := by decide +kernel
theorem dX9_bet_2 : decode prog_11_method_56_code 2 = .ok (.invokevirtual 175, 3) := by decide +kernel
theorem dX9_bet_5 : decode prog_11_method_56_code 5 = .ok (.ifCond .ne 6, 3) := by decide +kernel
theorem dX9_bet_8 : decode prog_11_method_56_code 8 = .ok (.bipush (-2), 2) := by decide +kernel
theorem dX9_bet_10 : decode prog_11_method_56_code 10 = .ok (.ireturn, 1) := by decide +kernel
theorem dX9_bet_11 : decode prog_11_method_56_code 11 = .ok (.iload_n 2, 1) := by decide +kernel
theorem dX9_bet_12 : decode prog_11_method_56_code 12 = .ok (.iconst 0, 1) := by decide +kernel
theorem dX9_bet_13 : decode prog_11_method_56_code 13 = .ok (.bipush 99, 2) := by decide +kernel
theorem dX9_bet_15 : decode prog_11_method_56_code 15 = .ok (.invokestatic 69, 3) := by decide +kernel
theorem dX9_bet_18 : decode prog_11_method_56_code 18 = .ok (.ifCond .ne 6, 3) := by decide +kernel
theorem dX9_bet_21 : decode prog_11_method_56_code 21 = .ok (.bipush (-3), 2) := by decide +kernel
theorem dX9_bet_23 : decode prog_11_method_56_code 23 = .ok (.ireturn, 1) := by decide +kernel
theorem dX9_bet_24 : decode prog_11_method_56_code 24 = .ok (.aload_n 0, 1) := by decide +kernel
theorem dX9_bet_25 : decode prog_11_method_56_code 25 = .ok (.getfield 66, 3) := by decide +kernel
theorem dX9_bet_28 : decode prog_11_method_56_code 28 = .ok (.iconst 5, 1) := by decide +kernel
theorem dX9_bet_29 : decode prog_11_method_56_code 29 = .ok (.if_icmp .ne 6, 3) := by decide +kernel
theorem dX9_bet_32 : decode prog_11_method_56_code 32 = .ok (.bipush (-5), 2) := by decide +kernel
theorem dX9_bet_34 : decode prog_11_method_56_code 34 = .ok (.ireturn, 1) := by decide +kernel
theorem dX9_bet_35 : decode prog_11_method_56_code 35 = .ok (.aload_n 0, 1) := by decide +kernel
theorem dX9_bet_36 : decode prog_11_method_56_code 36 = .ok (.getfield 47, 3) := by decide +kernel
theorem dX9_bet_39 : decode prog_11_method_56_code 39 = .ok (.iconst 2, 1) := by decide +kernel
theorem dX9_bet_40 : decode prog_11_method_56_code 40 = .ok (.aload_n 0, 1) := by decide +kernel
theorem dX9_bet_41 : decode prog_11_method_56_code 41 = .ok (.getfield 66, 3) := by decide +kernel
theorem dX9_bet_44 : decode prog_11_method_56_code 44 = .ok (.imul, 1) := by decide +kernel
theorem dX9_bet_45 : decode prog_11_method_56_code 45 = .ok (.iload_n 1, 1) := by decide +kernel
theorem dX9_bet_46 : decode prog_11_method_56_code 46 = .ok (.iastore, 1) := by decide +kernel
theorem dX9_bet_47 : decode prog_11_method_56_code 47 = .ok (.aload_n 0, 1) := by decide +kernel
theorem dX9_bet_48 : decode prog_11_method_56_code 48 = .ok (.getfield 47, 3) := by decide +kernel
theorem dX9_bet_51 : decode prog_11_method_56_code 51 = .ok (.iconst 2, 1) := by decide +kernel
theorem dX9_bet_52 : decode prog_11_method_56_code 52 = .ok (.aload_n 0, 1) := by decide +kernel
theorem dX9_bet_53 : decode prog_11_method_56_code 53 = .ok (.getfield 66, 3) := by decide +kernel
theorem dX9_bet_56 : decode prog_11_method_56_code 56 = .ok (.imul, 1) := by decide +kernel
theorem dX9_bet_57 : decode prog_11_method_56_code 57 = .ok (.iconst 1, 1) := by decide +kernel
theorem dX9_bet_58 : decode prog_11_method_56_code 58 = .ok (.iadd, 1) := by decide +kernel
theorem dX9_bet_59 : decode prog_11_method_56_code 59 = .ok (.iload_n 2, 1) := by decide +kernel
theorem dX9_bet_60 : decode prog_11_method_56_code 60 = .ok (.iastore, 1) := by decide +kernel
theorem dX9_bet_61 : decode prog_11_method_56_code 61 = .ok (.aload_n 0, 1) := by decide +kernel
theorem dX9_bet_62 : decode prog_11_method_56_code 62 = .ok (.dup, 1) := by decide +kernel
theorem dX9_bet_63 : decode prog_11_method_56_code 63 = .ok (.getfield 66, 3) := by decide +kernel
theorem dX9_bet_66 : decode prog_11_method_56_code 66 = .ok (.iconst 1, 1) := by decide +kernel
theorem dX9_bet_67 : decode prog_11_method_56_code 67 = .ok (.iadd, 1) := by decide +kernel
theorem dX9_bet_68 : decode prog_11_method_56_code 68 = .ok (.putfield 66, 3) := by decide +kernel
theorem dX9_bet_71 : decode prog_11_method_56_code 71 = .ok (.aload_n 0, 1) := by decide +kernel
theorem dX9_bet_72 : decode prog_11_method_56_code 72 = .ok (.getfield 66, 3) := by decide +kernel
theorem dX9_bet_75 : decode prog_11_method_56_code 75 = .ok (.ireturn, 1) := by decide +kernel
theorem dX9_call_0 : decode prog_11_method_57_code 0 = .ok (.aload_n 0, 1) := by decide +kernel
theorem dX9_call_1 : decode prog_11_method_57_code 1 = .ok (.getfield 66, 3) := by decide +kernel
theorem dX9_call_4 : decode prog_11_method_57_code 4 = .ok (.istore_n 1, 1) := by decide +kernel
theorem dX9_call_5 : decode prog_11_method_57_code 5 = .ok (.aload_n 0, 1) := by decide +kernel
theorem dX9_call_6 : decode prog_11_method_57_code 6 = .ok (.iconst 0, 1) := by decide +kernel
theorem dX9_call_7 : decode prog_11_method_57_code 7 = .ok (.putfield 66, 3) := by decide +kernel
theorem dX9_call_10 : decode prog_11_method_57_code 10 = .ok (.iload_n 1, 1) := by decide +kernel
theorem dX9_call_11 : decode prog_11_method_57_code 11 = .ok (.ireturn, 1) := by decide +kernel
theorem dX9_layCanBe_0 : decode prog_11_method_58_code 0 = .ok (.iconst 0, 1) := by decide +kernel
theorem dX9_layCanBe_1 : decode prog_11_method_58_code 1 = .ok (.istore_n 1, 1) := by decide +kernel
theorem dX9_layCanBe_2 : decode prog_11_method_58_code 2 = .ok (.iload_n 1, 1) := by decide +kernel
theorem dX9_layCanBe_3 : decode prog_11_method_58_code 3 = .ok (.bipush 64, 2) := by decide +kernel
theorem dX9_layCanBe_5 : decode prog_11_method_58_code 5 = .ok (.if_icmp .ge 16, 3) := by decide +kernel
theorem dX9_layCanBe_8 : decode prog_11_method_58_code 8 = .ok (.aload_n 0, 1) := by decide +kernel
theorem dX9_layCanBe_9 : decode prog_11_method_58_code 9 = .ok (.getfield 50, 3) := by decide +kernel
theorem dX9_layCanBe_12 : decode prog_11_method_58_code 12 = .ok (.iload_n 1, 1) := by decide +kernel
theorem dX9_layCanBe_13 : decode prog_11_method_58_code 13 = .ok (.iconst 0, 1) := by decide +kernel
theorem dX9_layCanBe_14 : decode prog_11_method_58_code 14 = .ok (.bastore, 1) := by decide +kernel
theorem dX9_layCanBe_15 : decode prog_11_method_58_code 15 = .ok (.iinc 1 1, 3) := by decide +kernel
theorem dX9_layCanBe_18 : decode prog_11_method_58_code 18 = .ok (.goto (-16), 3) := by decide +kernel
theorem dX9_layCanBe_21 : decode prog_11_method_58_code 21 = .ok (.aload_n 0, 1) := by decide +kernel
theorem dX9_layCanBe_22 : decode prog_11_method_58_code 22 = .ok (.getfield 25, 3) := by decide +kernel
theorem dX9_layCanBe_25 : decode prog_11_method_58_code 25 = .ok (.iconst 0, 1) := by decide +kernel
theorem dX9_layCanBe_26 : decode prog_11_method_58_code 26 = .ok (.aload_n 0, 1) := by decide +kernel
theorem dX9_layCanBe_27 : decode prog_11_method_58_code 27 = .ok (.getfield 28, 3) := by decide +kernel
theorem dX9_layCanBe_30 : decode prog_11_method_58_code 30 = .ok (.iconst 0, 1) := by decide +kernel
theorem dX9_layCanBe_31 : decode prog_11_method_58_code 31 = .ok (.invokestatic 211, 3) := by decide +kernel
theorem dX9_layCanBe_34 : decode prog_11_method_58_code 34 = .ok (.aload_n 0, 1) := by decide +kernel
theorem dX9_layCanBe_35 : decode prog_11_method_58_code 35 = .ok (.aload_n 0, 1) := by decide +kernel
theorem dX9_layCanBe_36 : decode prog_11_method_58_code 36 = .ok (.getfield 28, 3) := by decide +kernel
theorem dX9_layCanBe_39 : decode prog_11_method_58_code 39 = .ok (.invokevirtual 219, 3) := by decide +kernel
theorem dX9_layCanBe_42 : decode prog_11_method_58_code 42 = .ok (.aload_n 0, 1) := by decide +kernel
theorem dX9_layCanBe_43 : decode prog_11_method_58_code 43 = .ok (.getfield 50, 3) := by decide +kernel
theorem dX9_layCanBe_46 : decode prog_11_method_58_code 46 = .ok (.aload_n 0, 1) := by decide +kernel
theorem dX9_layCanBe_47 : decode prog_11_method_58_code 47 = .ok (.getfield 28, 3) := by decide +kernel
theorem dX9_layCanBe_50 : decode prog_11_method_58_code 50 = .ok (.iconst 0, 1) := by decide +kernel
theorem dX9_layCanBe_51 : decode prog_11_method_58_code 51 = .ok (.iaload, 1) := by decide +kernel
theorem dX9_layCanBe_52 : decode prog_11_method_58_code 52 = .ok (.iconst 1, 1) := by decide +kernel
theorem dX9_layCanBe_53 : decode prog_11_method_58_code 53 = .ok (.bastore, 1) := by decide +kernel
theorem dX9_layCanBe_54 : decode prog_11_method_58_code 54 = .ok (.iconst 0, 1) := by decide +kernel
theorem dX9_layCanBe_55 : decode prog_11_method_58_code 55 = .ok (.istore_n 1, 1) := by decide +kernel
theorem dX9_layCanBe_56 : decode prog_11_method_58_code 56 = .ok (.iload_n 1, 1) := by decide +kernel
theorem dX9_layCanBe_57 : decode prog_11_method_58_code 57 = .ok (.ldc_w 260, 3) := by decide +kernel
theorem dX9_layCanBe_60 : decode prog_11_method_58_code 60 = .ok (.if_icmp .ge 93, 3) := by decide +kernel
theorem dX9_layCanBe_63 : decode prog_11_method_58_code 63 = .ok (.iconst 0, 1) := by decide +kernel
theorem dX9_layCanBe_64 : decode prog_11_method_58_code 64 = .ok (.istore_n 2, 1) := by decide +kernel
theorem dX9_layCanBe_65 : decode prog_11_method_58_code 65 = .ok (.iload_n 2, 1) := by decide +kernel
theorem dX9_layCanBe_66 : decode prog_11_method_58_code 66 = .ok (.aload_n 0, 1) := by decide +kernel
theorem dX9_layCanBe_67 : decode prog_11_method_58_code 67 = .ok (.getfield 73, 3) := by decide +kernel
theorem dX9_layCanBe_70 : decode prog_11_method_58_code 70 = .ok (.if_icmp .ge 75, 3) := by decide +kernel
theorem dX9_layCanBe_73 : decode prog_11_method_58_code 73 = .ok (.aload_n 0, 1) := by decide +kernel
theorem dX9_layCanBe_74 : decode prog_11_method_58_code 74 = .ok (.iload_n 1, 1) := by decide +kernel
theorem dX9_layCanBe_75 : decode prog_11_method_58_code 75 = .ok (.invokevirtual 261, 3) := by decide +kernel
theorem dX9_layCanBe_78 : decode prog_11_method_58_code 78 = .ok (.ifCond .eq 67, 3) := by decide +kernel
theorem dX9_layCanBe_81 : decode prog_11_method_58_code 81 = .ok (.aload_n 0, 1) := by decide +kernel
theorem dX9_layCanBe_82 : decode prog_11_method_58_code 82 = .ok (.aload_n 0, 1) := by decide +kernel
theorem dX9_layCanBe_83 : decode prog_11_method_58_code 83 = .ok (.getfield 25, 3) := by decide +kernel
theorem dX9_layCanBe_86 : decode prog_11_method_58_code 86 = .ok (.iconst 1, 1) := by decide +kernel
theorem dX9_layCanBe_87 : decode prog_11_method_58_code 87 = .ok (.iload_n 2, 1) := by decide +kernel
theorem dX9_layCanBe_88 : decode prog_11_method_58_code 88 = .ok (.ishl, 1) := by decide +kernel
theorem dX9_layCanBe_89 : decode prog_11_method_58_code 89 = .ok (.invokevirtual 237, 3) := by decide +kernel
theorem dX9_layCanBe_92 : decode prog_11_method_58_code 92 = .ok (.ifCond .eq 47, 3) := by decide +kernel
theorem dX9_layCanBe_95 : decode prog_11_method_58_code 95 = .ok (.aload_n 0, 1) := by decide +kernel
theorem dX9_layCanBe_96 : decode prog_11_method_58_code 96 = .ok (.getfield 25, 3) := by decide +kernel
theorem dX9_layCanBe_99 : decode prog_11_method_58_code 99 = .ok (.iconst 0, 1) := by decide +kernel
theorem dX9_layCanBe_100 : decode prog_11_method_58_code 100 = .ok (.aload_n 0, 1) := by decide +kernel
theorem dX9_layCanBe_101 : decode prog_11_method_58_code 101 = .ok (.getfield 28, 3) := by decide +kernel
theorem dX9_layCanBe_104 : decode prog_11_method_58_code 104 = .ok (.iconst 0, 1) := by decide +kernel
theorem dX9_layCanBe_105 : decode prog_11_method_58_code 105 = .ok (.invokestatic 211, 3) := by decide +kernel
theorem dX9_layCanBe_108 : decode prog_11_method_58_code 108 = .ok (.aload_n 0, 1) := by decide +kernel
theorem dX9_layCanBe_109 : decode prog_11_method_58_code 109 = .ok (.aload_n 0, 1) := by decide +kernel
theorem dX9_layCanBe_110 : decode prog_11_method_58_code 110 = .ok (.getfield 28, 3) := by decide +kernel
theorem dX9_layCanBe_113 : decode prog_11_method_58_code 113 = .ok (.iconst 1, 1) := by decide +kernel
theorem dX9_layCanBe_114 : decode prog_11_method_58_code 114 = .ok (.iload_n 2, 1) := by decide +kernel
theorem dX9_layCanBe_115 : decode prog_11_method_58_code 115 = .ok (.ishl, 1) := by decide +kernel
theorem dX9_layCanBe_116 : decode prog_11_method_58_code 116 = .ok (.invokevirtual 215, 3) := by decide +kernel
theorem dX9_layCanBe_119 : decode prog_11_method_58_code 119 = .ok (.aload_n 0, 1) := by decide +kernel
theorem dX9_layCanBe_120 : decode prog_11_method_58_code 120 = .ok (.aload_n 0, 1) := by decide +kernel
theorem dX9_layCanBe_121 : decode prog_11_method_58_code 121 = .ok (.getfield 28, 3) := by decide +kernel
theorem dX9_layCanBe_124 : decode prog_11_method_58_code 124 = .ok (.invokevirtual 219, 3) := by decide +kernel
theorem dX9_layCanBe_127 : decode prog_11_method_58_code 127 = .ok (.aload_n 0, 1) := by decide +kernel
theorem dX9_layCanBe_128 : decode prog_11_method_58_code 128 = .ok (.getfield 50, 3) := by decide +kernel
theorem dX9_layCanBe_131 : decode prog_11_method_58_code 131 = .ok (.aload_n 0, 1) := by decide +kernel
theorem dX9_layCanBe_132 : decode prog_11_method_58_code 132 = .ok (.getfield 28, 3) := by decide +kernel
theorem dX9_layCanBe_135 : decode prog_11_method_58_code 135 = .ok (.iconst 0, 1) := by decide +kernel
theorem dX9_layCanBe_136 : decode prog_11_method_58_code 136 = .ok (.iaload, 1) := by decide +kernel
theorem dX9_layCanBe_137 : decode prog_11_method_58_code 137 = .ok (.iconst 1, 1) := by decide +kernel
theorem dX9_layCanBe_138 : decode prog_11_method_58_code 138 = .ok (.bastore, 1) := by decide +kernel
theorem dX9_layCanBe_139 : decode prog_11_method_58_code 139 = .ok (.iinc 2 1, 3) := by decide +kernel
theorem dX9_layCanBe_142 : decode prog_11_method_58_code 142 = .ok (.goto (-77), 3) := by decide +kernel
theorem dX9_layCanBe_145 : decode prog_11_method_58_code 145 = .ok (.iload_n 1, 1) := by decide +kernel
theorem dX9_layCanBe_146 : decode prog_11_method_58_code 146 = .ok (.invokestatic 264, 3) := by decide +kernel
theorem dX9_layCanBe_149 : decode prog_11_method_58_code 149 = .ok (.istore_n 1, 1) := by decide +kernel
theorem dX9_layCanBe_150 : decode prog_11_method_58_code 150 = .ok (.goto (-94), 3) := by decide +kernel
theorem dX9_layCanBe_153 : decode prog_11_method_58_code 153 = .ok (.return_, 1) := by decide +kernel
theorem dX9_sure_0 : decode prog_11_method_59_code 0 = .ok (.iload_n 1, 1) := by decide +kernel
theorem dX9_sure_1 : decode prog_11_method_59_code 1 = .ok (.iconst 0, 1) := by decide +kernel
theorem dX9_sure_2 : decode prog_11_method_59_code 2 = .ok (.iconst 1, 1) := by decide +kernel
theorem dX9_sure_3 : decode prog_11_method_59_code 3 = .ok (.invokestatic 69, 3) := by decide +kernel
theorem dX9_sure_6 : decode prog_11_method_59_code 6 = .ok (.ifCond .ne 6, 3) := by decide +kernel
theorem dX9_sure_9 : decode prog_11_method_59_code 9 = .ok (.bipush (-3), 2) := by decide +kernel
theorem dX9_sure_11 : decode prog_11_method_59_code 11 = .ok (.ireturn, 1) := by decide +kernel
theorem dX9_sure_12 : decode prog_11_method_59_code 12 = .ok (.aload_n 0, 1) := by decide +kernel
theorem dX9_sure_13 : decode prog_11_method_59_code 13 = .ok (.invokevirtual 277, 3) := by decide +kernel
theorem dX9_sure_16 : decode prog_11_method_59_code 16 = .ok (.iconst 0, 1) := by decide +kernel
theorem dX9_sure_17 : decode prog_11_method_59_code 17 = .ok (.istore_n 2, 1) := by decide +kernel
theorem dX9_sure_18 : decode prog_11_method_59_code 18 = .ok (.iconst 0, 1) := by decide +kernel
theorem dX9_sure_19 : decode prog_11_method_59_code 19 = .ok (.istore_n 3, 1) := by decide +kernel
theorem dX9_sure_20 : decode prog_11_method_59_code 20 = .ok (.iconst 1, 1) := by decide +kernel
theorem dX9_sure_21 : decode prog_11_method_59_code 21 = .ok (.istore 4, 2) := by decide +kernel
theorem dX9_sure_23 : decode prog_11_method_59_code 23 = .ok (.iload 4, 2) := by decide +kernel
theorem dX9_sure_25 : decode prog_11_method_59_code 25 = .ok (.iconst 1, 1) := by decide +kernel
theorem dX9_sure_26 : decode prog_11_method_59_code 26 = .ok (.aload_n 0, 1) := by decide +kernel
theorem dX9_sure_27 : decode prog_11_method_59_code 27 = .ok (.getfield 66, 3) := by decide +kernel
theorem dX9_sure_30 : decode prog_11_method_59_code 30 = .ok (.ishl, 1) := by decide +kernel
theorem dX9_sure_31 : decode prog_11_method_59_code 31 = .ok (.if_icmp .ge 143, 3) := by decide +kernel
theorem dX9_sure_34 : decode prog_11_method_59_code 34 = .ok (.ldc_w 280, 3) := by decide +kernel
theorem dX9_sure_37 : decode prog_11_method_59_code 37 = .ok (.istore 5, 2) := by decide +kernel
theorem dX9_sure_39 : decode prog_11_method_59_code 39 = .ok (.iconst 0, 1) := by decide +kernel
theorem dX9_sure_40 : decode prog_11_method_59_code 40 = .ok (.istore 6, 2) := by decide +kernel
theorem dX9_sure_42 : decode prog_11_method_59_code 42 = .ok (.iload 6, 2) := by decide +kernel
theorem dX9_sure_44 : decode prog_11_method_59_code 44 = .ok (.bipush 64, 2) := by decide +kernel
theorem dX9_sure_46 : decode prog_11_method_59_code 46 = .ok (.if_icmp .ge 110, 3) := by decide +kernel
theorem dX9_sure_49 : decode prog_11_method_59_code 49 = .ok (.iconst 0, 1) := by decide +kernel
theorem dX9_sure_50 : decode prog_11_method_59_code 50 = .ok (.istore 7, 2) := by decide +kernel
theorem dX9_sure_52 : decode prog_11_method_59_code 52 = .ok (.iconst 0, 1) := by decide +kernel
theorem dX9_sure_53 : decode prog_11_method_59_code 53 = .ok (.istore 8, 2) := by decide +kernel
theorem dX9_sure_55 : decode prog_11_method_59_code 55 = .ok (.iload 8, 2) := by decide +kernel
theorem dX9_sure_57 : decode prog_11_method_59_code 57 = .ok (.aload_n 0, 1) := by decide +kernel
theorem dX9_sure_58 : decode prog_11_method_59_code 58 = .ok (.getfield 66, 3) := by decide +kernel
theorem dX9_sure_61 : decode prog_11_method_59_code 61 = .ok (.if_icmp .ge 63, 3) := by decide +kernel
theorem dX9_sure_64 : decode prog_11_method_59_code 64 = .ok (.iload 7, 2) := by decide +kernel
theorem dX9_sure_66 : decode prog_11_method_59_code 66 = .ok (.iload 4, 2) := by decide +kernel
theorem dX9_sure_68 : decode prog_11_method_59_code 68 = .ok (.iload 8, 2) := by decide +kernel
theorem dX9_sure_70 : decode prog_11_method_59_code 70 = .ok (.invokestatic 172, 3) := by decide +kernel
theorem dX9_sure_73 : decode prog_11_method_59_code 73 = .ok (.ifCond .eq 41, 3) := by decide +kernel
theorem dX9_sure_76 : decode prog_11_method_59_code 76 = .ok (.iload 6, 2) := by decide +kernel
theorem dX9_sure_78 : decode prog_11_method_59_code 78 = .ok (.aload_n 0, 1) := by decide +kernel
theorem dX9_sure_79 : decode prog_11_method_59_code 79 = .ok (.getfield 47, 3) := by decide +kernel
theorem dX9_sure_82 : decode prog_11_method_59_code 82 = .ok (.iconst 2, 1) := by decide +kernel
theorem dX9_sure_83 : decode prog_11_method_59_code 83 = .ok (.iload 8, 2) := by decide +kernel
theorem dX9_sure_85 : decode prog_11_method_59_code 85 = .ok (.imul, 1) := by decide +kernel
theorem dX9_sure_86 : decode prog_11_method_59_code 86 = .ok (.iaload, 1) := by decide +kernel
theorem dX9_sure_87 : decode prog_11_method_59_code 87 = .ok (.invokestatic 172, 3) := by decide +kernel
theorem dX9_sure_90 : decode prog_11_method_59_code 90 = .ok (.ifCond .eq 8, 3) := by decide +kernel
theorem dX9_sure_93 : decode prog_11_method_59_code 93 = .ok (.bipush 100, 2) := by decide +kernel
theorem dX9_sure_95 : decode prog_11_method_59_code 95 = .ok (.goto 4, 3) := by decide +kernel
theorem dX9_sure_98 : decode prog_11_method_59_code 98 = .ok (.iconst 0, 1) := by decide +kernel
theorem dX9_sure_99 : decode prog_11_method_59_code 99 = .ok (.aload_n 0, 1) := by decide +kernel
theorem dX9_sure_100 : decode prog_11_method_59_code 100 = .ok (.getfield 47, 3) := by decide +kernel
theorem dX9_sure_103 : decode prog_11_method_59_code 103 = .ok (.iconst 2, 1) := by decide +kernel
theorem dX9_sure_104 : decode prog_11_method_59_code 104 = .ok (.iload 8, 2) := by decide +kernel
theorem dX9_sure_106 : decode prog_11_method_59_code 106 = .ok (.imul, 1) := by decide +kernel
theorem dX9_sure_107 : decode prog_11_method_59_code 107 = .ok (.iconst 1, 1) := by decide +kernel
theorem dX9_sure_108 : decode prog_11_method_59_code 108 = .ok (.iadd, 1) := by decide +kernel
theorem dX9_sure_109 : decode prog_11_method_59_code 109 = .ok (.iaload, 1) := by decide +kernel
theorem dX9_sure_110 : decode prog_11_method_59_code 110 = .ok (.isub, 1) := by decide +kernel
theorem dX9_sure_111 : decode prog_11_method_59_code 111 = .ok (.goto 4, 3) := by decide +kernel
theorem dX9_sure_114 : decode prog_11_method_59_code 114 = .ok (.iconst 0, 1) := by decide +kernel
theorem dX9_sure_115 : decode prog_11_method_59_code 115 = .ok (.iadd, 1) := by decide +kernel
theorem dX9_sure_116 : decode prog_11_method_59_code 116 = .ok (.istore 7, 2) := by decide +kernel
theorem dX9_sure_118 : decode prog_11_method_59_code 118 = .ok (.iinc 8 1, 3) := by decide +kernel
theorem dX9_sure_121 : decode prog_11_method_59_code 121 = .ok (.goto (-66), 3) := by decide +kernel
theorem dX9_sure_124 : decode prog_11_method_59_code 124 = .ok (.aload_n 0, 1) := by decide +kernel
theorem dX9_sure_125 : decode prog_11_method_59_code 125 = .ok (.getfield 50, 3) := by decide +kernel
theorem dX9_sure_128 : decode prog_11_method_59_code 128 = .ok (.iload 6, 2) := by decide +kernel
theorem dX9_sure_130 : decode prog_11_method_59_code 130 = .ok (.baload, 1) := by decide +kernel
theorem dX9_sure_131 : decode prog_11_method_59_code 131 = .ok (.ifCond .eq 15, 3) := by decide +kernel
theorem dX9_sure_134 : decode prog_11_method_59_code 134 = .ok (.iload 7, 2) := by decide +kernel
theorem dX9_sure_136 : decode prog_11_method_59_code 136 = .ok (.iload 5, 2) := by decide +kernel
theorem dX9_sure_138 : decode prog_11_method_59_code 138 = .ok (.if_icmp .ge 8, 3) := by decide +kernel
theorem dX9_sure_141 : decode prog_11_method_59_code 141 = .ok (.iload 7, 2) := by decide +kernel
theorem dX9_sure_143 : decode prog_11_method_59_code 143 = .ok (.goto 5, 3) := by decide +kernel
theorem dX9_sure_146 : decode prog_11_method_59_code 146 = .ok (.iload 5, 2) := by decide +kernel
theorem dX9_sure_148 : decode prog_11_method_59_code 148 = .ok (.istore 5, 2) := by decide +kernel
theorem dX9_sure_150 : decode prog_11_method_59_code 150 = .ok (.iinc 6 1, 3) := by decide +kernel
theorem dX9_sure_153 : decode prog_11_method_59_code 153 = .ok (.goto (-111), 3) := by decide +kernel
theorem dX9_sure_156 : decode prog_11_method_59_code 156 = .ok (.iload 5, 2) := by decide +kernel
theorem dX9_sure_158 : decode prog_11_method_59_code 158 = .ok (.iload_n 3, 1) := by decide +kernel
theorem dX9_sure_159 : decode prog_11_method_59_code 159 = .ok (.if_icmp .le 9, 3) := by decide +kernel
theorem dX9_sure_162 : decode prog_11_method_59_code 162 = .ok (.iload 5, 2) := by decide +kernel
theorem dX9_sure_164 : decode prog_11_method_59_code 164 = .ok (.istore_n 3, 1) := by decide +kernel
theorem dX9_sure_165 : decode prog_11_method_59_code 165 = .ok (.iload 4, 2) := by decide +kernel
theorem dX9_sure_167 : decode prog_11_method_59_code 167 = .ok (.istore_n 2, 1) := by decide +kernel
theorem dX9_sure_168 : decode prog_11_method_59_code 168 = .ok (.iinc 4 1, 3) := by decide +kernel
theorem dX9_sure_171 : decode prog_11_method_59_code 171 = .ok (.goto (-148), 3) := by decide +kernel
theorem dX9_sure_174 : decode prog_11_method_59_code 174 = .ok (.iload_n 1, 1) := by decide +kernel
theorem dX9_sure_175 : decode prog_11_method_59_code 175 = .ok (.ifCond .ne 7, 3) := by decide +kernel
theorem dX9_sure_178 : decode prog_11_method_59_code 178 = .ok (.iload_n 3, 1) := by decide +kernel
theorem dX9_sure_179 : decode prog_11_method_59_code 179 = .ok (.goto 4, 3) := by decide +kernel
theorem dX9_sure_182 : decode prog_11_method_59_code 182 = .ok (.iload_n 2, 1) := by decide +kernel
theorem dX9_sure_183 : decode prog_11_method_59_code 183 = .ok (.ireturn, 1) := by decide +kernel
theorem dX9_mostNext_0 : decode prog_11_method_60_code 0 = .ok (.aload_n 1, 1) := by decide +kernel
theorem dX9_mostNext_1 : decode prog_11_method_60_code 1 = .ok (.iconst 0, 1) := by decide +kernel
theorem dX9_mostNext_2 : decode prog_11_method_60_code 2 = .ok (.aload_n 0, 1) := by decide +kernel
theorem dX9_mostNext_3 : decode prog_11_method_60_code 3 = .ok (.getfield 28, 3) := by decide +kernel
theorem dX9_mostNext_6 : decode prog_11_method_60_code 6 = .ok (.iconst 0, 1) := by decide +kernel
theorem dX9_mostNext_7 : decode prog_11_method_60_code 7 = .ok (.invokestatic 211, 3) := by decide +kernel
theorem dX9_mostNext_10 : decode prog_11_method_60_code 10 = .ok (.aload_n 0, 1) := by decide +kernel
theorem dX9_mostNext_11 : decode prog_11_method_60_code 11 = .ok (.aload_n 0, 1) := by decide +kernel
theorem dX9_mostNext_12 : decode prog_11_method_60_code 12 = .ok (.getfield 28, 3) := by decide +kernel
theorem dX9_mostNext_15 : decode prog_11_method_60_code 15 = .ok (.invokevirtual 219, 3) := by decide +kernel
theorem dX9_mostNext_18 : decode prog_11_method_60_code 18 = .ok (.aload_n 0, 1) := by decide +kernel
theorem dX9_mostNext_19 : decode prog_11_method_60_code 19 = .ok (.aload_n 0, 1) := by decide +kernel
theorem dX9_mostNext_20 : decode prog_11_method_60_code 20 = .ok (.getfield 28, 3) := by decide +kernel
theorem dX9_mostNext_23 : decode prog_11_method_60_code 23 = .ok (.iconst 0, 1) := by decide +kernel
theorem dX9_mostNext_24 : decode prog_11_method_60_code 24 = .ok (.iaload, 1) := by decide +kernel
theorem dX9_mostNext_25 : decode prog_11_method_60_code 25 = .ok (.invokevirtual 248, 3) := by decide +kernel
theorem dX9_mostNext_28 : decode prog_11_method_60_code 28 = .ok (.istore_n 2, 1) := by decide +kernel
theorem dX9_mostNext_29 : decode prog_11_method_60_code 29 = .ok (.iconst 0, 1) := by decide +kernel
theorem dX9_mostNext_30 : decode prog_11_method_60_code 30 = .ok (.istore_n 3, 1) := by decide +kernel
theorem dX9_mostNext_31 : decode prog_11_method_60_code 31 = .ok (.iload_n 3, 1) := by decide +kernel
theorem dX9_mostNext_32 : decode prog_11_method_60_code 32 = .ok (.ldc_w 260, 3) := by decide +kernel
theorem dX9_mostNext_35 : decode prog_11_method_60_code 35 = .ok (.if_icmp .ge 104, 3) := by decide +kernel
theorem dX9_mostNext_38 : decode prog_11_method_60_code 38 = .ok (.iconst 0, 1) := by decide +kernel
theorem dX9_mostNext_39 : decode prog_11_method_60_code 39 = .ok (.istore 4, 2) := by decide +kernel
theorem dX9_mostNext_41 : decode prog_11_method_60_code 41 = .ok (.iload 4, 2) := by decide +kernel
theorem dX9_mostNext_43 : decode prog_11_method_60_code 43 = .ok (.aload_n 0, 1) := by decide +kernel
theorem dX9_mostNext_44 : decode prog_11_method_60_code 44 = .ok (.getfield 73, 3) := by decide +kernel
theorem dX9_mostNext_47 : decode prog_11_method_60_code 47 = .ok (.if_icmp .ge 84, 3) := by decide +kernel
theorem dX9_mostNext_50 : decode prog_11_method_60_code 50 = .ok (.aload_n 0, 1) := by decide +kernel
theorem dX9_mostNext_51 : decode prog_11_method_60_code 51 = .ok (.iload_n 3, 1) := by decide +kernel
theorem dX9_mostNext_52 : decode prog_11_method_60_code 52 = .ok (.invokevirtual 261, 3) := by decide +kernel
theorem dX9_mostNext_55 : decode prog_11_method_60_code 55 = .ok (.ifCond .eq 76, 3) := by decide +kernel
theorem dX9_mostNext_58 : decode prog_11_method_60_code 58 = .ok (.aload_n 0, 1) := by decide +kernel
theorem dX9_mostNext_59 : decode prog_11_method_60_code 59 = .ok (.aload_n 1, 1) := by decide +kernel
theorem dX9_mostNext_60 : decode prog_11_method_60_code 60 = .ok (.iconst 1, 1) := by decide +kernel
theorem dX9_mostNext_61 : decode prog_11_method_60_code 61 = .ok (.iload 4, 2) := by decide +kernel
theorem dX9_mostNext_63 : decode prog_11_method_60_code 63 = .ok (.ishl, 1) := by decide +kernel
theorem dX9_mostNext_64 : decode prog_11_method_60_code 64 = .ok (.invokevirtual 237, 3) := by decide +kernel
theorem dX9_mostNext_67 : decode prog_11_method_60_code 67 = .ok (.ifCond .eq 58, 3) := by decide +kernel
theorem dX9_mostNext_70 : decode prog_11_method_60_code 70 = .ok (.aload_n 1, 1) := by decide +kernel
theorem dX9_mostNext_71 : decode prog_11_method_60_code 71 = .ok (.iconst 0, 1) := by decide +kernel
theorem dX9_mostNext_72 : decode prog_11_method_60_code 72 = .ok (.aload_n 0, 1) := by decide +kernel
theorem dX9_mostNext_73 : decode prog_11_method_60_code 73 = .ok (.getfield 28, 3) := by decide +kernel
theorem dX9_mostNext_76 : decode prog_11_method_60_code 76 = .ok (.iconst 0, 1) := by decide +kernel
theorem dX9_mostNext_77 : decode prog_11_method_60_code 77 = .ok (.invokestatic 211, 3) := by decide +kernel
theorem dX9_mostNext_80 : decode prog_11_method_60_code 80 = .ok (.aload_n 0, 1) := by decide +kernel
theorem dX9_mostNext_81 : decode prog_11_method_60_code 81 = .ok (.aload_n 0, 1) := by decide +kernel
theorem dX9_mostNext_82 : decode prog_11_method_60_code 82 = .ok (.getfield 28, 3) := by decide +kernel
theorem dX9_mostNext_85 : decode prog_11_method_60_code 85 = .ok (.iconst 1, 1) := by decide +kernel
theorem dX9_mostNext_86 : decode prog_11_method_60_code 86 = .ok (.iload 4, 2) := by decide +kernel
theorem dX9_mostNext_88 : decode prog_11_method_60_code 88 = .ok (.ishl, 1) := by decide +kernel
theorem dX9_mostNext_89 : decode prog_11_method_60_code 89 = .ok (.invokevirtual 215, 3) := by decide +kernel
theorem dX9_mostNext_92 : decode prog_11_method_60_code 92 = .ok (.aload_n 0, 1) := by decide +kernel
theorem dX9_mostNext_93 : decode prog_11_method_60_code 93 = .ok (.aload_n 0, 1) := by decide +kernel
theorem dX9_mostNext_94 : decode prog_11_method_60_code 94 = .ok (.getfield 28, 3) := by decide +kernel
theorem dX9_mostNext_97 : decode prog_11_method_60_code 97 = .ok (.invokevirtual 219, 3) := by decide +kernel
theorem dX9_mostNext_100 : decode prog_11_method_60_code 100 = .ok (.aload_n 0, 1) := by decide +kernel
theorem dX9_mostNext_101 : decode prog_11_method_60_code 101 = .ok (.aload_n 0, 1) := by decide +kernel
theorem dX9_mostNext_102 : decode prog_11_method_60_code 102 = .ok (.getfield 28, 3) := by decide +kernel
theorem dX9_mostNext_105 : decode prog_11_method_60_code 105 = .ok (.iconst 0, 1) := by decide +kernel
theorem dX9_mostNext_106 : decode prog_11_method_60_code 106 = .ok (.iaload, 1) := by decide +kernel
theorem dX9_mostNext_107 : decode prog_11_method_60_code 107 = .ok (.invokevirtual 248, 3) := by decide +kernel
theorem dX9_mostNext_110 : decode prog_11_method_60_code 110 = .ok (.istore 5, 2) := by decide +kernel
theorem dX9_mostNext_112 : decode prog_11_method_60_code 112 = .ok (.iload 5, 2) := by decide +kernel
theorem dX9_mostNext_114 : decode prog_11_method_60_code 114 = .ok (.iload_n 2, 1) := by decide +kernel
theorem dX9_mostNext_115 : decode prog_11_method_60_code 115 = .ok (.if_icmp .le 8, 3) := by decide +kernel
theorem dX9_mostNext_118 : decode prog_11_method_60_code 118 = .ok (.iload 5, 2) := by decide +kernel
theorem dX9_mostNext_120 : decode prog_11_method_60_code 120 = .ok (.goto 4, 3) := by decide +kernel
theorem dX9_mostNext_123 : decode prog_11_method_60_code 123 = .ok (.iload_n 2, 1) := by decide +kernel
theorem dX9_mostNext_124 : decode prog_11_method_60_code 124 = .ok (.istore_n 2, 1) := by decide +kernel
theorem dX9_mostNext_125 : decode prog_11_method_60_code 125 = .ok (.iinc 4 1, 3) := by decide +kernel
theorem dX9_mostNext_128 : decode prog_11_method_60_code 128 = .ok (.goto (-87), 3) := by decide +kernel
theorem dX9_mostNext_131 : decode prog_11_method_60_code 131 = .ok (.iload_n 3, 1) := by decide +kernel
theorem dX9_mostNext_132 : decode prog_11_method_60_code 132 = .ok (.invokestatic 281, 3) := by decide +kernel
theorem dX9_mostNext_135 : decode prog_11_method_60_code 135 = .ok (.istore_n 3, 1) := by decide +kernel
theorem dX9_mostNext_136 : decode prog_11_method_60_code 136 = .ok (.goto (-105), 3) := by decide +kernel
theorem dX9_mostNext_139 : decode prog_11_method_60_code 139 = .ok (.iload_n 2, 1) := by decide +kernel
theorem dX9_mostNext_140 : decode prog_11_method_60_code 140 = .ok (.ireturn, 1) := by decide +kernel
theorem dX9_nextPlain_0 : decode prog_11_method_61_code 0 = .ok (.iload_n 0, 1) := by decide +kernel
theorem dX9_nextPlain_1 : decode prog_11_method_61_code 1 = .ok (.bipush 100, 2) := by decide +kernel
theorem dX9_nextPlain_3 : decode prog_11_method_61_code 3 = .ok (.iadd, 1) := by decide +kernel
theorem dX9_nextPlain_4 : decode prog_11_method_61_code 4 = .ok (.istore_n 1, 1) := by decide +kernel
theorem dX9_nextPlain_5 : decode prog_11_method_61_code 5 = .ok (.iload_n 1, 1) := by decide +kernel
theorem dX9_nextPlain_6 : decode prog_11_method_61_code 6 = .ok (.sipush 1000, 3) := by decide +kernel
theorem dX9_nextPlain_9 : decode prog_11_method_61_code 9 = .ok (.irem, 1) := by decide +kernel
theorem dX9_nextPlain_10 : decode prog_11_method_61_code 10 = .ok (.bipush 100, 2) := by decide +kernel
theorem dX9_nextPlain_12 : decode prog_11_method_61_code 12 = .ok (.if_icmp .le 19, 3) := by decide +kernel
theorem dX9_nextPlain_15 : decode prog_11_method_61_code 15 = .ok (.iload_n 1, 1) := by decide +kernel
theorem dX9_nextPlain_16 : decode prog_11_method_61_code 16 = .ok (.sipush 1000, 3) := by decide +kernel
theorem dX9_nextPlain_19 : decode prog_11_method_61_code 19 = .ok (.idiv, 1) := by decide +kernel
theorem dX9_nextPlain_20 : decode prog_11_method_61_code 20 = .ok (.sipush 1000, 3) := by decide +kernel
theorem dX9_nextPlain_23 : decode prog_11_method_61_code 23 = .ok (.imul, 1) := by decide +kernel
theorem dX9_nextPlain_24 : decode prog_11_method_61_code 24 = .ok (.sipush 1000, 3) := by decide +kernel
theorem dX9_nextPlain_27 : decode prog_11_method_61_code 27 = .ok (.iadd, 1) := by decide +kernel
theorem dX9_nextPlain_28 : decode prog_11_method_61_code 28 = .ok (.goto 4, 3) := by decide +kernel
theorem dX9_nextPlain_31 : decode prog_11_method_61_code 31 = .ok (.iload_n 1, 1) := by decide +kernel
theorem dX9_nextPlain_32 : decode prog_11_method_61_code 32 = .ok (.istore_n 1, 1) := by decide +kernel
theorem dX9_nextPlain_33 : decode prog_11_method_61_code 33 = .ok (.iload_n 1, 1) := by decide +kernel
theorem dX9_nextPlain_34 : decode prog_11_method_61_code 34 = .ok (.sipush 9999, 3) := by decide +kernel
theorem dX9_nextPlain_37 : decode prog_11_method_61_code 37 = .ok (.if_icmp .le 16, 3) := by decide +kernel
theorem dX9_nextPlain_40 : decode prog_11_method_61_code 40 = .ok (.iload_n 1, 1) := by decide +kernel
theorem dX9_nextPlain_41 : decode prog_11_method_61_code 41 = .ok (.ldc_w 284, 3) := by decide +kernel
theorem dX9_nextPlain_44 : decode prog_11_method_61_code 44 = .ok (.if_icmp .ge 9, 3) := by decide +kernel
theorem dX9_nextPlain_47 : decode prog_11_method_61_code 47 = .ok (.ldc_w 284, 3) := by decide +kernel
theorem dX9_nextPlain_50 : decode prog_11_method_61_code 50 = .ok (.goto 4, 3) := by decide +kernel
theorem dX9_nextPlain_53 : decode prog_11_method_61_code 53 = .ok (.iload_n 1, 1) := by decide +kernel
theorem dX9_nextPlain_54 : decode prog_11_method_61_code 54 = .ok (.ireturn, 1) := by decide +kernel
theorem dX9_worthOf_0 : decode prog_11_method_62_code 0 = .ok (.iload_n 2, 1) := by decide +kernel
theorem dX9_worthOf_1 : decode prog_11_method_62_code 1 = .ok (.iconst 1, 1) := by decide +kernel
theorem dX9_worthOf_2 : decode prog_11_method_62_code 2 = .ok (.if_icmp .ne 13, 3) := by decide +kernel
theorem dX9_worthOf_5 : decode prog_11_method_62_code 5 = .ok (.aload_n 0, 1) := by decide +kernel
theorem dX9_worthOf_6 : decode prog_11_method_62_code 6 = .ok (.aload_n 1, 1) := by decide +kernel
theorem dX9_worthOf_7 : decode prog_11_method_62_code 7 = .ok (.iconst 0, 1) := by decide +kernel
theorem dX9_worthOf_8 : decode prog_11_method_62_code 8 = .ok (.iaload, 1) := by decide +kernel
theorem dX9_worthOf_9 : decode prog_11_method_62_code 9 = .ok (.invokevirtual 248, 3) := by decide +kernel
theorem dX9_worthOf_12 : decode prog_11_method_62_code 12 = .ok (.goto 8, 3) := by decide +kernel
theorem dX9_worthOf_15 : decode prog_11_method_62_code 15 = .ok (.aload_n 0, 1) := by decide +kernel
theorem dX9_worthOf_16 : decode prog_11_method_62_code 16 = .ok (.aload_n 1, 1) := by decide +kernel
theorem dX9_worthOf_17 : decode prog_11_method_62_code 17 = .ok (.invokevirtual 285, 3) := by decide +kernel
theorem dX9_worthOf_20 : decode prog_11_method_62_code 20 = .ok (.ireturn, 1) := by decide +kernel
theorem dX9_plan_0 : decode prog_11_method_63_code 0 = .ok (.iload_n 1, 1) := by decide +kernel
theorem dX9_plan_1 : decode prog_11_method_63_code 1 = .ok (.iconst 1, 1) := by decide +kernel
theorem dX9_plan_2 : decode prog_11_method_63_code 2 = .ok (.iconst 2, 1) := by decide +kernel
theorem dX9_plan_3 : decode prog_11_method_63_code 3 = .ok (.invokestatic 69, 3) := by decide +kernel
theorem dX9_plan_6 : decode prog_11_method_63_code 6 = .ok (.ifCond .eq 12, 3) := by decide +kernel
theorem dX9_plan_9 : decode prog_11_method_63_code 9 = .ok (.iload_n 2, 1) := by decide +kernel
theorem dX9_plan_10 : decode prog_11_method_63_code 10 = .ok (.iconst 0, 1) := by decide +kernel
theorem dX9_plan_11 : decode prog_11_method_63_code 11 = .ok (.iconst 2, 1) := by decide +kernel
theorem dX9_plan_12 : decode prog_11_method_63_code 12 = .ok (.invokestatic 69, 3) := by decide +kernel
theorem dX9_plan_15 : decode prog_11_method_63_code 15 = .ok (.ifCond .ne 6, 3) := by decide +kernel
theorem dX9_plan_18 : decode prog_11_method_63_code 18 = .ok (.bipush (-3), 2) := by decide +kernel
theorem dX9_plan_20 : decode prog_11_method_63_code 20 = .ok (.ireturn, 1) := by decide +kernel
theorem dX9_plan_21 : decode prog_11_method_63_code 21 = .ok (.aload_n 0, 1) := by decide +kernel
theorem dX9_plan_22 : decode prog_11_method_63_code 22 = .ok (.getfield 25, 3) := by decide +kernel
theorem dX9_plan_25 : decode prog_11_method_63_code 25 = .ok (.iconst 0, 1) := by decide +kernel
theorem dX9_plan_26 : decode prog_11_method_63_code 26 = .ok (.aload_n 0, 1) := by decide +kernel
theorem dX9_plan_27 : decode prog_11_method_63_code 27 = .ok (.getfield 53, 3) := by decide +kernel
theorem dX9_plan_30 : decode prog_11_method_63_code 30 = .ok (.iconst 0, 1) := by decide +kernel
theorem dX9_plan_31 : decode prog_11_method_63_code 31 = .ok (.invokestatic 211, 3) := by decide +kernel
theorem dX9_plan_34 : decode prog_11_method_63_code 34 = .ok (.aload_n 0, 1) := by decide +kernel
theorem dX9_plan_35 : decode prog_11_method_63_code 35 = .ok (.aload_n 0, 1) := by decide +kernel
theorem dX9_plan_36 : decode prog_11_method_63_code 36 = .ok (.getfield 53, 3) := by decide +kernel
theorem dX9_plan_39 : decode prog_11_method_63_code 39 = .ok (.invokevirtual 219, 3) := by decide +kernel
theorem dX9_plan_42 : decode prog_11_method_63_code 42 = .ok (.aload_n 0, 1) := by decide +kernel
theorem dX9_plan_43 : decode prog_11_method_63_code 43 = .ok (.aload_n 0, 1) := by decide +kernel
theorem dX9_plan_44 : decode prog_11_method_63_code 44 = .ok (.getfield 53, 3) := by decide +kernel
theorem dX9_plan_47 : decode prog_11_method_63_code 47 = .ok (.iload_n 1, 1) := by decide +kernel
theorem dX9_plan_48 : decode prog_11_method_63_code 48 = .ok (.invokevirtual 289, 3) := by decide +kernel
theorem dX9_plan_51 : decode prog_11_method_63_code 51 = .ok (.istore_n 3, 1) := by decide +kernel
theorem dX9_plan_52 : decode prog_11_method_63_code 52 = .ok (.iconst (-1), 1) := by decide +kernel
theorem dX9_plan_53 : decode prog_11_method_63_code 53 = .ok (.istore 4, 2) := by decide +kernel
theorem dX9_plan_55 : decode prog_11_method_63_code 55 = .ok (.iconst (-1), 1) := by decide +kernel
theorem dX9_plan_56 : decode prog_11_method_63_code 56 = .ok (.istore 5, 2) := by decide +kernel
theorem dX9_plan_58 : decode prog_11_method_63_code 58 = .ok (.iconst 0, 1) := by decide +kernel
theorem dX9_plan_59 : decode prog_11_method_63_code 59 = .ok (.istore 6, 2) := by decide +kernel
theorem dX9_plan_61 : decode prog_11_method_63_code 61 = .ok (.iload 6, 2) := by decide +kernel
theorem dX9_plan_63 : decode prog_11_method_63_code 63 = .ok (.ldc_w 260, 3) := by decide +kernel
theorem dX9_plan_66 : decode prog_11_method_63_code 66 = .ok (.if_icmp .ge 116, 3) := by decide +kernel
theorem dX9_plan_69 : decode prog_11_method_63_code 69 = .ok (.iconst 0, 1) := by decide +kernel
theorem dX9_plan_70 : decode prog_11_method_63_code 70 = .ok (.istore 7, 2) := by decide +kernel
theorem dX9_plan_72 : decode prog_11_method_63_code 72 = .ok (.iload 7, 2) := by decide +kernel
theorem dX9_plan_74 : decode prog_11_method_63_code 74 = .ok (.aload_n 0, 1) := by decide +kernel
theorem dX9_plan_75 : decode prog_11_method_63_code 75 = .ok (.getfield 73, 3) := by decide +kernel
theorem dX9_plan_78 : decode prog_11_method_63_code 78 = .ok (.if_icmp .ge 94, 3) := by decide +kernel
theorem dX9_plan_81 : decode prog_11_method_63_code 81 = .ok (.aload_n 0, 1) := by decide +kernel
theorem dX9_plan_82 : decode prog_11_method_63_code 82 = .ok (.iload 6, 2) := by decide +kernel
theorem dX9_plan_84 : decode prog_11_method_63_code 84 = .ok (.invokevirtual 261, 3) := by decide +kernel
theorem dX9_plan_87 : decode prog_11_method_63_code 87 = .ok (.ifCond .eq 79, 3) := by decide +kernel
theorem dX9_plan_90 : decode prog_11_method_63_code 90 = .ok (.aload_n 0, 1) := by decide +kernel
theorem dX9_plan_91 : decode prog_11_method_63_code 91 = .ok (.aload_n 0, 1) := by decide +kernel
theorem dX9_plan_92 : decode prog_11_method_63_code 92 = .ok (.getfield 25, 3) := by decide +kernel
theorem dX9_plan_95 : decode prog_11_method_63_code 95 = .ok (.iconst 1, 1) := by decide +kernel
theorem dX9_plan_96 : decode prog_11_method_63_code 96 = .ok (.iload 7, 2) := by decide +kernel
theorem dX9_plan_98 : decode prog_11_method_63_code 98 = .ok (.ishl, 1) := by decide +kernel
theorem dX9_plan_99 : decode prog_11_method_63_code 99 = .ok (.invokevirtual 237, 3) := by decide +kernel
theorem dX9_plan_102 : decode prog_11_method_63_code 102 = .ok (.ifCond .eq 64, 3) := by decide +kernel
theorem dX9_plan_105 : decode prog_11_method_63_code 105 = .ok (.aload_n 0, 1) := by decide +kernel
theorem dX9_plan_106 : decode prog_11_method_63_code 106 = .ok (.getfield 25, 3) := by decide +kernel
theorem dX9_plan_109 : decode prog_11_method_63_code 109 = .ok (.iconst 0, 1) := by decide +kernel
theorem dX9_plan_110 : decode prog_11_method_63_code 110 = .ok (.aload_n 0, 1) := by decide +kernel
theorem dX9_plan_111 : decode prog_11_method_63_code 111 = .ok (.getfield 53, 3) := by decide +kernel
theorem dX9_plan_114 : decode prog_11_method_63_code 114 = .ok (.iconst 0, 1) := by decide +kernel
theorem dX9_plan_115 : decode prog_11_method_63_code 115 = .ok (.invokestatic 211, 3) := by decide +kernel
theorem dX9_plan_118 : decode prog_11_method_63_code 118 = .ok (.aload_n 0, 1) := by decide +kernel
theorem dX9_plan_119 : decode prog_11_method_63_code 119 = .ok (.aload_n 0, 1) := by decide +kernel
theorem dX9_plan_120 : decode prog_11_method_63_code 120 = .ok (.getfield 53, 3) := by decide +kernel
theorem dX9_plan_123 : decode prog_11_method_63_code 123 = .ok (.iconst 1, 1) := by decide +kernel
theorem dX9_plan_124 : decode prog_11_method_63_code 124 = .ok (.iload 7, 2) := by decide +kernel
theorem dX9_plan_126 : decode prog_11_method_63_code 126 = .ok (.ishl, 1) := by decide +kernel
theorem dX9_plan_127 : decode prog_11_method_63_code 127 = .ok (.invokevirtual 215, 3) := by decide +kernel
theorem dX9_plan_130 : decode prog_11_method_63_code 130 = .ok (.aload_n 0, 1) := by decide +kernel
theorem dX9_plan_131 : decode prog_11_method_63_code 131 = .ok (.aload_n 0, 1) := by decide +kernel
theorem dX9_plan_132 : decode prog_11_method_63_code 132 = .ok (.getfield 53, 3) := by decide +kernel
theorem dX9_plan_135 : decode prog_11_method_63_code 135 = .ok (.invokevirtual 219, 3) := by decide +kernel
theorem dX9_plan_138 : decode prog_11_method_63_code 138 = .ok (.aload_n 0, 1) := by decide +kernel
theorem dX9_plan_139 : decode prog_11_method_63_code 139 = .ok (.aload_n 0, 1) := by decide +kernel
theorem dX9_plan_140 : decode prog_11_method_63_code 140 = .ok (.getfield 53, 3) := by decide +kernel
theorem dX9_plan_143 : decode prog_11_method_63_code 143 = .ok (.iload_n 1, 1) := by decide +kernel
theorem dX9_plan_144 : decode prog_11_method_63_code 144 = .ok (.invokevirtual 289, 3) := by decide +kernel
theorem dX9_plan_147 : decode prog_11_method_63_code 147 = .ok (.istore 8, 2) := by decide +kernel
theorem dX9_plan_149 : decode prog_11_method_63_code 149 = .ok (.iload 8, 2) := by decide +kernel
theorem dX9_plan_151 : decode prog_11_method_63_code 151 = .ok (.iload_n 3, 1) := by decide +kernel
theorem dX9_plan_152 : decode prog_11_method_63_code 152 = .ok (.if_icmp .le 14, 3) := by decide +kernel
theorem dX9_plan_155 : decode prog_11_method_63_code 155 = .ok (.iload 8, 2) := by decide +kernel
theorem dX9_plan_157 : decode prog_11_method_63_code 157 = .ok (.istore_n 3, 1) := by decide +kernel
theorem dX9_plan_158 : decode prog_11_method_63_code 158 = .ok (.iload 6, 2) := by decide +kernel
theorem dX9_plan_160 : decode prog_11_method_63_code 160 = .ok (.istore 4, 2) := by decide +kernel
theorem dX9_plan_162 : decode prog_11_method_63_code 162 = .ok (.iload 7, 2) := by decide +kernel
theorem dX9_plan_164 : decode prog_11_method_63_code 164 = .ok (.istore 5, 2) := by decide +kernel
theorem dX9_plan_166 : decode prog_11_method_63_code 166 = .ok (.iinc 7 1, 3) := by decide +kernel
theorem dX9_plan_169 : decode prog_11_method_63_code 169 = .ok (.goto (-97), 3) := by decide +kernel
theorem dX9_plan_172 : decode prog_11_method_63_code 172 = .ok (.iload 6, 2) := by decide +kernel
theorem dX9_plan_174 : decode prog_11_method_63_code 174 = .ok (.invokestatic 281, 3) := by decide +kernel
theorem dX9_plan_177 : decode prog_11_method_63_code 177 = .ok (.istore 6, 2) := by decide +kernel
theorem dX9_plan_179 : decode prog_11_method_63_code 179 = .ok (.goto (-118), 3) := by decide +kernel
theorem dX9_plan_182 : decode prog_11_method_63_code 182 = .ok (.iload_n 2, 1) := by decide +kernel
theorem dX9_plan_183 : decode prog_11_method_63_code 183 = .ok (.ifCond .ne 11, 3) := by decide +kernel
theorem dX9_plan_186 : decode prog_11_method_63_code 186 = .ok (.iload_n 3, 1) := by decide +kernel
theorem dX9_plan_187 : decode prog_11_method_63_code 187 = .ok (.sipush 9999, 3) := by decide +kernel
theorem dX9_plan_190 : decode prog_11_method_63_code 190 = .ok (.iadd, 1) := by decide +kernel
theorem dX9_plan_191 : decode prog_11_method_63_code 191 = .ok (.goto 15, 3) := by decide +kernel
theorem dX9_plan_194 : decode prog_11_method_63_code 194 = .ok (.iload_n 2, 1) := by decide +kernel
theorem dX9_plan_195 : decode prog_11_method_63_code 195 = .ok (.iconst 1, 1) := by decide +kernel
theorem dX9_plan_196 : decode prog_11_method_63_code 196 = .ok (.if_icmp .ne 8, 3) := by decide +kernel
theorem dX9_plan_199 : decode prog_11_method_63_code 199 = .ok (.iload 4, 2) := by decide +kernel
theorem dX9_plan_201 : decode prog_11_method_63_code 201 = .ok (.goto 5, 3) := by decide +kernel
theorem dX9_plan_204 : decode prog_11_method_63_code 204 = .ok (.iload 5, 2) := by decide +kernel
theorem dX9_plan_206 : decode prog_11_method_63_code 206 = .ok (.ireturn, 1) := by decide +kernel
theorem dX9_isSaved_0 : decode prog_11_method_64_code 0 = .ok (.aload_n 0, 1) := by decide +kernel
theorem dX9_isSaved_1 : decode prog_11_method_64_code 1 = .ok (.getfield 25, 3) := by decide +kernel
theorem dX9_isSaved_4 : decode prog_11_method_64_code 4 = .ok (.iconst 0, 1) := by decide +kernel
theorem dX9_isSaved_5 : decode prog_11_method_64_code 5 = .ok (.aload_n 0, 1) := by decide +kernel
theorem dX9_isSaved_6 : decode prog_11_method_64_code 6 = .ok (.getfield 34, 3) := by decide +kernel
theorem dX9_isSaved_9 : decode prog_11_method_64_code 9 = .ok (.iconst 0, 1) := by decide +kernel
theorem dX9_isSaved_10 : decode prog_11_method_64_code 10 = .ok (.invokestatic 211, 3) := by decide +kernel
theorem dX9_isSaved_13 : decode prog_11_method_64_code 13 = .ok (.aload_n 0, 1) := by decide +kernel
theorem dX9_isSaved_14 : decode prog_11_method_64_code 14 = .ok (.getfield 34, 3) := by decide +kernel
theorem dX9_isSaved_17 : decode prog_11_method_64_code 17 = .ok (.iconst 0, 1) := by decide +kernel
theorem dX9_isSaved_18 : decode prog_11_method_64_code 18 = .ok (.aload_n 0, 1) := by decide +kernel
theorem dX9_isSaved_19 : decode prog_11_method_64_code 19 = .ok (.getfield 34, 3) := by decide +kernel
theorem dX9_isSaved_22 : decode prog_11_method_64_code 22 = .ok (.iconst 0, 1) := by decide +kernel
theorem dX9_isSaved_23 : decode prog_11_method_64_code 23 = .ok (.iaload, 1) := by decide +kernel
theorem dX9_isSaved_24 : decode prog_11_method_64_code 24 = .ok (.iconst 1, 1) := by decide +kernel
theorem dX9_isSaved_25 : decode prog_11_method_64_code 25 = .ok (.iload_n 1, 1) := by decide +kernel
theorem dX9_isSaved_26 : decode prog_11_method_64_code 26 = .ok (.aload_n 0, 1) := by decide +kernel
theorem dX9_isSaved_27 : decode prog_11_method_64_code 27 = .ok (.getfield 59, 3) := by decide +kernel
theorem dX9_isSaved_30 : decode prog_11_method_64_code 30 = .ok (.irem, 1) := by decide +kernel
theorem dX9_isSaved_31 : decode prog_11_method_64_code 31 = .ok (.ishl, 1) := by decide +kernel
theorem dX9_isSaved_32 : decode prog_11_method_64_code 32 = .ok (.ixor, 1) := by decide +kernel
theorem dX9_isSaved_33 : decode prog_11_method_64_code 33 = .ok (.iastore, 1) := by decide +kernel
theorem dX9_isSaved_34 : decode prog_11_method_64_code 34 = .ok (.iload_n 2, 1) := by decide +kernel
theorem dX9_isSaved_35 : decode prog_11_method_64_code 35 = .ok (.iconst 1, 1) := by decide +kernel
theorem dX9_isSaved_36 : decode prog_11_method_64_code 36 = .ok (.if_icmp .ne 24, 3) := by decide +kernel
theorem dX9_isSaved_39 : decode prog_11_method_64_code 39 = .ok (.aload_n 0, 1) := by decide +kernel
theorem dX9_isSaved_40 : decode prog_11_method_64_code 40 = .ok (.aload_n 0, 1) := by decide +kernel
theorem dX9_isSaved_41 : decode prog_11_method_64_code 41 = .ok (.getfield 34, 3) := by decide +kernel
theorem dX9_isSaved_44 : decode prog_11_method_64_code 44 = .ok (.invokevirtual 267, 3) := by decide +kernel
theorem dX9_isSaved_47 : decode prog_11_method_64_code 47 = .ok (.aload_n 0, 1) := by decide +kernel
theorem dX9_isSaved_48 : decode prog_11_method_64_code 48 = .ok (.getfield 251, 3) := by decide +kernel
theorem dX9_isSaved_51 : decode prog_11_method_64_code 51 = .ok (.ifCond .lt 7, 3) := by decide +kernel
theorem dX9_isSaved_54 : decode prog_11_method_64_code 54 = .ok (.iconst 1, 1) := by decide +kernel
theorem dX9_isSaved_55 : decode prog_11_method_64_code 55 = .ok (.goto 4, 3) := by decide +kernel
theorem dX9_isSaved_58 : decode prog_11_method_64_code 58 = .ok (.iconst 0, 1) := by decide +kernel
theorem dX9_isSaved_59 : decode prog_11_method_64_code 59 = .ok (.ireturn, 1) := by decide +kernel
theorem dX9_isSaved_60 : decode prog_11_method_64_code 60 = .ok (.iconst 0, 1) := by decide +kernel
theorem dX9_isSaved_61 : decode prog_11_method_64_code 61 = .ok (.istore_n 3, 1) := by decide +kernel
theorem dX9_isSaved_62 : decode prog_11_method_64_code 62 = .ok (.iload_n 3, 1) := by decide +kernel
theorem dX9_isSaved_63 : decode prog_11_method_64_code 63 = .ok (.aload_n 0, 1) := by decide +kernel
theorem dX9_isSaved_64 : decode prog_11_method_64_code 64 = .ok (.getfield 73, 3) := by decide +kernel
theorem dX9_isSaved_67 : decode prog_11_method_64_code 67 = .ok (.if_icmp .ge 41, 3) := by decide +kernel
theorem dX9_isSaved_70 : decode prog_11_method_64_code 70 = .ok (.iload_n 2, 1) := by decide +kernel
theorem dX9_isSaved_71 : decode prog_11_method_64_code 71 = .ok (.iconst 2, 1) := by decide +kernel
theorem dX9_isSaved_72 : decode prog_11_method_64_code 72 = .ok (.if_icmp .ne 36, 3) := by decide +kernel
theorem dX9_isSaved_75 : decode prog_11_method_64_code 75 = .ok (.aload_n 0, 1) := by decide +kernel
theorem dX9_isSaved_76 : decode prog_11_method_64_code 76 = .ok (.getfield 34, 3) := by decide +kernel
theorem dX9_isSaved_79 : decode prog_11_method_64_code 79 = .ok (.iconst 2, 1) := by decide +kernel
theorem dX9_isSaved_80 : decode prog_11_method_64_code 80 = .ok (.bipush 6, 2) := by decide +kernel
theorem dX9_isSaved_82 : decode prog_11_method_64_code 82 = .ok (.iload_n 3, 1) := by decide +kernel
theorem dX9_isSaved_83 : decode prog_11_method_64_code 83 = .ok (.imul, 1) := by decide +kernel
theorem dX9_isSaved_84 : decode prog_11_method_64_code 84 = .ok (.iadd, 1) := by decide +kernel
theorem dX9_isSaved_85 : decode prog_11_method_64_code 85 = .ok (.iload_n 1, 1) := by decide +kernel
theorem dX9_isSaved_86 : decode prog_11_method_64_code 86 = .ok (.bipush 8, 2) := by decide +kernel
theorem dX9_isSaved_88 : decode prog_11_method_64_code 88 = .ok (.idiv, 1) := by decide +kernel
theorem dX9_isSaved_89 : decode prog_11_method_64_code 89 = .ok (.aload_n 0, 1) := by decide +kernel
theorem dX9_isSaved_90 : decode prog_11_method_64_code 90 = .ok (.getfield 59, 3) := by decide +kernel
theorem dX9_isSaved_93 : decode prog_11_method_64_code 93 = .ok (.irem, 1) := by decide +kernel
theorem dX9_isSaved_94 : decode prog_11_method_64_code 94 = .ok (.iadd, 1) := by decide +kernel
theorem dX9_isSaved_95 : decode prog_11_method_64_code 95 = .ok (.iload_n 1, 1) := by decide +kernel
theorem dX9_isSaved_96 : decode prog_11_method_64_code 96 = .ok (.bipush 64, 2) := by decide +kernel
theorem dX9_isSaved_98 : decode prog_11_method_64_code 98 = .ok (.idiv, 1) := by decide +kernel
theorem dX9_isSaved_99 : decode prog_11_method_64_code 99 = .ok (.iconst 2, 1) := by decide +kernel
theorem dX9_isSaved_100 : decode prog_11_method_64_code 100 = .ok (.irem, 1) := by decide +kernel
theorem dX9_isSaved_101 : decode prog_11_method_64_code 101 = .ok (.iastore, 1) := by decide +kernel
theorem dX9_isSaved_102 : decode prog_11_method_64_code 102 = .ok (.iinc 3 1, 3) := by decide +kernel
theorem dX9_isSaved_105 : decode prog_11_method_64_code 105 = .ok (.goto (-43), 3) := by decide +kernel
theorem dX9_isSaved_108 : decode prog_11_method_64_code 108 = .ok (.aload_n 0, 1) := by decide +kernel
theorem dX9_isSaved_109 : decode prog_11_method_64_code 109 = .ok (.aload_n 0, 1) := by decide +kernel
theorem dX9_isSaved_110 : decode prog_11_method_64_code 110 = .ok (.getfield 34, 3) := by decide +kernel
theorem dX9_isSaved_113 : decode prog_11_method_64_code 113 = .ok (.invokevirtual 219, 3) := by decide +kernel
theorem dX9_isSaved_116 : decode prog_11_method_64_code 116 = .ok (.aload_n 0, 1) := by decide +kernel
theorem dX9_isSaved_117 : decode prog_11_method_64_code 117 = .ok (.aload_n 0, 1) := by decide +kernel
theorem dX9_isSaved_118 : decode prog_11_method_64_code 118 = .ok (.getfield 34, 3) := by decide +kernel
theorem dX9_isSaved_121 : decode prog_11_method_64_code 121 = .ok (.iconst 0, 1) := by decide +kernel
theorem dX9_isSaved_122 : decode prog_11_method_64_code 122 = .ok (.iaload, 1) := by decide +kernel
theorem dX9_isSaved_123 : decode prog_11_method_64_code 123 = .ok (.invokevirtual 248, 3) := by decide +kernel
theorem dX9_isSaved_126 : decode prog_11_method_64_code 126 = .ok (.ifCond .lt 7, 3) := by decide +kernel
theorem dX9_isSaved_129 : decode prog_11_method_64_code 129 = .ok (.iconst 1, 1) := by decide +kernel
theorem dX9_isSaved_130 : decode prog_11_method_64_code 130 = .ok (.goto 4, 3) := by decide +kernel
theorem dX9_isSaved_133 : decode prog_11_method_64_code 133 = .ok (.iconst 0, 1) := by decide +kernel
theorem dX9_isSaved_134 : decode prog_11_method_64_code 134 = .ok (.ireturn, 1) := by decide +kernel
theorem dX9_sieges_0 : decode prog_11_method_65_code 0 = .ok (.iload_n 1, 1) := by decide +kernel
theorem dX9_sieges_1 : decode prog_11_method_65_code 1 = .ok (.iconst 0, 1) := by decide +kernel
theorem dX9_sieges_2 : decode prog_11_method_65_code 2 = .ok (.sipush 9999, 3) := by decide +kernel
theorem dX9_sieges_5 : decode prog_11_method_65_code 5 = .ok (.invokestatic 69, 3) := by decide +kernel
theorem dX9_sieges_8 : decode prog_11_method_65_code 8 = .ok (.ifCond .eq 22, 3) := by decide +kernel
theorem dX9_sieges_11 : decode prog_11_method_65_code 11 = .ok (.iload_n 2, 1) := by decide +kernel
theorem dX9_sieges_12 : decode prog_11_method_65_code 12 = .ok (.iconst 0, 1) := by decide +kernel
theorem dX9_sieges_13 : decode prog_11_method_65_code 13 = .ok (.bipush 9, 2) := by decide +kernel
theorem dX9_sieges_15 : decode prog_11_method_65_code 15 = .ok (.invokestatic 69, 3) := by decide +kernel
theorem dX9_sieges_18 : decode prog_11_method_65_code 18 = .ok (.ifCond .eq 12, 3) := by decide +kernel
theorem dX9_sieges_21 : decode prog_11_method_65_code 21 = .ok (.iload_n 3, 1) := by decide +kernel
theorem dX9_sieges_22 : decode prog_11_method_65_code 22 = .ok (.iconst 0, 1) := by decide +kernel
theorem dX9_sieges_23 : decode prog_11_method_65_code 23 = .ok (.iconst 2, 1) := by decide +kernel
theorem dX9_sieges_24 : decode prog_11_method_65_code 24 = .ok (.invokestatic 69, 3) := by decide +kernel
theorem dX9_sieges_27 : decode prog_11_method_65_code 27 = .ok (.ifCond .ne 6, 3) := by decide +kernel
theorem dX9_sieges_30 : decode prog_11_method_65_code 30 = .ok (.bipush (-3), 2) := by decide +kernel
theorem dX9_sieges_32 : decode prog_11_method_65_code 32 = .ok (.ireturn, 1) := by decide +kernel
theorem dX9_sieges_33 : decode prog_11_method_65_code 33 = .ok (.aload_n 0, 1) := by decide +kernel
theorem dX9_sieges_34 : decode prog_11_method_65_code 34 = .ok (.getfield 59, 3) := by decide +kernel
theorem dX9_sieges_37 : decode prog_11_method_65_code 37 = .ok (.ifCond .ne 6, 3) := by decide +kernel
theorem dX9_sieges_40 : decode prog_11_method_65_code 40 = .ok (.bipush (-4), 2) := by decide +kernel
theorem dX9_sieges_42 : decode prog_11_method_65_code 42 = .ok (.ireturn, 1) := by decide +kernel
theorem dX9_sieges_43 : decode prog_11_method_65_code 43 = .ok (.iconst 0, 1) := by decide +kernel
theorem dX9_sieges_44 : decode prog_11_method_65_code 44 = .ok (.istore 4, 2) := by decide +kernel
theorem dX9_sieges_46 : decode prog_11_method_65_code 46 = .ok (.iconst 0, 1) := by decide +kernel
theorem dX9_sieges_47 : decode prog_11_method_65_code 47 = .ok (.istore 5, 2) := by decide +kernel
theorem dX9_sieges_49 : decode prog_11_method_65_code 49 = .ok (.iload 5, 2) := by decide +kernel
theorem dX9_sieges_51 : decode prog_11_method_65_code 51 = .ok (.iload_n 2, 1) := by decide +kernel
theorem dX9_sieges_52 : decode prog_11_method_65_code 52 = .ok (.if_icmp .ge 59, 3) := by decide +kernel
theorem dX9_sieges_55 : decode prog_11_method_65_code 55 = .ok (.ldc2_w 293, 3) := by decide +kernel
theorem dX9_sieges_58 : decode prog_11_method_65_code 58 = .ok (.iload_n 1, 1) := by decide +kernel
theorem dX9_sieges_59 : decode prog_11_method_65_code 59 = .ok (.i2l, 1) := by decide +kernel
theorem dX9_sieges_60 : decode prog_11_method_65_code 60 = .ok (.lmul, 1) := by decide +kernel
theorem dX9_sieges_61 : decode prog_11_method_65_code 61 = .ok (.ldc2_w 295, 3) := by decide +kernel
theorem dX9_sieges_64 : decode prog_11_method_65_code 64 = .ok (.iload 5, 2) := by decide +kernel
theorem dX9_sieges_66 : decode prog_11_method_65_code 66 = .ok (.i2l, 1) := by decide +kernel
theorem dX9_sieges_67 : decode prog_11_method_65_code 67 = .ok (.lmul, 1) := by decide +kernel
theorem dX9_sieges_68 : decode prog_11_method_65_code 68 = .ok (.ladd, 1) := by decide +kernel
theorem dX9_sieges_69 : decode prog_11_method_65_code 69 = .ok (.lconst 1, 1) := by decide +kernel
theorem dX9_sieges_70 : decode prog_11_method_65_code 70 = .ok (.ladd, 1) := by decide +kernel
theorem dX9_sieges_71 : decode prog_11_method_65_code 71 = .ok (.lstore 6, 2) := by decide +kernel
theorem dX9_sieges_73 : decode prog_11_method_65_code 73 = .ok (.lload 6, 2) := by decide +kernel
theorem dX9_sieges_75 : decode prog_11_method_65_code 75 = .ok (.lload 6, 2) := by decide +kernel
theorem dX9_sieges_77 : decode prog_11_method_65_code 77 = .ok (.lmul, 1) := by decide +kernel
theorem dX9_sieges_78 : decode prog_11_method_65_code 78 = .ok (.ldc2_w 297, 3) := by decide +kernel
theorem dX9_sieges_81 : decode prog_11_method_65_code 81 = .ok (.lrem, 1) := by decide +kernel
theorem dX9_sieges_82 : decode prog_11_method_65_code 82 = .ok (.l2i, 1) := by decide +kernel
theorem dX9_sieges_83 : decode prog_11_method_65_code 83 = .ok (.istore 8, 2) := by decide +kernel
theorem dX9_sieges_85 : decode prog_11_method_65_code 85 = .ok (.iload 4, 2) := by decide +kernel
theorem dX9_sieges_87 : decode prog_11_method_65_code 87 = .ok (.aload_n 0, 1) := by decide +kernel
theorem dX9_sieges_88 : decode prog_11_method_65_code 88 = .ok (.iload 8, 2) := by decide +kernel
theorem dX9_sieges_90 : decode prog_11_method_65_code 90 = .ok (.iload_n 3, 1) := by decide +kernel
theorem dX9_sieges_91 : decode prog_11_method_65_code 91 = .ok (.invokevirtual 299, 3) := by decide +kernel
theorem dX9_sieges_94 : decode prog_11_method_65_code 94 = .ok (.ifCond .eq 7, 3) := by decide +kernel
theorem dX9_sieges_97 : decode prog_11_method_65_code 97 = .ok (.iconst 1, 1) := by decide +kernel
theorem dX9_sieges_98 : decode prog_11_method_65_code 98 = .ok (.goto 4, 3) := by decide +kernel
theorem dX9_sieges_101 : decode prog_11_method_65_code 101 = .ok (.iconst 0, 1) := by decide +kernel
theorem dX9_sieges_102 : decode prog_11_method_65_code 102 = .ok (.iadd, 1) := by decide +kernel
theorem dX9_sieges_103 : decode prog_11_method_65_code 103 = .ok (.istore 4, 2) := by decide +kernel
theorem dX9_sieges_105 : decode prog_11_method_65_code 105 = .ok (.iinc 5 1, 3) := by decide +kernel
theorem dX9_sieges_108 : decode prog_11_method_65_code 108 = .ok (.goto (-59), 3) := by decide +kernel
theorem dX9_sieges_111 : decode prog_11_method_65_code 111 = .ok (.iload 4, 2) := by decide +kernel
theorem dX9_sieges_113 : decode prog_11_method_65_code 113 = .ok (.ireturn, 1) := by decide +kernel
theorem dX9_count_0 : decode prog_11_method_66_code 0 = .ok (.iconst 0, 1) := by decide +kernel
theorem dX9_count_1 : decode prog_11_method_66_code 1 = .ok (.istore_n 2, 1) := by decide +kernel
theorem dX9_count_2 : decode prog_11_method_66_code 2 = .ok (.iconst 2, 1) := by decide +kernel
theorem dX9_count_3 : decode prog_11_method_66_code 3 = .ok (.istore_n 3, 1) := by decide +kernel
theorem dX9_count_4 : decode prog_11_method_66_code 4 = .ok (.iload_n 3, 1) := by decide +kernel
theorem dX9_count_5 : decode prog_11_method_66_code 5 = .ok (.bipush 32, 2) := by decide +kernel
theorem dX9_count_7 : decode prog_11_method_66_code 7 = .ok (.if_icmp .ge 27, 3) := by decide +kernel
theorem dX9_count_10 : decode prog_11_method_66_code 10 = .ok (.iload_n 2, 1) := by decide +kernel
theorem dX9_count_11 : decode prog_11_method_66_code 11 = .ok (.aload_n 0, 1) := by decide +kernel
theorem dX9_count_12 : decode prog_11_method_66_code 12 = .ok (.getfield 25, 3) := by decide +kernel
theorem dX9_count_15 : decode prog_11_method_66_code 15 = .ok (.iload_n 3, 1) := by decide +kernel
theorem dX9_count_16 : decode prog_11_method_66_code 16 = .ok (.iaload, 1) := by decide +kernel
theorem dX9_count_17 : decode prog_11_method_66_code 17 = .ok (.iconst (-1), 1) := by decide +kernel
theorem dX9_count_18 : decode prog_11_method_66_code 18 = .ok (.if_icmp .ne 7, 3) := by decide +kernel
theorem dX9_count_21 : decode prog_11_method_66_code 21 = .ok (.iconst 0, 1) := by decide +kernel
theorem dX9_count_22 : decode prog_11_method_66_code 22 = .ok (.goto 4, 3) := by decide +kernel
theorem dX9_count_25 : decode prog_11_method_66_code 25 = .ok (.iconst 1, 1) := by decide +kernel
theorem dX9_count_26 : decode prog_11_method_66_code 26 = .ok (.iadd, 1) := by decide +kernel
theorem dX9_count_27 : decode prog_11_method_66_code 27 = .ok (.istore_n 2, 1) := by decide +kernel
theorem dX9_count_28 : decode prog_11_method_66_code 28 = .ok (.iinc 3 1, 3) := by decide +kernel
theorem dX9_count_31 : decode prog_11_method_66_code 31 = .ok (.goto (-27), 3) := by decide +kernel
theorem dX9_count_34 : decode prog_11_method_66_code 34 = .ok (.iload_n 1, 1) := by decide +kernel
theorem dX9_count_35 : decode prog_11_method_66_code 35 = .ok (.tableswitch 114 0 9 #[53, 58, 63, 68, 75, 90, 97, 99, 104, 109], 53) := by decide +kernel
theorem dX9_count_88 : decode prog_11_method_66_code 88 = .ok (.aload_n 0, 1) := by decide +kernel
theorem dX9_count_89 : decode prog_11_method_66_code 89 = .ok (.getfield 59, 3) := by decide +kernel
theorem dX9_count_92 : decode prog_11_method_66_code 92 = .ok (.ireturn, 1) := by decide +kernel
theorem dX9_count_93 : decode prog_11_method_66_code 93 = .ok (.aload_n 0, 1) := by decide +kernel
theorem dX9_count_94 : decode prog_11_method_66_code 94 = .ok (.getfield 73, 3) := by decide +kernel
theorem dX9_count_97 : decode prog_11_method_66_code 97 = .ok (.ireturn, 1) := by decide +kernel
theorem dX9_count_98 : decode prog_11_method_66_code 98 = .ok (.aload_n 0, 1) := by decide +kernel
theorem dX9_count_99 : decode prog_11_method_66_code 99 = .ok (.getfield 159, 3) := by decide +kernel
theorem dX9_count_102 : decode prog_11_method_66_code 102 = .ok (.ireturn, 1) := by decide +kernel
theorem dX9_count_103 : decode prog_11_method_66_code 103 = .ok (.aload_n 0, 1) := by decide +kernel
theorem dX9_count_104 : decode prog_11_method_66_code 104 = .ok (.getfield 25, 3) := by decide +kernel
theorem dX9_count_107 : decode prog_11_method_66_code 107 = .ok (.iconst 1, 1) := by decide +kernel
theorem dX9_count_108 : decode prog_11_method_66_code 108 = .ok (.iaload, 1) := by decide +kernel
theorem dX9_count_109 : decode prog_11_method_66_code 109 = .ok (.ireturn, 1) := by decide +kernel
theorem dX9_count_110 : decode prog_11_method_66_code 110 = .ok (.aload_n 0, 1) := by decide +kernel
theorem dX9_count_111 : decode prog_11_method_66_code 111 = .ok (.aload_n 0, 1) := by decide +kernel
theorem dX9_count_112 : decode prog_11_method_66_code 112 = .ok (.getfield 25, 3) := by decide +kernel
theorem dX9_count_115 : decode prog_11_method_66_code 115 = .ok (.iconst 0, 1) := by decide +kernel
theorem dX9_count_116 : decode prog_11_method_66_code 116 = .ok (.iaload, 1) := by decide +kernel
theorem dX9_count_117 : decode prog_11_method_66_code 117 = .ok (.invokevirtual 248, 3) := by decide +kernel
theorem dX9_count_120 : decode prog_11_method_66_code 120 = .ok (.sipush 9999, 3) := by decide +kernel
theorem dX9_count_123 : decode prog_11_method_66_code 123 = .ok (.iadd, 1) := by decide +kernel
theorem dX9_count_124 : decode prog_11_method_66_code 124 = .ok (.ireturn, 1) := by decide +kernel
theorem dX9_count_125 : decode prog_11_method_66_code 125 = .ok (.aload_n 0, 1) := by decide +kernel
theorem dX9_count_126 : decode prog_11_method_66_code 126 = .ok (.getfield 25, 3) := by decide +kernel
theorem dX9_count_129 : decode prog_11_method_66_code 129 = .ok (.iconst 0, 1) := by decide +kernel
theorem dX9_count_130 : decode prog_11_method_66_code 130 = .ok (.iaload, 1) := by decide +kernel
theorem dX9_count_131 : decode prog_11_method_66_code 131 = .ok (.ireturn, 1) := by decide +kernel
theorem dX9_count_132 : decode prog_11_method_66_code 132 = .ok (.iload_n 2, 1) := by decide +kernel
theorem dX9_count_133 : decode prog_11_method_66_code 133 = .ok (.ireturn, 1) := by decide +kernel
theorem dX9_count_134 : decode prog_11_method_66_code 134 = .ok (.aload_n 0, 1) := by decide +kernel
theorem dX9_count_135 : decode prog_11_method_66_code 135 = .ok (.getfield 66, 3) := by decide +kernel
theorem dX9_count_138 : decode prog_11_method_66_code 138 = .ok (.ireturn, 1) := by decide +kernel
theorem dX9_count_139 : decode prog_11_method_66_code 139 = .ok (.aload_n 0, 1) := by decide +kernel
theorem dX9_count_140 : decode prog_11_method_66_code 140 = .ok (.getfield 63, 3) := by decide +kernel
theorem dX9_count_143 : decode prog_11_method_66_code 143 = .ok (.ireturn, 1) := by decide +kernel
theorem dX9_count_144 : decode prog_11_method_66_code 144 = .ok (.aload_n 0, 1) := by decide +kernel
theorem dX9_count_145 : decode prog_11_method_66_code 145 = .ok (.getfield 76, 3) := by decide +kernel
theorem dX9_count_148 : decode prog_11_method_66_code 148 = .ok (.ireturn, 1) := by decide +kernel
theorem dX9_count_149 : decode prog_11_method_66_code 149 = .ok (.bipush (-3), 2) := by decide +kernel
theorem dX9_count_151 : decode prog_11_method_66_code 151 = .ok (.ireturn, 1) := by decide +kernel
