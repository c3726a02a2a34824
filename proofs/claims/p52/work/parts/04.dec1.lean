theorem dX0_init_0 : decode cX0_init 0 = .ok (.aload_n 0, 1) := by decide +kernel
theorem dX0_init_1 : decode cX0_init 1 = .ok (.invokespecial 3, 3) := by decide +kernel
theorem dX0_init_4 : decode cX0_init 4 = .ok (.aload_n 0, 1) := by decide +kernel
theorem dX0_init_5 : decode cX0_init 5 = .ok (.new 9, 3) := by decide +kernel
theorem dX0_init_8 : decode cX0_init 8 = .ok (.dup, 1) := by decide +kernel
theorem dX0_init_9 : decode cX0_init 9 = .ok (.sipush 150, 3) := by decide +kernel
theorem dX0_init_12 : decode cX0_init 12 = .ok (.invokespecial 11, 3) := by decide +kernel
theorem dX0_init_15 : decode cX0_init 15 = .ok (.putfield 14, 3) := by decide +kernel
theorem dX0_init_18 : decode cX0_init 18 = .ok (.aload_n 0, 1) := by decide +kernel
theorem dX0_init_19 : decode cX0_init 19 = .ok (.new 9, 3) := by decide +kernel
theorem dX0_init_22 : decode cX0_init 22 = .ok (.dup, 1) := by decide +kernel
theorem dX0_init_23 : decode cX0_init 23 = .ok (.sipush 150, 3) := by decide +kernel
theorem dX0_init_26 : decode cX0_init 26 = .ok (.invokespecial 11, 3) := by decide +kernel
theorem dX0_init_29 : decode cX0_init 29 = .ok (.putfield 20, 3) := by decide +kernel
theorem dX0_init_32 : decode cX0_init 32 = .ok (.aload_n 0, 1) := by decide +kernel
theorem dX0_init_33 : decode cX0_init 33 = .ok (.new 9, 3) := by decide +kernel
theorem dX0_init_36 : decode cX0_init 36 = .ok (.dup, 1) := by decide +kernel
theorem dX0_init_37 : decode cX0_init 37 = .ok (.sipush 150, 3) := by decide +kernel
theorem dX0_init_40 : decode cX0_init 40 = .ok (.invokespecial 11, 3) := by decide +kernel
theorem dX0_init_43 : decode cX0_init 43 = .ok (.putfield 23, 3) := by decide +kernel
theorem dX0_init_46 : decode cX0_init 46 = .ok (.aload_n 0, 1) := by decide +kernel
theorem dX0_init_47 : decode cX0_init 47 = .ok (.new 9, 3) := by decide +kernel
theorem dX0_init_50 : decode cX0_init 50 = .ok (.dup, 1) := by decide +kernel
theorem dX0_init_51 : decode cX0_init 51 = .ok (.sipush 150, 3) := by decide +kernel
theorem dX0_init_54 : decode cX0_init 54 = .ok (.invokespecial 11, 3) := by decide +kernel
theorem dX0_init_57 : decode cX0_init 57 = .ok (.putfield 26, 3) := by decide +kernel
theorem dX0_init_60 : decode cX0_init 60 = .ok (.aload_n 0, 1) := by decide +kernel
theorem dX0_init_61 : decode cX0_init 61 = .ok (.new 9, 3) := by decide +kernel
theorem dX0_init_64 : decode cX0_init 64 = .ok (.dup, 1) := by decide +kernel
theorem dX0_init_65 : decode cX0_init 65 = .ok (.sipush 4500, 3) := by decide +kernel
theorem dX0_init_68 : decode cX0_init 68 = .ok (.invokespecial 11, 3) := by decide +kernel
theorem dX0_init_71 : decode cX0_init 71 = .ok (.putfield 29, 3) := by decide +kernel
theorem dX0_init_74 : decode cX0_init 74 = .ok (.aload_n 0, 1) := by decide +kernel
theorem dX0_init_75 : decode cX0_init 75 = .ok (.new 9, 3) := by decide +kernel
theorem dX0_init_78 : decode cX0_init 78 = .ok (.dup, 1) := by decide +kernel
theorem dX0_init_79 : decode cX0_init 79 = .ok (.sipush 150, 3) := by decide +kernel
theorem dX0_init_82 : decode cX0_init 82 = .ok (.invokespecial 11, 3) := by decide +kernel
theorem dX0_init_85 : decode cX0_init 85 = .ok (.putfield 32, 3) := by decide +kernel
theorem dX0_init_88 : decode cX0_init 88 = .ok (.aload_n 0, 1) := by decide +kernel
theorem dX0_init_89 : decode cX0_init 89 = .ok (.new 9, 3) := by decide +kernel
theorem dX0_init_92 : decode cX0_init 92 = .ok (.dup, 1) := by decide +kernel
theorem dX0_init_93 : decode cX0_init 93 = .ok (.bipush 30, 2) := by decide +kernel
theorem dX0_init_95 : decode cX0_init 95 = .ok (.invokespecial 11, 3) := by decide +kernel
theorem dX0_init_98 : decode cX0_init 98 = .ok (.putfield 35, 3) := by decide +kernel
theorem dX0_init_101 : decode cX0_init 101 = .ok (.aload_n 0, 1) := by decide +kernel
theorem dX0_init_102 : decode cX0_init 102 = .ok (.new 9, 3) := by decide +kernel
theorem dX0_init_105 : decode cX0_init 105 = .ok (.dup, 1) := by decide +kernel
theorem dX0_init_106 : decode cX0_init 106 = .ok (.bipush 30, 2) := by decide +kernel
theorem dX0_init_108 : decode cX0_init 108 = .ok (.invokespecial 11, 3) := by decide +kernel
theorem dX0_init_111 : decode cX0_init 111 = .ok (.putfield 38, 3) := by decide +kernel
theorem dX0_init_114 : decode cX0_init 114 = .ok (.return_, 1) := by decide +kernel
theorem dX0_has_0 : decode cX0_has 0 = .ok (.iload_n 1, 1) := by decide +kernel
theorem dX0_has_1 : decode cX0_has 1 = .ok (.ifCond .lt 15, 3) := by decide +kernel
theorem dX0_has_4 : decode cX0_has 4 = .ok (.iload_n 1, 1) := by decide +kernel
theorem dX0_has_5 : decode cX0_has 5 = .ok (.aload_n 0, 1) := by decide +kernel
theorem dX0_has_6 : decode cX0_has 6 = .ok (.getfield 41, 3) := by decide +kernel
theorem dX0_has_9 : decode cX0_has 9 = .ok (.if_icmp .ge 7, 3) := by decide +kernel
theorem dX0_has_12 : decode cX0_has 12 = .ok (.iconst 1, 1) := by decide +kernel
theorem dX0_has_13 : decode cX0_has 13 = .ok (.goto 4, 3) := by decide +kernel
theorem dX0_has_16 : decode cX0_has 16 = .ok (.iconst 0, 1) := by decide +kernel
theorem dX0_has_17 : decode cX0_has 17 = .ok (.ireturn, 1) := by decide +kernel
theorem dX0_size_0 : decode cX0_size 0 = .ok (.aload_n 0, 1) := by decide +kernel
theorem dX0_size_1 : decode cX0_size 1 = .ok (.iload_n 1, 1) := by decide +kernel
theorem dX0_size_2 : decode cX0_size 2 = .ok (.invokevirtual 45, 3) := by decide +kernel
theorem dX0_size_5 : decode cX0_size 5 = .ok (.ifCond .eq 14, 3) := by decide +kernel
theorem dX0_size_8 : decode cX0_size 8 = .ok (.aload_n 0, 1) := by decide +kernel
theorem dX0_size_9 : decode cX0_size 9 = .ok (.getfield 23, 3) := by decide +kernel
theorem dX0_size_12 : decode cX0_size 12 = .ok (.iload_n 1, 1) := by decide +kernel
theorem dX0_size_13 : decode cX0_size 13 = .ok (.invokevirtual 49, 3) := by decide +kernel
theorem dX0_size_16 : decode cX0_size 16 = .ok (.goto 4, 3) := by decide +kernel
theorem dX0_size_19 : decode cX0_size 19 = .ok (.iconst 0, 1) := by decide +kernel
theorem dX0_size_20 : decode cX0_size 20 = .ok (.ireturn, 1) := by decide +kernel
theorem dX0_symbol_0 : decode cX0_symbol 0 = .ok (.iload_n 2, 1) := by decide +kernel
theorem dX0_symbol_1 : decode cX0_symbol 1 = .ok (.ifCond .lt 29, 3) := by decide +kernel
theorem dX0_symbol_4 : decode cX0_symbol 4 = .ok (.iload_n 2, 1) := by decide +kernel
theorem dX0_symbol_5 : decode cX0_symbol 5 = .ok (.aload_n 0, 1) := by decide +kernel
theorem dX0_symbol_6 : decode cX0_symbol 6 = .ok (.iload_n 1, 1) := by decide +kernel
theorem dX0_symbol_7 : decode cX0_symbol 7 = .ok (.invokevirtual 53, 3) := by decide +kernel
theorem dX0_symbol_10 : decode cX0_symbol 10 = .ok (.if_icmp .ge 20, 3) := by decide +kernel
theorem dX0_symbol_13 : decode cX0_symbol 13 = .ok (.aload_n 0, 1) := by decide +kernel
theorem dX0_symbol_14 : decode cX0_symbol 14 = .ok (.getfield 29, 3) := by decide +kernel
theorem dX0_symbol_17 : decode cX0_symbol 17 = .ok (.iload_n 1, 1) := by decide +kernel
theorem dX0_symbol_18 : decode cX0_symbol 18 = .ok (.bipush 30, 2) := by decide +kernel
theorem dX0_symbol_20 : decode cX0_symbol 20 = .ok (.imul, 1) := by decide +kernel
theorem dX0_symbol_21 : decode cX0_symbol 21 = .ok (.iload_n 2, 1) := by decide +kernel
theorem dX0_symbol_22 : decode cX0_symbol 22 = .ok (.iadd, 1) := by decide +kernel
theorem dX0_symbol_23 : decode cX0_symbol 23 = .ok (.invokevirtual 49, 3) := by decide +kernel
theorem dX0_symbol_26 : decode cX0_symbol 26 = .ok (.i2c, 1) := by decide +kernel
theorem dX0_symbol_27 : decode cX0_symbol 27 = .ok (.goto 4, 3) := by decide +kernel
theorem dX0_symbol_30 : decode cX0_symbol 30 = .ok (.iconst 0, 1) := by decide +kernel
theorem dX0_symbol_31 : decode cX0_symbol 31 = .ok (.ireturn, 1) := by decide +kernel
theorem dX0_kind_0 : decode cX0_kind 0 = .ok (.aload_n 0, 1) := by decide +kernel
theorem dX0_kind_1 : decode cX0_kind 1 = .ok (.iload_n 1, 1) := by decide +kernel
theorem dX0_kind_2 : decode cX0_kind 2 = .ok (.invokevirtual 45, 3) := by decide +kernel
theorem dX0_kind_5 : decode cX0_kind 5 = .ok (.ifCond .eq 18, 3) := by decide +kernel
theorem dX0_kind_8 : decode cX0_kind 8 = .ok (.aload_n 0, 1) := by decide +kernel
theorem dX0_kind_9 : decode cX0_kind 9 = .ok (.getfield 29, 3) := by decide +kernel
theorem dX0_kind_12 : decode cX0_kind 12 = .ok (.iload_n 1, 1) := by decide +kernel
theorem dX0_kind_13 : decode cX0_kind 13 = .ok (.bipush 30, 2) := by decide +kernel
theorem dX0_kind_15 : decode cX0_kind 15 = .ok (.imul, 1) := by decide +kernel
theorem dX0_kind_16 : decode cX0_kind 16 = .ok (.invokevirtual 49, 3) := by decide +kernel
theorem dX0_kind_19 : decode cX0_kind 19 = .ok (.i2c, 1) := by decide +kernel
theorem dX0_kind_20 : decode cX0_kind 20 = .ok (.goto 4, 3) := by decide +kernel
theorem dX0_kind_23 : decode cX0_kind 23 = .ok (.iconst 0, 1) := by decide +kernel
theorem dX0_kind_24 : decode cX0_kind 24 = .ok (.ireturn, 1) := by decide +kernel
theorem dX0_left_0 : decode cX0_left 0 = .ok (.aload_n 0, 1) := by decide +kernel
theorem dX0_left_1 : decode cX0_left 1 = .ok (.iload_n 1, 1) := by decide +kernel
theorem dX0_left_2 : decode cX0_left 2 = .ok (.invokevirtual 45, 3) := by decide +kernel
theorem dX0_left_5 : decode cX0_left 5 = .ok (.ifCond .eq 14, 3) := by decide +kernel
theorem dX0_left_8 : decode cX0_left 8 = .ok (.aload_n 0, 1) := by decide +kernel
theorem dX0_left_9 : decode cX0_left 9 = .ok (.getfield 14, 3) := by decide +kernel
theorem dX0_left_12 : decode cX0_left 12 = .ok (.iload_n 1, 1) := by decide +kernel
theorem dX0_left_13 : decode cX0_left 13 = .ok (.invokevirtual 49, 3) := by decide +kernel
theorem dX0_left_16 : decode cX0_left 16 = .ok (.goto 4, 3) := by decide +kernel
theorem dX0_left_19 : decode cX0_left 19 = .ok (.iconst (-1), 1) := by decide +kernel
theorem dX0_left_20 : decode cX0_left 20 = .ok (.ireturn, 1) := by decide +kernel
theorem dX0_right_0 : decode cX0_right 0 = .ok (.aload_n 0, 1) := by decide +kernel
theorem dX0_right_1 : decode cX0_right 1 = .ok (.iload_n 1, 1) := by decide +kernel
theorem dX0_right_2 : decode cX0_right 2 = .ok (.invokevirtual 45, 3) := by decide +kernel
theorem dX0_right_5 : decode cX0_right 5 = .ok (.ifCond .eq 14, 3) := by decide +kernel
theorem dX0_right_8 : decode cX0_right 8 = .ok (.aload_n 0, 1) := by decide +kernel
theorem dX0_right_9 : decode cX0_right 9 = .ok (.getfield 20, 3) := by decide +kernel
theorem dX0_right_12 : decode cX0_right 12 = .ok (.iload_n 1, 1) := by decide +kernel
theorem dX0_right_13 : decode cX0_right 13 = .ok (.invokevirtual 49, 3) := by decide +kernel
theorem dX0_right_16 : decode cX0_right 16 = .ok (.goto 4, 3) := by decide +kernel
theorem dX0_right_19 : decode cX0_right 19 = .ok (.iconst (-1), 1) := by decide +kernel
theorem dX0_right_20 : decode cX0_right 20 = .ok (.ireturn, 1) := by decide +kernel
theorem dX0_table_0 : decode cX0_table 0 = .ok (.aload_n 0, 1) := by decide +kernel
theorem dX0_table_1 : decode cX0_table 1 = .ok (.getfield 26, 3) := by decide +kernel
theorem dX0_table_4 : decode cX0_table 4 = .ok (.iload_n 1, 1) := by decide +kernel
theorem dX0_table_5 : decode cX0_table 5 = .ok (.invokevirtual 49, 3) := by decide +kernel
theorem dX0_table_8 : decode cX0_table 8 = .ok (.ireturn, 1) := by decide +kernel
theorem dX0_find_0 : decode cX0_find 0 = .ok (.iconst 0, 1) := by decide +kernel
theorem dX0_find_1 : decode cX0_find 1 = .ok (.istore 4, 2) := by decide +kernel
theorem dX0_find_3 : decode cX0_find 3 = .ok (.iload 4, 2) := by decide +kernel
theorem dX0_find_5 : decode cX0_find 5 = .ok (.aload_n 0, 1) := by decide +kernel
theorem dX0_find_6 : decode cX0_find 6 = .ok (.getfield 41, 3) := by decide +kernel
theorem dX0_find_9 : decode cX0_find 9 = .ok (.if_icmp .ge 48, 3) := by decide +kernel
theorem dX0_find_12 : decode cX0_find 12 = .ok (.aload_n 0, 1) := by decide +kernel
theorem dX0_find_13 : decode cX0_find 13 = .ok (.iload 4, 2) := by decide +kernel
theorem dX0_find_15 : decode cX0_find 15 = .ok (.invokevirtual 56, 3) := by decide +kernel
theorem dX0_find_18 : decode cX0_find 18 = .ok (.iload_n 1, 1) := by decide +kernel
theorem dX0_find_19 : decode cX0_find 19 = .ok (.if_icmp .ne 32, 3) := by decide +kernel
theorem dX0_find_22 : decode cX0_find 22 = .ok (.aload_n 0, 1) := by decide +kernel
theorem dX0_find_23 : decode cX0_find 23 = .ok (.getfield 14, 3) := by decide +kernel
theorem dX0_find_26 : decode cX0_find 26 = .ok (.iload 4, 2) := by decide +kernel
theorem dX0_find_28 : decode cX0_find 28 = .ok (.invokevirtual 49, 3) := by decide +kernel
theorem dX0_find_31 : decode cX0_find 31 = .ok (.iload_n 2, 1) := by decide +kernel
theorem dX0_find_32 : decode cX0_find 32 = .ok (.if_icmp .ne 19, 3) := by decide +kernel
theorem dX0_find_35 : decode cX0_find 35 = .ok (.aload_n 0, 1) := by decide +kernel
theorem dX0_find_36 : decode cX0_find 36 = .ok (.getfield 20, 3) := by decide +kernel
theorem dX0_find_39 : decode cX0_find 39 = .ok (.iload 4, 2) := by decide +kernel
theorem dX0_find_41 : decode cX0_find 41 = .ok (.invokevirtual 49, 3) := by decide +kernel
theorem dX0_find_44 : decode cX0_find 44 = .ok (.iload_n 3, 1) := by decide +kernel
theorem dX0_find_45 : decode cX0_find 45 = .ok (.if_icmp .ne 6, 3) := by decide +kernel
theorem dX0_find_48 : decode cX0_find 48 = .ok (.iload 4, 2) := by decide +kernel
theorem dX0_find_50 : decode cX0_find 50 = .ok (.ireturn, 1) := by decide +kernel
theorem dX0_find_51 : decode cX0_find 51 = .ok (.iinc 4 1, 3) := by decide +kernel
theorem dX0_find_54 : decode cX0_find 54 = .ok (.goto (-51), 3) := by decide +kernel
theorem dX0_find_57 : decode cX0_find 57 = .ok (.iconst (-1), 1) := by decide +kernel
theorem dX0_find_58 : decode cX0_find 58 = .ok (.ireturn, 1) := by decide +kernel
theorem dX0_enter_0 : decode cX0_enter 0 = .ok (.aload_n 0, 1) := by decide +kernel
theorem dX0_enter_1 : decode cX0_enter 1 = .ok (.iload_n 1, 1) := by decide +kernel
theorem dX0_enter_2 : decode cX0_enter 2 = .ok (.iload_n 2, 1) := by decide +kernel
theorem dX0_enter_3 : decode cX0_enter 3 = .ok (.iload_n 3, 1) := by decide +kernel
theorem dX0_enter_4 : decode cX0_enter 4 = .ok (.invokevirtual 60, 3) := by decide +kernel
theorem dX0_enter_7 : decode cX0_enter 7 = .ok (.istore 4, 2) := by decide +kernel
theorem dX0_enter_9 : decode cX0_enter 9 = .ok (.iload 4, 2) := by decide +kernel
theorem dX0_enter_11 : decode cX0_enter 11 = .ok (.iconst (-1), 1) := by decide +kernel
theorem dX0_enter_12 : decode cX0_enter 12 = .ok (.if_icmp .eq 6, 3) := by decide +kernel
theorem dX0_enter_15 : decode cX0_enter 15 = .ok (.iload 4, 2) := by decide +kernel
theorem dX0_enter_17 : decode cX0_enter 17 = .ok (.ireturn, 1) := by decide +kernel
theorem dX0_enter_18 : decode cX0_enter 18 = .ok (.iconst 1, 1) := by decide +kernel
theorem dX0_enter_19 : decode cX0_enter 19 = .ok (.aload_n 0, 1) := by decide +kernel
theorem dX0_enter_20 : decode cX0_enter 20 = .ok (.iload_n 2, 1) := by decide +kernel
theorem dX0_enter_21 : decode cX0_enter 21 = .ok (.invokevirtual 53, 3) := by decide +kernel
theorem dX0_enter_24 : decode cX0_enter 24 = .ok (.iadd, 1) := by decide +kernel
theorem dX0_enter_25 : decode cX0_enter 25 = .ok (.aload_n 0, 1) := by decide +kernel
theorem dX0_enter_26 : decode cX0_enter 26 = .ok (.iload_n 3, 1) := by decide +kernel
theorem dX0_enter_27 : decode cX0_enter 27 = .ok (.invokevirtual 53, 3) := by decide +kernel
theorem dX0_enter_30 : decode cX0_enter 30 = .ok (.iadd, 1) := by decide +kernel
theorem dX0_enter_31 : decode cX0_enter 31 = .ok (.bipush 30, 2) := by decide +kernel
theorem dX0_enter_33 : decode cX0_enter 33 = .ok (.if_icmp .le 7, 3) := by decide +kernel
theorem dX0_enter_36 : decode cX0_enter 36 = .ok (.iconst 1, 1) := by decide +kernel
theorem dX0_enter_37 : decode cX0_enter 37 = .ok (.goto 4, 3) := by decide +kernel
theorem dX0_enter_40 : decode cX0_enter 40 = .ok (.iconst 0, 1) := by decide +kernel
theorem dX0_enter_41 : decode cX0_enter 41 = .ok (.istore 5, 2) := by decide +kernel
theorem dX0_enter_43 : decode cX0_enter 43 = .ok (.iload 5, 2) := by decide +kernel
theorem dX0_enter_45 : decode cX0_enter 45 = .ok (.ifCond .ne 13, 3) := by decide +kernel
theorem dX0_enter_48 : decode cX0_enter 48 = .ok (.aload_n 0, 1) := by decide +kernel
theorem dX0_enter_49 : decode cX0_enter 49 = .ok (.getfield 41, 3) := by decide +kernel
theorem dX0_enter_52 : decode cX0_enter 52 = .ok (.sipush 150, 3) := by decide +kernel
theorem dX0_enter_55 : decode cX0_enter 55 = .ok (.if_icmp .lt 7, 3) := by decide +kernel
theorem dX0_enter_58 : decode cX0_enter 58 = .ok (.iconst (-1), 1) := by decide +kernel
theorem dX0_enter_59 : decode cX0_enter 59 = .ok (.goto 10, 3) := by decide +kernel
theorem dX0_enter_62 : decode cX0_enter 62 = .ok (.aload_n 0, 1) := by decide +kernel
theorem dX0_enter_63 : decode cX0_enter 63 = .ok (.iload_n 1, 1) := by decide +kernel
theorem dX0_enter_64 : decode cX0_enter 64 = .ok (.iload_n 2, 1) := by decide +kernel
theorem dX0_enter_65 : decode cX0_enter 65 = .ok (.iload_n 3, 1) := by decide +kernel
theorem dX0_enter_66 : decode cX0_enter 66 = .ok (.invokevirtual 64, 3) := by decide +kernel
theorem dX0_enter_69 : decode cX0_enter 69 = .ok (.ireturn, 1) := by decide +kernel
theorem dX0_read_0 : decode cX0_read 0 = .ok (.aload_n 1, 1) := by decide +kernel
theorem dX0_read_1 : decode cX0_read 1 = .ok (.getfield 67, 3) := by decide +kernel
theorem dX0_read_4 : decode cX0_read 4 = .ok (.bipush 30, 2) := by decide +kernel
theorem dX0_read_6 : decode cX0_read 6 = .ok (.if_icmp .le 5, 3) := by decide +kernel
theorem dX0_read_9 : decode cX0_read 9 = .ok (.iconst (-1), 1) := by decide +kernel
theorem dX0_read_10 : decode cX0_read 10 = .ok (.ireturn, 1) := by decide +kernel
theorem dX0_read_11 : decode cX0_read 11 = .ok (.aload_n 0, 1) := by decide +kernel
theorem dX0_read_12 : decode cX0_read 12 = .ok (.getfield 41, 3) := by decide +kernel
theorem dX0_read_15 : decode cX0_read 15 = .ok (.istore_n 2, 1) := by decide +kernel
theorem dX0_read_16 : decode cX0_read 16 = .ok (.iconst (-1), 1) := by decide +kernel
theorem dX0_read_17 : decode cX0_read 17 = .ok (.istore_n 3, 1) := by decide +kernel
theorem dX0_read_18 : decode cX0_read 18 = .ok (.aload_n 0, 1) := by decide +kernel
theorem dX0_read_19 : decode cX0_read 19 = .ok (.iconst 0, 1) := by decide +kernel
theorem dX0_read_20 : decode cX0_read 20 = .ok (.putfield 72, 3) := by decide +kernel
theorem dX0_read_23 : decode cX0_read 23 = .ok (.iconst 0, 1) := by decide +kernel
theorem dX0_read_24 : decode cX0_read 24 = .ok (.istore 4, 2) := by decide +kernel
theorem dX0_read_26 : decode cX0_read 26 = .ok (.iload 4, 2) := by decide +kernel
theorem dX0_read_28 : decode cX0_read 28 = .ok (.aload_n 1, 1) := by decide +kernel
theorem dX0_read_29 : decode cX0_read 29 = .ok (.getfield 67, 3) := by decide +kernel
theorem dX0_read_32 : decode cX0_read 32 = .ok (.if_icmp .ge 88, 3) := by decide +kernel
theorem dX0_read_35 : decode cX0_read 35 = .ok (.aload_n 1, 1) := by decide +kernel
theorem dX0_read_36 : decode cX0_read 36 = .ok (.iload 4, 2) := by decide +kernel
theorem dX0_read_38 : decode cX0_read 38 = .ok (.invokevirtual 75, 3) := by decide +kernel
theorem dX0_read_41 : decode cX0_read 41 = .ok (.istore 5, 2) := by decide +kernel
theorem dX0_read_43 : decode cX0_read 43 = .ok (.iload 5, 2) := by decide +kernel
theorem dX0_read_45 : decode cX0_read 45 = .ok (.invokestatic 77, 3) := by decide +kernel
theorem dX0_read_48 : decode cX0_read 48 = .ok (.ifCond .ne 41, 3) := by decide +kernel
theorem dX0_read_51 : decode cX0_read 51 = .ok (.aload_n 0, 1) := by decide +kernel
theorem dX0_read_52 : decode cX0_read 52 = .ok (.getfield 35, 3) := by decide +kernel
theorem dX0_read_55 : decode cX0_read 55 = .ok (.aload_n 0, 1) := by decide +kernel
theorem dX0_read_56 : decode cX0_read 56 = .ok (.getfield 72, 3) := by decide +kernel
theorem dX0_read_59 : decode cX0_read 59 = .ok (.iload 5, 2) := by decide +kernel
theorem dX0_read_61 : decode cX0_read 61 = .ok (.invokevirtual 81, 3) := by decide +kernel
theorem dX0_read_64 : decode cX0_read 64 = .ok (.aload_n 0, 1) := by decide +kernel
theorem dX0_read_65 : decode cX0_read 65 = .ok (.getfield 38, 3) := by decide +kernel
theorem dX0_read_68 : decode cX0_read 68 = .ok (.aload_n 0, 1) := by decide +kernel
theorem dX0_read_69 : decode cX0_read 69 = .ok (.getfield 72, 3) := by decide +kernel
theorem dX0_read_72 : decode cX0_read 72 = .ok (.iconst (-1), 1) := by decide +kernel
theorem dX0_read_73 : decode cX0_read 73 = .ok (.invokevirtual 81, 3) := by decide +kernel
theorem dX0_read_76 : decode cX0_read 76 = .ok (.aload_n 0, 1) := by decide +kernel
theorem dX0_read_77 : decode cX0_read 77 = .ok (.dup, 1) := by decide +kernel
theorem dX0_read_78 : decode cX0_read 78 = .ok (.getfield 72, 3) := by decide +kernel
theorem dX0_read_81 : decode cX0_read 81 = .ok (.iconst 1, 1) := by decide +kernel
theorem dX0_read_82 : decode cX0_read 82 = .ok (.iadd, 1) := by decide +kernel
theorem dX0_read_83 : decode cX0_read 83 = .ok (.putfield 72, 3) := by decide +kernel
theorem dX0_read_86 : decode cX0_read 86 = .ok (.goto 28, 3) := by decide +kernel
theorem dX0_read_89 : decode cX0_read 89 = .ok (.aload_n 0, 1) := by decide +kernel
theorem dX0_read_90 : decode cX0_read 90 = .ok (.aload_n 0, 1) := by decide +kernel
theorem dX0_read_91 : decode cX0_read 91 = .ok (.iload 5, 2) := by decide +kernel
theorem dX0_read_93 : decode cX0_read 93 = .ok (.iconst (-1), 1) := by decide +kernel
theorem dX0_read_94 : decode cX0_read 94 = .ok (.iconst (-1), 1) := by decide +kernel
theorem dX0_read_95 : decode cX0_read 95 = .ok (.invokevirtual 85, 3) := by decide +kernel
theorem dX0_read_98 : decode cX0_read 98 = .ok (.invokevirtual 88, 3) := by decide +kernel
theorem dX0_read_101 : decode cX0_read 101 = .ok (.istore_n 3, 1) := by decide +kernel
theorem dX0_read_102 : decode cX0_read 102 = .ok (.iload_n 3, 1) := by decide +kernel
theorem dX0_read_103 : decode cX0_read 103 = .ok (.iconst (-1), 1) := by decide +kernel
theorem dX0_read_104 : decode cX0_read 104 = .ok (.if_icmp .ne 10, 3) := by decide +kernel
theorem dX0_read_107 : decode cX0_read 107 = .ok (.aload_n 0, 1) := by decide +kernel
theorem dX0_read_108 : decode cX0_read 108 = .ok (.iload_n 2, 1) := by decide +kernel
theorem dX0_read_109 : decode cX0_read 109 = .ok (.putfield 41, 3) := by decide +kernel
theorem dX0_read_112 : decode cX0_read 112 = .ok (.iconst (-1), 1) := by decide +kernel
theorem dX0_read_113 : decode cX0_read 113 = .ok (.ireturn, 1) := by decide +kernel
theorem dX0_read_114 : decode cX0_read 114 = .ok (.iinc 4 1, 3) := by decide +kernel
theorem dX0_read_117 : decode cX0_read 117 = .ok (.goto (-91), 3) := by decide +kernel
theorem dX0_read_120 : decode cX0_read 120 = .ok (.iload_n 3, 1) := by decide +kernel
theorem dX0_read_121 : decode cX0_read 121 = .ok (.ireturn, 1) := by decide +kernel
theorem dX0_complete_0 : decode cX0_complete 0 = .ok (.iload_n 1, 1) := by decide +kernel
theorem dX0_complete_1 : decode cX0_complete 1 = .ok (.istore_n 2, 1) := by decide +kernel
theorem dX0_complete_2 : decode cX0_complete 2 = .ok (.aload_n 0, 1) := by decide +kernel
theorem dX0_complete_3 : decode cX0_complete 3 = .ok (.getfield 72, 3) := by decide +kernel
theorem dX0_complete_6 : decode cX0_complete 6 = .ok (.iconst 1, 1) := by decide +kernel
theorem dX0_complete_7 : decode cX0_complete 7 = .ok (.isub, 1) := by decide +kernel
theorem dX0_complete_8 : decode cX0_complete 8 = .ok (.istore_n 3, 1) := by decide +kernel
theorem dX0_complete_9 : decode cX0_complete 9 = .ok (.iload_n 3, 1) := by decide +kernel
theorem dX0_complete_10 : decode cX0_complete 10 = .ok (.ifCond .lt 92, 3) := by decide +kernel
theorem dX0_complete_13 : decode cX0_complete 13 = .ok (.iload_n 2, 1) := by decide +kernel
theorem dX0_complete_14 : decode cX0_complete 14 = .ok (.iconst (-1), 1) := by decide +kernel
theorem dX0_complete_15 : decode cX0_complete 15 = .ok (.if_icmp .eq 87, 3) := by decide +kernel
theorem dX0_complete_18 : decode cX0_complete 18 = .ok (.aload_n 0, 1) := by decide +kernel
theorem dX0_complete_19 : decode cX0_complete 19 = .ok (.getfield 35, 3) := by decide +kernel
theorem dX0_complete_22 : decode cX0_complete 22 = .ok (.iload_n 3, 1) := by decide +kernel
theorem dX0_complete_23 : decode cX0_complete 23 = .ok (.invokevirtual 49, 3) := by decide +kernel
theorem dX0_complete_26 : decode cX0_complete 26 = .ok (.i2c, 1) := by decide +kernel
theorem dX0_complete_27 : decode cX0_complete 27 = .ok (.istore 4, 2) := by decide +kernel
theorem dX0_complete_29 : decode cX0_complete 29 = .ok (.aload_n 0, 1) := by decide +kernel
theorem dX0_complete_30 : decode cX0_complete 30 = .ok (.getfield 38, 3) := by decide +kernel
theorem dX0_complete_33 : decode cX0_complete 33 = .ok (.iload_n 3, 1) := by decide +kernel
theorem dX0_complete_34 : decode cX0_complete 34 = .ok (.invokevirtual 49, 3) := by decide +kernel
theorem dX0_complete_37 : decode cX0_complete 37 = .ok (.istore 5, 2) := by decide +kernel
theorem dX0_complete_39 : decode cX0_complete 39 = .ok (.iload 4, 2) := by decide +kernel
theorem dX0_complete_41 : decode cX0_complete 41 = .ok (.bipush 78, 2) := by decide +kernel
theorem dX0_complete_43 : decode cX0_complete 43 = .ok (.if_icmp .eq 20, 3) := by decide +kernel
theorem dX0_complete_46 : decode cX0_complete 46 = .ok (.iload 5, 2) := by decide +kernel
theorem dX0_complete_48 : decode cX0_complete 48 = .ok (.iconst (-1), 1) := by decide +kernel
theorem dX0_complete_49 : decode cX0_complete 49 = .ok (.if_icmp .ne 14, 3) := by decide +kernel
theorem dX0_complete_52 : decode cX0_complete 52 = .ok (.aload_n 0, 1) := by decide +kernel
theorem dX0_complete_53 : decode cX0_complete 53 = .ok (.getfield 38, 3) := by decide +kernel
theorem dX0_complete_56 : decode cX0_complete 56 = .ok (.iload_n 3, 1) := by decide +kernel
theorem dX0_complete_57 : decode cX0_complete 57 = .ok (.iload_n 2, 1) := by decide +kernel
theorem dX0_complete_58 : decode cX0_complete 58 = .ok (.invokevirtual 81, 3) := by decide +kernel
theorem dX0_complete_61 : decode cX0_complete 61 = .ok (.iload_n 2, 1) := by decide +kernel
theorem dX0_complete_62 : decode cX0_complete 62 = .ok (.ireturn, 1) := by decide +kernel
theorem dX0_complete_63 : decode cX0_complete 63 = .ok (.aload_n 0, 1) := by decide +kernel
theorem dX0_complete_64 : decode cX0_complete 64 = .ok (.iload_n 3, 1) := by decide +kernel
theorem dX0_complete_65 : decode cX0_complete 65 = .ok (.putfield 72, 3) := by decide +kernel
theorem dX0_complete_68 : decode cX0_complete 68 = .ok (.iload 4, 2) := by decide +kernel
theorem dX0_complete_70 : decode cX0_complete 70 = .ok (.bipush 78, 2) := by decide +kernel
theorem dX0_complete_72 : decode cX0_complete 72 = .ok (.if_icmp .ne 14, 3) := by decide +kernel
theorem dX0_complete_75 : decode cX0_complete 75 = .ok (.aload_n 0, 1) := by decide +kernel
theorem dX0_complete_76 : decode cX0_complete 76 = .ok (.bipush 78, 2) := by decide +kernel
theorem dX0_complete_78 : decode cX0_complete 78 = .ok (.iload_n 2, 1) := by decide +kernel
theorem dX0_complete_79 : decode cX0_complete 79 = .ok (.iconst (-1), 1) := by decide +kernel
theorem dX0_complete_80 : decode cX0_complete 80 = .ok (.invokevirtual 85, 3) := by decide +kernel
theorem dX0_complete_83 : decode cX0_complete 83 = .ok (.goto 12, 3) := by decide +kernel
theorem dX0_complete_86 : decode cX0_complete 86 = .ok (.aload_n 0, 1) := by decide +kernel
theorem dX0_complete_87 : decode cX0_complete 87 = .ok (.iload 4, 2) := by decide +kernel
theorem dX0_complete_89 : decode cX0_complete 89 = .ok (.iload 5, 2) := by decide +kernel
theorem dX0_complete_91 : decode cX0_complete 91 = .ok (.iload_n 2, 1) := by decide +kernel
theorem dX0_complete_92 : decode cX0_complete 92 = .ok (.invokevirtual 85, 3) := by decide +kernel
theorem dX0_complete_95 : decode cX0_complete 95 = .ok (.istore_n 2, 1) := by decide +kernel
theorem dX0_complete_96 : decode cX0_complete 96 = .ok (.iinc 3 (-1), 3) := by decide +kernel
theorem dX0_complete_99 : decode cX0_complete 99 = .ok (.goto (-90), 3) := by decide +kernel
theorem dX0_complete_102 : decode cX0_complete 102 = .ok (.iload_n 2, 1) := by decide +kernel
theorem dX0_complete_103 : decode cX0_complete 103 = .ok (.ireturn, 1) := by decide +kernel
theorem dX0_add_0 : decode cX0_add 0 = .ok (.aload_n 0, 1) := by decide +kernel
theorem dX0_add_1 : decode cX0_add 1 = .ok (.getfield 41, 3) := by decide +kernel
theorem dX0_add_4 : decode cX0_add 4 = .ok (.istore 4, 2) := by decide +kernel
theorem dX0_add_6 : decode cX0_add 6 = .ok (.iload 4, 2) := by decide +kernel
theorem dX0_add_8 : decode cX0_add 8 = .ok (.bipush 30, 2) := by decide +kernel
theorem dX0_add_10 : decode cX0_add 10 = .ok (.imul, 1) := by decide +kernel
theorem dX0_add_11 : decode cX0_add 11 = .ok (.istore 5, 2) := by decide +kernel
theorem dX0_add_13 : decode cX0_add 13 = .ok (.aload_n 0, 1) := by decide +kernel
theorem dX0_add_14 : decode cX0_add 14 = .ok (.getfield 29, 3) := by decide +kernel
theorem dX0_add_17 : decode cX0_add 17 = .ok (.iload 5, 2) := by decide +kernel
theorem dX0_add_19 : decode cX0_add 19 = .ok (.iload_n 1, 1) := by decide +kernel
theorem dX0_add_20 : decode cX0_add 20 = .ok (.invokevirtual 81, 3) := by decide +kernel
theorem dX0_add_23 : decode cX0_add 23 = .ok (.aload_n 0, 1) := by decide +kernel
theorem dX0_add_24 : decode cX0_add 24 = .ok (.iload_n 2, 1) := by decide +kernel
theorem dX0_add_25 : decode cX0_add 25 = .ok (.iload 5, 2) := by decide +kernel
theorem dX0_add_27 : decode cX0_add 27 = .ok (.iconst 1, 1) := by decide +kernel
theorem dX0_add_28 : decode cX0_add 28 = .ok (.iadd, 1) := by decide +kernel
theorem dX0_add_29 : decode cX0_add 29 = .ok (.invokevirtual 91, 3) := by decide +kernel
theorem dX0_add_32 : decode cX0_add 32 = .ok (.aload_n 0, 1) := by decide +kernel
theorem dX0_add_33 : decode cX0_add 33 = .ok (.iload_n 3, 1) := by decide +kernel
theorem dX0_add_34 : decode cX0_add 34 = .ok (.iload 5, 2) := by decide +kernel
theorem dX0_add_36 : decode cX0_add 36 = .ok (.iconst 1, 1) := by decide +kernel
theorem dX0_add_37 : decode cX0_add 37 = .ok (.iadd, 1) := by decide +kernel
theorem dX0_add_38 : decode cX0_add 38 = .ok (.aload_n 0, 1) := by decide +kernel
theorem dX0_add_39 : decode cX0_add 39 = .ok (.iload_n 2, 1) := by decide +kernel
theorem dX0_add_40 : decode cX0_add 40 = .ok (.invokevirtual 53, 3) := by decide +kernel
theorem dX0_add_43 : decode cX0_add 43 = .ok (.iadd, 1) := by decide +kernel
theorem dX0_add_44 : decode cX0_add 44 = .ok (.invokevirtual 91, 3) := by decide +kernel
theorem dX0_add_47 : decode cX0_add 47 = .ok (.aload_n 0, 1) := by decide +kernel
theorem dX0_add_48 : decode cX0_add 48 = .ok (.getfield 23, 3) := by decide +kernel
theorem dX0_add_51 : decode cX0_add 51 = .ok (.iload 4, 2) := by decide +kernel
theorem dX0_add_53 : decode cX0_add 53 = .ok (.iconst 1, 1) := by decide +kernel
theorem dX0_add_54 : decode cX0_add 54 = .ok (.aload_n 0, 1) := by decide +kernel
theorem dX0_add_55 : decode cX0_add 55 = .ok (.iload_n 2, 1) := by decide +kernel
theorem dX0_add_56 : decode cX0_add 56 = .ok (.invokevirtual 53, 3) := by decide +kernel
theorem dX0_add_59 : decode cX0_add 59 = .ok (.iadd, 1) := by decide +kernel
theorem dX0_add_60 : decode cX0_add 60 = .ok (.aload_n 0, 1) := by decide +kernel
theorem dX0_add_61 : decode cX0_add 61 = .ok (.iload_n 3, 1) := by decide +kernel
theorem dX0_add_62 : decode cX0_add 62 = .ok (.invokevirtual 53, 3) := by decide +kernel
theorem dX0_add_65 : decode cX0_add 65 = .ok (.iadd, 1) := by decide +kernel
theorem dX0_add_66 : decode cX0_add 66 = .ok (.invokevirtual 81, 3) := by decide +kernel
theorem dX0_add_69 : decode cX0_add 69 = .ok (.aload_n 0, 1) := by decide +kernel
theorem dX0_add_70 : decode cX0_add 70 = .ok (.getfield 14, 3) := by decide +kernel
theorem dX0_add_73 : decode cX0_add 73 = .ok (.iload 4, 2) := by decide +kernel
theorem dX0_add_75 : decode cX0_add 75 = .ok (.iload_n 2, 1) := by decide +kernel
theorem dX0_add_76 : decode cX0_add 76 = .ok (.invokevirtual 81, 3) := by decide +kernel
theorem dX0_add_79 : decode cX0_add 79 = .ok (.aload_n 0, 1) := by decide +kernel
theorem dX0_add_80 : decode cX0_add 80 = .ok (.getfield 20, 3) := by decide +kernel
theorem dX0_add_83 : decode cX0_add 83 = .ok (.iload 4, 2) := by decide +kernel
theorem dX0_add_85 : decode cX0_add 85 = .ok (.iload_n 3, 1) := by decide +kernel
theorem dX0_add_86 : decode cX0_add 86 = .ok (.invokevirtual 81, 3) := by decide +kernel
theorem dX0_add_89 : decode cX0_add 89 = .ok (.aload_n 0, 1) := by decide +kernel
theorem dX0_add_90 : decode cX0_add 90 = .ok (.getfield 26, 3) := by decide +kernel
theorem dX0_add_93 : decode cX0_add 93 = .ok (.iload 4, 2) := by decide +kernel
theorem dX0_add_95 : decode cX0_add 95 = .ok (.iload_n 1, 1) := by decide +kernel
theorem dX0_add_96 : decode cX0_add 96 = .ok (.aload_n 0, 1) := by decide +kernel
theorem dX0_add_97 : decode cX0_add 97 = .ok (.iload_n 2, 1) := by decide +kernel
theorem dX0_add_98 : decode cX0_add 98 = .ok (.invokevirtual 94, 3) := by decide +kernel
theorem dX0_add_101 : decode cX0_add 101 = .ok (.aload_n 0, 1) := by decide +kernel
theorem dX0_add_102 : decode cX0_add 102 = .ok (.iload_n 3, 1) := by decide +kernel
theorem dX0_add_103 : decode cX0_add 103 = .ok (.invokevirtual 94, 3) := by decide +kernel
theorem dX0_add_106 : decode cX0_add 106 = .ok (.invokestatic 97, 3) := by decide +kernel
theorem dX0_add_109 : decode cX0_add 109 = .ok (.invokevirtual 81, 3) := by decide +kernel
theorem dX0_add_112 : decode cX0_add 112 = .ok (.aload_n 0, 1) := by decide +kernel
theorem dX0_add_113 : decode cX0_add 113 = .ok (.dup, 1) := by decide +kernel
theorem dX0_add_114 : decode cX0_add 114 = .ok (.getfield 41, 3) := by decide +kernel
theorem dX0_add_117 : decode cX0_add 117 = .ok (.iconst 1, 1) := by decide +kernel
theorem dX0_add_118 : decode cX0_add 118 = .ok (.iadd, 1) := by decide +kernel
theorem dX0_add_119 : decode cX0_add 119 = .ok (.putfield 41, 3) := by decide +kernel
theorem dX0_add_122 : decode cX0_add 122 = .ok (.iload 4, 2) := by decide +kernel
theorem dX0_add_124 : decode cX0_add 124 = .ok (.ireturn, 1) := by decide +kernel
theorem dX0_putSymbols_0 : decode cX0_putSymbols 0 = .ok (.aload_n 0, 1) := by decide +kernel
theorem dX0_putSymbols_1 : decode cX0_putSymbols 1 = .ok (.iload_n 1, 1) := by decide +kernel
theorem dX0_putSymbols_2 : decode cX0_putSymbols 2 = .ok (.invokevirtual 53, 3) := by decide +kernel
theorem dX0_putSymbols_5 : decode cX0_putSymbols 5 = .ok (.istore_n 3, 1) := by decide +kernel
theorem dX0_putSymbols_6 : decode cX0_putSymbols 6 = .ok (.iconst 0, 1) := by decide +kernel
theorem dX0_putSymbols_7 : decode cX0_putSymbols 7 = .ok (.istore 4, 2) := by decide +kernel
theorem dX0_putSymbols_9 : decode cX0_putSymbols 9 = .ok (.iload 4, 2) := by decide +kernel
theorem dX0_putSymbols_11 : decode cX0_putSymbols 11 = .ok (.iload_n 3, 1) := by decide +kernel
theorem dX0_putSymbols_12 : decode cX0_putSymbols 12 = .ok (.if_icmp .ge 34, 3) := by decide +kernel
theorem dX0_putSymbols_15 : decode cX0_putSymbols 15 = .ok (.aload_n 0, 1) := by decide +kernel
theorem dX0_putSymbols_16 : decode cX0_putSymbols 16 = .ok (.getfield 29, 3) := by decide +kernel
theorem dX0_putSymbols_19 : decode cX0_putSymbols 19 = .ok (.iload_n 2, 1) := by decide +kernel
theorem dX0_putSymbols_20 : decode cX0_putSymbols 20 = .ok (.iload 4, 2) := by decide +kernel
theorem dX0_putSymbols_22 : decode cX0_putSymbols 22 = .ok (.iadd, 1) := by decide +kernel
theorem dX0_putSymbols_23 : decode cX0_putSymbols 23 = .ok (.aload_n 0, 1) := by decide +kernel
theorem dX0_putSymbols_24 : decode cX0_putSymbols 24 = .ok (.getfield 29, 3) := by decide +kernel
theorem dX0_putSymbols_27 : decode cX0_putSymbols 27 = .ok (.iload_n 1, 1) := by decide +kernel
theorem dX0_putSymbols_28 : decode cX0_putSymbols 28 = .ok (.bipush 30, 2) := by decide +kernel
theorem dX0_putSymbols_30 : decode cX0_putSymbols 30 = .ok (.imul, 1) := by decide +kernel
theorem dX0_putSymbols_31 : decode cX0_putSymbols 31 = .ok (.iload 4, 2) := by decide +kernel
theorem dX0_putSymbols_33 : decode cX0_putSymbols 33 = .ok (.iadd, 1) := by decide +kernel
theorem dX0_putSymbols_34 : decode cX0_putSymbols 34 = .ok (.invokevirtual 49, 3) := by decide +kernel
theorem dX0_putSymbols_37 : decode cX0_putSymbols 37 = .ok (.invokevirtual 81, 3) := by decide +kernel
theorem dX0_putSymbols_40 : decode cX0_putSymbols 40 = .ok (.iinc 4 1, 3) := by decide +kernel
theorem dX0_putSymbols_43 : decode cX0_putSymbols 43 = .ok (.goto (-34), 3) := by decide +kernel
theorem dX0_putSymbols_46 : decode cX0_putSymbols 46 = .ok (.return_, 1) := by decide +kernel
theorem dX0_tableFrom_0 : decode cX0_tableFrom 0 = .ok (.iload_n 0, 1) := by decide +kernel
theorem dX0_tableFrom_1 : decode cX0_tableFrom 1 = .ok (.bipush 78, 2) := by decide +kernel
theorem dX0_tableFrom_3 : decode cX0_tableFrom 3 = .ok (.if_icmp .ne 7, 3) := by decide +kernel
theorem dX0_tableFrom_6 : decode cX0_tableFrom 6 = .ok (.iload_n 1, 1) := by decide +kernel
theorem dX0_tableFrom_7 : decode cX0_tableFrom 7 = .ok (.iconst (-1), 1) := by decide +kernel
theorem dX0_tableFrom_8 : decode cX0_tableFrom 8 = .ok (.ixor, 1) := by decide +kernel
theorem dX0_tableFrom_9 : decode cX0_tableFrom 9 = .ok (.ireturn, 1) := by decide +kernel
theorem dX0_tableFrom_10 : decode cX0_tableFrom 10 = .ok (.iload_n 0, 1) := by decide +kernel
theorem dX0_tableFrom_11 : decode cX0_tableFrom 11 = .ok (.bipush 75, 2) := by decide +kernel
theorem dX0_tableFrom_13 : decode cX0_tableFrom 13 = .ok (.if_icmp .ne 7, 3) := by decide +kernel
theorem dX0_tableFrom_16 : decode cX0_tableFrom 16 = .ok (.iload_n 1, 1) := by decide +kernel
theorem dX0_tableFrom_17 : decode cX0_tableFrom 17 = .ok (.iload_n 2, 1) := by decide +kernel
theorem dX0_tableFrom_18 : decode cX0_tableFrom 18 = .ok (.iand, 1) := by decide +kernel
theorem dX0_tableFrom_19 : decode cX0_tableFrom 19 = .ok (.ireturn, 1) := by decide +kernel
theorem dX0_tableFrom_20 : decode cX0_tableFrom 20 = .ok (.iload_n 0, 1) := by decide +kernel
theorem dX0_tableFrom_21 : decode cX0_tableFrom 21 = .ok (.bipush 65, 2) := by decide +kernel
theorem dX0_tableFrom_23 : decode cX0_tableFrom 23 = .ok (.if_icmp .ne 7, 3) := by decide +kernel
theorem dX0_tableFrom_26 : decode cX0_tableFrom 26 = .ok (.iload_n 1, 1) := by decide +kernel
theorem dX0_tableFrom_27 : decode cX0_tableFrom 27 = .ok (.iload_n 2, 1) := by decide +kernel
theorem dX0_tableFrom_28 : decode cX0_tableFrom 28 = .ok (.ior, 1) := by decide +kernel
theorem dX0_tableFrom_29 : decode cX0_tableFrom 29 = .ok (.ireturn, 1) := by decide +kernel
theorem dX0_tableFrom_30 : decode cX0_tableFrom 30 = .ok (.iload_n 0, 1) := by decide +kernel
theorem dX0_tableFrom_31 : decode cX0_tableFrom 31 = .ok (.bipush 67, 2) := by decide +kernel
theorem dX0_tableFrom_33 : decode cX0_tableFrom 33 = .ok (.if_icmp .ne 9, 3) := by decide +kernel
theorem dX0_tableFrom_36 : decode cX0_tableFrom 36 = .ok (.iload_n 1, 1) := by decide +kernel
theorem dX0_tableFrom_37 : decode cX0_tableFrom 37 = .ok (.iconst (-1), 1) := by decide +kernel
theorem dX0_tableFrom_38 : decode cX0_tableFrom 38 = .ok (.ixor, 1) := by decide +kernel
theorem dX0_tableFrom_39 : decode cX0_tableFrom 39 = .ok (.iload_n 2, 1) := by decide +kernel
theorem dX0_tableFrom_40 : decode cX0_tableFrom 40 = .ok (.ior, 1) := by decide +kernel
theorem dX0_tableFrom_41 : decode cX0_tableFrom 41 = .ok (.ireturn, 1) := by decide +kernel
theorem dX0_tableFrom_42 : decode cX0_tableFrom 42 = .ok (.iload_n 0, 1) := by decide +kernel
theorem dX0_tableFrom_43 : decode cX0_tableFrom 43 = .ok (.bipush 70, 2) := by decide +kernel
theorem dX0_tableFrom_45 : decode cX0_tableFrom 45 = .ok (.if_icmp .ne 7, 3) := by decide +kernel
theorem dX0_tableFrom_48 : decode cX0_tableFrom 48 = .ok (.iconst 0, 1) := by decide +kernel
theorem dX0_tableFrom_49 : decode cX0_tableFrom 49 = .ok (.goto 10, 3) := by decide +kernel
theorem dX0_tableFrom_52 : decode cX0_tableFrom 52 = .ok (.iload_n 0, 1) := by decide +kernel
theorem dX0_tableFrom_53 : decode cX0_tableFrom 53 = .ok (.bipush 97, 2) := by decide +kernel
theorem dX0_tableFrom_55 : decode cX0_tableFrom 55 = .ok (.isub, 1) := by decide +kernel
theorem dX0_tableFrom_56 : decode cX0_tableFrom 56 = .ok (.invokestatic 100, 3) := by decide +kernel
theorem dX0_tableFrom_59 : decode cX0_tableFrom 59 = .ok (.ireturn, 1) := by decide +kernel
theorem dX0_letterTable_0 : decode cX0_letterTable 0 = .ok (.iconst 0, 1) := by decide +kernel
theorem dX0_letterTable_1 : decode cX0_letterTable 1 = .ok (.istore_n 1, 1) := by decide +kernel
theorem dX0_letterTable_2 : decode cX0_letterTable 2 = .ok (.iconst 0, 1) := by decide +kernel
theorem dX0_letterTable_3 : decode cX0_letterTable 3 = .ok (.istore_n 2, 1) := by decide +kernel
theorem dX0_letterTable_4 : decode cX0_letterTable 4 = .ok (.iload_n 2, 1) := by decide +kernel
theorem dX0_letterTable_5 : decode cX0_letterTable 5 = .ok (.bipush 32, 2) := by decide +kernel
theorem dX0_letterTable_7 : decode cX0_letterTable 7 = .ok (.if_icmp .ge 23, 3) := by decide +kernel
theorem dX0_letterTable_10 : decode cX0_letterTable 10 = .ok (.iload_n 0, 1) := by decide +kernel
theorem dX0_letterTable_11 : decode cX0_letterTable 11 = .ok (.iload_n 2, 1) := by decide +kernel
theorem dX0_letterTable_12 : decode cX0_letterTable 12 = .ok (.invokestatic 103, 3) := by decide +kernel
theorem dX0_letterTable_15 : decode cX0_letterTable 15 = .ok (.ifCond .eq 9, 3) := by decide +kernel
theorem dX0_letterTable_18 : decode cX0_letterTable 18 = .ok (.iload_n 1, 1) := by decide +kernel
theorem dX0_letterTable_19 : decode cX0_letterTable 19 = .ok (.iconst 1, 1) := by decide +kernel
theorem dX0_letterTable_20 : decode cX0_letterTable 20 = .ok (.iload_n 2, 1) := by decide +kernel
theorem dX0_letterTable_21 : decode cX0_letterTable 21 = .ok (.ishl, 1) := by decide +kernel
theorem dX0_letterTable_22 : decode cX0_letterTable 22 = .ok (.ior, 1) := by decide +kernel
theorem dX0_letterTable_23 : decode cX0_letterTable 23 = .ok (.istore_n 1, 1) := by decide +kernel
theorem dX0_letterTable_24 : decode cX0_letterTable 24 = .ok (.iinc 2 1, 3) := by decide +kernel
theorem dX0_letterTable_27 : decode cX0_letterTable 27 = .ok (.goto (-23), 3) := by decide +kernel
theorem dX0_letterTable_30 : decode cX0_letterTable 30 = .ok (.iload_n 1, 1) := by decide +kernel
theorem dX0_letterTable_31 : decode cX0_letterTable 31 = .ok (.ireturn, 1) := by decide +kernel
theorem dX0_isLetterTrue_0 : decode cX0_isLetterTrue 0 = .ok (.iload_n 1, 1) := by decide +kernel
theorem dX0_isLetterTrue_1 : decode cX0_isLetterTrue 1 = .ok (.iload_n 0, 1) := by decide +kernel
theorem dX0_isLetterTrue_2 : decode cX0_isLetterTrue 2 = .ok (.ishr, 1) := by decide +kernel
theorem dX0_isLetterTrue_3 : decode cX0_isLetterTrue 3 = .ok (.iconst 1, 1) := by decide +kernel
theorem dX0_isLetterTrue_4 : decode cX0_isLetterTrue 4 = .ok (.iand, 1) := by decide +kernel
theorem dX0_isLetterTrue_5 : decode cX0_isLetterTrue 5 = .ok (.iconst 1, 1) := by decide +kernel
theorem dX0_isLetterTrue_6 : decode cX0_isLetterTrue 6 = .ok (.if_icmp .ne 7, 3) := by decide +kernel
theorem dX0_isLetterTrue_9 : decode cX0_isLetterTrue 9 = .ok (.iconst 1, 1) := by decide +kernel
theorem dX0_isLetterTrue_10 : decode cX0_isLetterTrue 10 = .ok (.goto 4, 3) := by decide +kernel
theorem dX0_isLetterTrue_13 : decode cX0_isLetterTrue 13 = .ok (.iconst 0, 1) := by decide +kernel
theorem dX0_isLetterTrue_14 : decode cX0_isLetterTrue 14 = .ok (.ireturn, 1) := by decide +kernel
theorem dX0_isTrue_0 : decode cX0_isTrue 0 = .ok (.iconst 0, 1) := by decide +kernel
theorem dX0_isTrue_1 : decode cX0_isTrue 1 = .ok (.istore_n 3, 1) := by decide +kernel
theorem dX0_isTrue_2 : decode cX0_isTrue 2 = .ok (.iload_n 3, 1) := by decide +kernel
theorem dX0_isTrue_3 : decode cX0_isTrue 3 = .ok (.iload_n 1, 1) := by decide +kernel
theorem dX0_isTrue_4 : decode cX0_isTrue 4 = .ok (.if_icmp .gt 39, 3) := by decide +kernel
theorem dX0_isTrue_7 : decode cX0_isTrue 7 = .ok (.iload_n 3, 1) := by decide +kernel
theorem dX0_isTrue_8 : decode cX0_isTrue 8 = .ok (.aload_n 0, 1) := by decide +kernel
theorem dX0_isTrue_9 : decode cX0_isTrue 9 = .ok (.getfield 41, 3) := by decide +kernel
theorem dX0_isTrue_12 : decode cX0_isTrue 12 = .ok (.if_icmp .ge 31, 3) := by decide +kernel
theorem dX0_isTrue_15 : decode cX0_isTrue 15 = .ok (.aload_n 0, 1) := by decide +kernel
theorem dX0_isTrue_16 : decode cX0_isTrue 16 = .ok (.getfield 32, 3) := by decide +kernel
theorem dX0_isTrue_19 : decode cX0_isTrue 19 = .ok (.iload_n 3, 1) := by decide +kernel
theorem dX0_isTrue_20 : decode cX0_isTrue 20 = .ok (.aload_n 0, 1) := by decide +kernel
theorem dX0_isTrue_21 : decode cX0_isTrue 21 = .ok (.iload_n 3, 1) := by decide +kernel
theorem dX0_isTrue_22 : decode cX0_isTrue 22 = .ok (.iload_n 2, 1) := by decide +kernel
theorem dX0_isTrue_23 : decode cX0_isTrue 23 = .ok (.invokevirtual 107, 3) := by decide +kernel
theorem dX0_isTrue_26 : decode cX0_isTrue 26 = .ok (.ifCond .eq 7, 3) := by decide +kernel
theorem dX0_isTrue_29 : decode cX0_isTrue 29 = .ok (.iconst 1, 1) := by decide +kernel
theorem dX0_isTrue_30 : decode cX0_isTrue 30 = .ok (.goto 4, 3) := by decide +kernel
theorem dX0_isTrue_33 : decode cX0_isTrue 33 = .ok (.iconst 0, 1) := by decide +kernel
theorem dX0_isTrue_34 : decode cX0_isTrue 34 = .ok (.invokevirtual 81, 3) := by decide +kernel
theorem dX0_isTrue_37 : decode cX0_isTrue 37 = .ok (.iinc 3 1, 3) := by decide +kernel
theorem dX0_isTrue_40 : decode cX0_isTrue 40 = .ok (.goto (-38), 3) := by decide +kernel
theorem dX0_isTrue_43 : decode cX0_isTrue 43 = .ok (.aload_n 0, 1) := by decide +kernel
theorem dX0_isTrue_44 : decode cX0_isTrue 44 = .ok (.getfield 32, 3) := by decide +kernel
theorem dX0_isTrue_47 : decode cX0_isTrue 47 = .ok (.iload_n 1, 1) := by decide +kernel
theorem dX0_isTrue_48 : decode cX0_isTrue 48 = .ok (.invokevirtual 49, 3) := by decide +kernel
theorem dX0_isTrue_51 : decode cX0_isTrue 51 = .ok (.iconst 1, 1) := by decide +kernel
theorem dX0_isTrue_52 : decode cX0_isTrue 52 = .ok (.if_icmp .ne 7, 3) := by decide +kernel
theorem dX0_isTrue_55 : decode cX0_isTrue 55 = .ok (.iconst 1, 1) := by decide +kernel
theorem dX0_isTrue_56 : decode cX0_isTrue 56 = .ok (.goto 4, 3) := by decide +kernel
theorem dX0_isTrue_59 : decode cX0_isTrue 59 = .ok (.iconst 0, 1) := by decide +kernel
theorem dX0_isTrue_60 : decode cX0_isTrue 60 = .ok (.ireturn, 1) := by decide +kernel
theorem dX0_isTrueFromParts_0 : decode cX0_isTrueFromParts 0 = .ok (.aload_n 0, 1) := by decide +kernel
theorem dX0_isTrueFromParts_1 : decode cX0_isTrueFromParts 1 = .ok (.getfield 32, 3) := by decide +kernel
theorem dX0_isTrueFromParts_4 : decode cX0_isTrueFromParts 4 = .ok (.aload_n 0, 1) := by decide +kernel
theorem dX0_isTrueFromParts_5 : decode cX0_isTrueFromParts 5 = .ok (.getfield 14, 3) := by decide +kernel
theorem dX0_isTrueFromParts_8 : decode cX0_isTrueFromParts 8 = .ok (.iload_n 1, 1) := by decide +kernel
theorem dX0_isTrueFromParts_9 : decode cX0_isTrueFromParts 9 = .ok (.invokevirtual 49, 3) := by decide +kernel
theorem dX0_isTrueFromParts_12 : decode cX0_isTrueFromParts 12 = .ok (.invokevirtual 49, 3) := by decide +kernel
theorem dX0_isTrueFromParts_15 : decode cX0_isTrueFromParts 15 = .ok (.iconst 1, 1) := by decide +kernel
theorem dX0_isTrueFromParts_16 : decode cX0_isTrueFromParts 16 = .ok (.if_icmp .ne 7, 3) := by decide +kernel
theorem dX0_isTrueFromParts_19 : decode cX0_isTrueFromParts 19 = .ok (.iconst 1, 1) := by decide +kernel
theorem dX0_isTrueFromParts_20 : decode cX0_isTrueFromParts 20 = .ok (.goto 4, 3) := by decide +kernel
theorem dX0_isTrueFromParts_23 : decode cX0_isTrueFromParts 23 = .ok (.iconst 0, 1) := by decide +kernel
theorem dX0_isTrueFromParts_24 : decode cX0_isTrueFromParts 24 = .ok (.istore_n 3, 1) := by decide +kernel
theorem dX0_isTrueFromParts_25 : decode cX0_isTrueFromParts 25 = .ok (.aload_n 0, 1) := by decide +kernel
theorem dX0_isTrueFromParts_26 : decode cX0_isTrueFromParts 26 = .ok (.getfield 32, 3) := by decide +kernel
theorem dX0_isTrueFromParts_29 : decode cX0_isTrueFromParts 29 = .ok (.aload_n 0, 1) := by decide +kernel
theorem dX0_isTrueFromParts_30 : decode cX0_isTrueFromParts 30 = .ok (.getfield 20, 3) := by decide +kernel
theorem dX0_isTrueFromParts_33 : decode cX0_isTrueFromParts 33 = .ok (.iload_n 1, 1) := by decide +kernel
theorem dX0_isTrueFromParts_34 : decode cX0_isTrueFromParts 34 = .ok (.invokevirtual 49, 3) := by decide +kernel
theorem dX0_isTrueFromParts_37 : decode cX0_isTrueFromParts 37 = .ok (.invokevirtual 49, 3) := by decide +kernel
theorem dX0_isTrueFromParts_40 : decode cX0_isTrueFromParts 40 = .ok (.iconst 1, 1) := by decide +kernel
theorem dX0_isTrueFromParts_41 : decode cX0_isTrueFromParts 41 = .ok (.if_icmp .ne 7, 3) := by decide +kernel
theorem dX0_isTrueFromParts_44 : decode cX0_isTrueFromParts 44 = .ok (.iconst 1, 1) := by decide +kernel
theorem dX0_isTrueFromParts_45 : decode cX0_isTrueFromParts 45 = .ok (.goto 4, 3) := by decide +kernel
theorem dX0_isTrueFromParts_48 : decode cX0_isTrueFromParts 48 = .ok (.iconst 0, 1) := by decide +kernel
theorem dX0_isTrueFromParts_49 : decode cX0_isTrueFromParts 49 = .ok (.istore 4, 2) := by decide +kernel
theorem dX0_isTrueFromParts_51 : decode cX0_isTrueFromParts 51 = .ok (.aload_n 0, 1) := by decide +kernel
theorem dX0_isTrueFromParts_52 : decode cX0_isTrueFromParts 52 = .ok (.iload_n 1, 1) := by decide +kernel
theorem dX0_isTrueFromParts_53 : decode cX0_isTrueFromParts 53 = .ok (.invokevirtual 56, 3) := by decide +kernel
theorem dX0_isTrueFromParts_56 : decode cX0_isTrueFromParts 56 = .ok (.istore 5, 2) := by decide +kernel
theorem dX0_isTrueFromParts_58 : decode cX0_isTrueFromParts 58 = .ok (.iload 5, 2) := by decide +kernel
theorem dX0_isTrueFromParts_60 : decode cX0_isTrueFromParts 60 = .ok (.bipush 78, 2) := by decide +kernel
theorem dX0_isTrueFromParts_62 : decode cX0_isTrueFromParts 62 = .ok (.if_icmp .ne 13, 3) := by decide +kernel
theorem dX0_isTrueFromParts_65 : decode cX0_isTrueFromParts 65 = .ok (.iload_n 3, 1) := by decide +kernel
theorem dX0_isTrueFromParts_66 : decode cX0_isTrueFromParts 66 = .ok (.ifCond .ne 7, 3) := by decide +kernel
theorem dX0_isTrueFromParts_69 : decode cX0_isTrueFromParts 69 = .ok (.iconst 1, 1) := by decide +kernel
theorem dX0_isTrueFromParts_70 : decode cX0_isTrueFromParts 70 = .ok (.goto 4, 3) := by decide +kernel
theorem dX0_isTrueFromParts_73 : decode cX0_isTrueFromParts 73 = .ok (.iconst 0, 1) := by decide +kernel
theorem dX0_isTrueFromParts_74 : decode cX0_isTrueFromParts 74 = .ok (.ireturn, 1) := by decide +kernel
theorem dX0_isTrueFromParts_75 : decode cX0_isTrueFromParts 75 = .ok (.iload 5, 2) := by decide +kernel
theorem dX0_isTrueFromParts_77 : decode cX0_isTrueFromParts 77 = .ok (.bipush 75, 2) := by decide +kernel
theorem dX0_isTrueFromParts_79 : decode cX0_isTrueFromParts 79 = .ok (.if_icmp .ne 18, 3) := by decide +kernel
theorem dX0_isTrueFromParts_82 : decode cX0_isTrueFromParts 82 = .ok (.iload_n 3, 1) := by decide +kernel
theorem dX0_isTrueFromParts_83 : decode cX0_isTrueFromParts 83 = .ok (.ifCond .eq 12, 3) := by decide +kernel
theorem dX0_isTrueFromParts_86 : decode cX0_isTrueFromParts 86 = .ok (.iload 4, 2) := by decide +kernel
theorem dX0_isTrueFromParts_88 : decode cX0_isTrueFromParts 88 = .ok (.ifCond .eq 7, 3) := by decide +kernel
theorem dX0_isTrueFromParts_91 : decode cX0_isTrueFromParts 91 = .ok (.iconst 1, 1) := by decide +kernel
theorem dX0_isTrueFromParts_92 : decode cX0_isTrueFromParts 92 = .ok (.goto 4, 3) := by decide +kernel
theorem dX0_isTrueFromParts_95 : decode cX0_isTrueFromParts 95 = .ok (.iconst 0, 1) := by decide +kernel
theorem dX0_isTrueFromParts_96 : decode cX0_isTrueFromParts 96 = .ok (.ireturn, 1) := by decide +kernel
theorem dX0_isTrueFromParts_97 : decode cX0_isTrueFromParts 97 = .ok (.iload 5, 2) := by decide +kernel
theorem dX0_isTrueFromParts_99 : decode cX0_isTrueFromParts 99 = .ok (.bipush 65, 2) := by decide +kernel
theorem dX0_isTrueFromParts_101 : decode cX0_isTrueFromParts 101 = .ok (.if_icmp .ne 18, 3) := by decide +kernel
theorem dX0_isTrueFromParts_104 : decode cX0_isTrueFromParts 104 = .ok (.iload_n 3, 1) := by decide +kernel
theorem dX0_isTrueFromParts_105 : decode cX0_isTrueFromParts 105 = .ok (.ifCond .ne 8, 3) := by decide +kernel
theorem dX0_isTrueFromParts_108 : decode cX0_isTrueFromParts 108 = .ok (.iload 4, 2) := by decide +kernel
theorem dX0_isTrueFromParts_110 : decode cX0_isTrueFromParts 110 = .ok (.ifCond .eq 7, 3) := by decide +kernel
theorem dX0_isTrueFromParts_113 : decode cX0_isTrueFromParts 113 = .ok (.iconst 1, 1) := by decide +kernel
theorem dX0_isTrueFromParts_114 : decode cX0_isTrueFromParts 114 = .ok (.goto 4, 3) := by decide +kernel
theorem dX0_isTrueFromParts_117 : decode cX0_isTrueFromParts 117 = .ok (.iconst 0, 1) := by decide +kernel
theorem dX0_isTrueFromParts_118 : decode cX0_isTrueFromParts 118 = .ok (.ireturn, 1) := by decide +kernel
theorem dX0_isTrueFromParts_119 : decode cX0_isTrueFromParts 119 = .ok (.iload 5, 2) := by decide +kernel
theorem dX0_isTrueFromParts_121 : decode cX0_isTrueFromParts 121 = .ok (.bipush 67, 2) := by decide +kernel
theorem dX0_isTrueFromParts_123 : decode cX0_isTrueFromParts 123 = .ok (.if_icmp .ne 18, 3) := by decide +kernel
theorem dX0_isTrueFromParts_126 : decode cX0_isTrueFromParts 126 = .ok (.iload_n 3, 1) := by decide +kernel
theorem dX0_isTrueFromParts_127 : decode cX0_isTrueFromParts 127 = .ok (.ifCond .eq 8, 3) := by decide +kernel
theorem dX0_isTrueFromParts_130 : decode cX0_isTrueFromParts 130 = .ok (.iload 4, 2) := by decide +kernel
theorem dX0_isTrueFromParts_132 : decode cX0_isTrueFromParts 132 = .ok (.ifCond .eq 7, 3) := by decide +kernel
theorem dX0_isTrueFromParts_135 : decode cX0_isTrueFromParts 135 = .ok (.iconst 1, 1) := by decide +kernel
theorem dX0_isTrueFromParts_136 : decode cX0_isTrueFromParts 136 = .ok (.goto 4, 3) := by decide +kernel
theorem dX0_isTrueFromParts_139 : decode cX0_isTrueFromParts 139 = .ok (.iconst 0, 1) := by decide +kernel
theorem dX0_isTrueFromParts_140 : decode cX0_isTrueFromParts 140 = .ok (.ireturn, 1) := by decide +kernel
theorem dX0_isTrueFromParts_141 : decode cX0_isTrueFromParts 141 = .ok (.iload 5, 2) := by decide +kernel
theorem dX0_isTrueFromParts_143 : decode cX0_isTrueFromParts 143 = .ok (.bipush 70, 2) := by decide +kernel
theorem dX0_isTrueFromParts_145 : decode cX0_isTrueFromParts 145 = .ok (.if_icmp .eq 19, 3) := by decide +kernel
theorem dX0_isTrueFromParts_148 : decode cX0_isTrueFromParts 148 = .ok (.iload 5, 2) := by decide +kernel
theorem dX0_isTrueFromParts_150 : decode cX0_isTrueFromParts 150 = .ok (.bipush 97, 2) := by decide +kernel
theorem dX0_isTrueFromParts_152 : decode cX0_isTrueFromParts 152 = .ok (.isub, 1) := by decide +kernel
theorem dX0_isTrueFromParts_153 : decode cX0_isTrueFromParts 153 = .ok (.iload_n 2, 1) := by decide +kernel
theorem dX0_isTrueFromParts_154 : decode cX0_isTrueFromParts 154 = .ok (.invokestatic 103, 3) := by decide +kernel
theorem dX0_isTrueFromParts_157 : decode cX0_isTrueFromParts 157 = .ok (.ifCond .eq 7, 3) := by decide +kernel
theorem dX0_isTrueFromParts_160 : decode cX0_isTrueFromParts 160 = .ok (.iconst 1, 1) := by decide +kernel
theorem dX0_isTrueFromParts_161 : decode cX0_isTrueFromParts 161 = .ok (.goto 4, 3) := by decide +kernel
theorem dX0_isTrueFromParts_164 : decode cX0_isTrueFromParts 164 = .ok (.iconst 0, 1) := by decide +kernel
theorem dX0_isTrueFromParts_165 : decode cX0_isTrueFromParts 165 = .ok (.ireturn, 1) := by decide +kernel
theorem dX1_init_0 : decode cX1_init 0 = .ok (.aload_n 0, 1) := by decide +kernel
theorem dX1_init_1 : decode cX1_init 1 = .ok (.invokespecial 3, 3) := by decide +kernel
theorem dX1_init_4 : decode cX1_init 4 = .ok (.aload_n 0, 1) := by decide +kernel
theorem dX1_init_5 : decode cX1_init 5 = .ok (.new 9, 3) := by decide +kernel
theorem dX1_init_8 : decode cX1_init 8 = .ok (.dup, 1) := by decide +kernel
theorem dX1_init_9 : decode cX1_init 9 = .ok (.bipush 8, 2) := by decide +kernel
theorem dX1_init_11 : decode cX1_init 11 = .ok (.invokespecial 11, 3) := by decide +kernel
theorem dX1_init_14 : decode cX1_init 14 = .ok (.putfield 14, 3) := by decide +kernel
theorem dX1_init_17 : decode cX1_init 17 = .ok (.aload_n 0, 1) := by decide +kernel
theorem dX1_init_18 : decode cX1_init 18 = .ok (.new 9, 3) := by decide +kernel
theorem dX1_init_21 : decode cX1_init 21 = .ok (.dup, 1) := by decide +kernel
theorem dX1_init_22 : decode cX1_init 22 = .ok (.bipush 8, 2) := by decide +kernel
theorem dX1_init_24 : decode cX1_init 24 = .ok (.invokespecial 11, 3) := by decide +kernel
theorem dX1_init_27 : decode cX1_init 27 = .ok (.putfield 20, 3) := by decide +kernel
theorem dX1_init_30 : decode cX1_init 30 = .ok (.aload_n 0, 1) := by decide +kernel
theorem dX1_init_31 : decode cX1_init 31 = .ok (.new 9, 3) := by decide +kernel
theorem dX1_init_34 : decode cX1_init 34 = .ok (.dup, 1) := by decide +kernel
theorem dX1_init_35 : decode cX1_init 35 = .ok (.bipush 8, 2) := by decide +kernel
theorem dX1_init_37 : decode cX1_init 37 = .ok (.invokespecial 11, 3) := by decide +kernel
theorem dX1_init_40 : decode cX1_init 40 = .ok (.putfield 23, 3) := by decide +kernel
theorem dX1_init_43 : decode cX1_init 43 = .ok (.aload_n 0, 1) := by decide +kernel
theorem dX1_init_44 : decode cX1_init 44 = .ok (.new 9, 3) := by decide +kernel
theorem dX1_init_47 : decode cX1_init 47 = .ok (.dup, 1) := by decide +kernel
theorem dX1_init_48 : decode cX1_init 48 = .ok (.bipush 8, 2) := by decide +kernel
theorem dX1_init_50 : decode cX1_init 50 = .ok (.invokespecial 11, 3) := by decide +kernel
theorem dX1_init_53 : decode cX1_init 53 = .ok (.putfield 26, 3) := by decide +kernel
theorem dX1_init_56 : decode cX1_init 56 = .ok (.aload_n 0, 1) := by decide +kernel
theorem dX1_init_57 : decode cX1_init 57 = .ok (.new 9, 3) := by decide +kernel
theorem dX1_init_60 : decode cX1_init 60 = .ok (.dup, 1) := by decide +kernel
theorem dX1_init_61 : decode cX1_init 61 = .ok (.iconst 5, 1) := by decide +kernel
theorem dX1_init_62 : decode cX1_init 62 = .ok (.invokespecial 11, 3) := by decide +kernel
theorem dX1_init_65 : decode cX1_init 65 = .ok (.putfield 29, 3) := by decide +kernel
theorem dX1_init_68 : decode cX1_init 68 = .ok (.aload_n 0, 1) := by decide +kernel
theorem dX1_init_69 : decode cX1_init 69 = .ok (.new 9, 3) := by decide +kernel
theorem dX1_init_72 : decode cX1_init 72 = .ok (.dup, 1) := by decide +kernel
theorem dX1_init_73 : decode cX1_init 73 = .ok (.sipush 150, 3) := by decide +kernel
theorem dX1_init_76 : decode cX1_init 76 = .ok (.invokespecial 11, 3) := by decide +kernel
theorem dX1_init_79 : decode cX1_init 79 = .ok (.putfield 32, 3) := by decide +kernel
theorem dX1_init_82 : decode cX1_init 82 = .ok (.aload_n 0, 1) := by decide +kernel
theorem dX1_init_83 : decode cX1_init 83 = .ok (.aload_n 1, 1) := by decide +kernel
theorem dX1_init_84 : decode cX1_init 84 = .ok (.putfield 35, 3) := by decide +kernel
theorem dX1_init_87 : decode cX1_init 87 = .ok (.aload_n 0, 1) := by decide +kernel
theorem dX1_init_88 : decode cX1_init 88 = .ok (.getfield 29, 3) := by decide +kernel
theorem dX1_init_91 : decode cX1_init 91 = .ok (.iconst (-1), 1) := by decide +kernel
theorem dX1_init_92 : decode cX1_init 92 = .ok (.invokevirtual 39, 3) := by decide +kernel
theorem dX1_init_95 : decode cX1_init 95 = .ok (.return_, 1) := by decide +kernel
theorem dX1_has_0 : decode cX1_has 0 = .ok (.iload_n 1, 1) := by decide +kernel
theorem dX1_has_1 : decode cX1_has 1 = .ok (.ifCond .lt 15, 3) := by decide +kernel
theorem dX1_has_4 : decode cX1_has 4 = .ok (.iload_n 1, 1) := by decide +kernel
theorem dX1_has_5 : decode cX1_has 5 = .ok (.aload_n 0, 1) := by decide +kernel
theorem dX1_has_6 : decode cX1_has 6 = .ok (.getfield 42, 3) := by decide +kernel
theorem dX1_has_9 : decode cX1_has 9 = .ok (.if_icmp .ge 7, 3) := by decide +kernel
theorem dX1_has_12 : decode cX1_has 12 = .ok (.iconst 1, 1) := by decide +kernel
theorem dX1_has_13 : decode cX1_has 13 = .ok (.goto 4, 3) := by decide +kernel
theorem dX1_has_16 : decode cX1_has 16 = .ok (.iconst 0, 1) := by decide +kernel
theorem dX1_has_17 : decode cX1_has 17 = .ok (.ireturn, 1) := by decide +kernel
theorem dX1_premiseCount_0 : decode cX1_premiseCount 0 = .ok (.aload_n 0, 1) := by decide +kernel
theorem dX1_premiseCount_1 : decode cX1_premiseCount 1 = .ok (.getfield 14, 3) := by decide +kernel
theorem dX1_premiseCount_4 : decode cX1_premiseCount 4 = .ok (.iload_n 1, 1) := by decide +kernel
theorem dX1_premiseCount_5 : decode cX1_premiseCount 5 = .ok (.invokevirtual 46, 3) := by decide +kernel
theorem dX1_premiseCount_8 : decode cX1_premiseCount 8 = .ok (.ireturn, 1) := by decide +kernel
theorem dX1_conclusion_0 : decode cX1_conclusion 0 = .ok (.aload_n 0, 1) := by decide +kernel
theorem dX1_conclusion_1 : decode cX1_conclusion 1 = .ok (.getfield 26, 3) := by decide +kernel
theorem dX1_conclusion_4 : decode cX1_conclusion 4 = .ok (.iload_n 1, 1) := by decide +kernel
theorem dX1_conclusion_5 : decode cX1_conclusion 5 = .ok (.invokevirtual 46, 3) := by decide +kernel
theorem dX1_conclusion_8 : decode cX1_conclusion 8 = .ok (.ireturn, 1) := by decide +kernel
theorem dX1_keep_0 : decode cX1_keep 0 = .ok (.aload_n 0, 1) := by decide +kernel
theorem dX1_keep_1 : decode cX1_keep 1 = .ok (.getfield 42, 3) := by decide +kernel
theorem dX1_keep_4 : decode cX1_keep 4 = .ok (.istore_n 2, 1) := by decide +kernel
theorem dX1_keep_5 : decode cX1_keep 5 = .ok (.iconst 0, 1) := by decide +kernel
theorem dX1_keep_6 : decode cX1_keep 6 = .ok (.istore_n 3, 1) := by decide +kernel
theorem dX1_keep_7 : decode cX1_keep 7 = .ok (.iconst 0, 1) := by decide +kernel
theorem dX1_keep_8 : decode cX1_keep 8 = .ok (.istore 4, 2) := by decide +kernel
theorem dX1_keep_10 : decode cX1_keep 10 = .ok (.iload 4, 2) := by decide +kernel
theorem dX1_keep_12 : decode cX1_keep 12 = .ok (.aload_n 1, 1) := by decide +kernel
theorem dX1_keep_13 : decode cX1_keep 13 = .ok (.getfield 50, 3) := by decide +kernel
theorem dX1_keep_16 : decode cX1_keep 16 = .ok (.if_icmp .ge 50, 3) := by decide +kernel
theorem dX1_keep_19 : decode cX1_keep 19 = .ok (.aload_n 1, 1) := by decide +kernel
theorem dX1_keep_20 : decode cX1_keep 20 = .ok (.iload 4, 2) := by decide +kernel
theorem dX1_keep_22 : decode cX1_keep 22 = .ok (.invokevirtual 55, 3) := by decide +kernel
theorem dX1_keep_25 : decode cX1_keep 25 = .ok (.ifCond .eq 35, 3) := by decide +kernel
theorem dX1_keep_28 : decode cX1_keep 28 = .ok (.iload_n 3, 1) := by decide +kernel
theorem dX1_keep_29 : decode cX1_keep 29 = .ok (.ifCond .ne 10, 3) := by decide +kernel
theorem dX1_keep_32 : decode cX1_keep 32 = .ok (.aload_n 0, 1) := by decide +kernel
theorem dX1_keep_33 : decode cX1_keep 33 = .ok (.getfield 20, 3) := by decide +kernel
theorem dX1_keep_36 : decode cX1_keep 36 = .ok (.goto 7, 3) := by decide +kernel
theorem dX1_keep_39 : decode cX1_keep 39 = .ok (.aload_n 0, 1) := by decide +kernel
theorem dX1_keep_40 : decode cX1_keep 40 = .ok (.getfield 23, 3) := by decide +kernel
theorem dX1_keep_43 : decode cX1_keep 43 = .ok (.astore 5, 2) := by decide +kernel
theorem dX1_keep_45 : decode cX1_keep 45 = .ok (.aload 5, 2) := by decide +kernel
theorem dX1_keep_47 : decode cX1_keep 47 = .ok (.iload_n 2, 1) := by decide +kernel
theorem dX1_keep_48 : decode cX1_keep 48 = .ok (.aload_n 1, 1) := by decide +kernel
theorem dX1_keep_49 : decode cX1_keep 49 = .ok (.iload 4, 2) := by decide +kernel
theorem dX1_keep_51 : decode cX1_keep 51 = .ok (.invokevirtual 59, 3) := by decide +kernel
theorem dX1_keep_54 : decode cX1_keep 54 = .ok (.invokevirtual 62, 3) := by decide +kernel
theorem dX1_keep_57 : decode cX1_keep 57 = .ok (.iinc 3 1, 3) := by decide +kernel
theorem dX1_keep_60 : decode cX1_keep 60 = .ok (.iinc 4 1, 3) := by decide +kernel
theorem dX1_keep_63 : decode cX1_keep 63 = .ok (.goto (-53), 3) := by decide +kernel
theorem dX1_keep_66 : decode cX1_keep 66 = .ok (.aload_n 0, 1) := by decide +kernel
theorem dX1_keep_67 : decode cX1_keep 67 = .ok (.getfield 14, 3) := by decide +kernel
theorem dX1_keep_70 : decode cX1_keep 70 = .ok (.iload_n 2, 1) := by decide +kernel
theorem dX1_keep_71 : decode cX1_keep 71 = .ok (.iload_n 3, 1) := by decide +kernel
theorem dX1_keep_72 : decode cX1_keep 72 = .ok (.invokevirtual 62, 3) := by decide +kernel
theorem dX1_keep_75 : decode cX1_keep 75 = .ok (.aload_n 0, 1) := by decide +kernel
theorem dX1_keep_76 : decode cX1_keep 76 = .ok (.getfield 26, 3) := by decide +kernel
theorem dX1_keep_79 : decode cX1_keep 79 = .ok (.iload_n 2, 1) := by decide +kernel
theorem dX1_keep_80 : decode cX1_keep 80 = .ok (.aload_n 1, 1) := by decide +kernel
theorem dX1_keep_81 : decode cX1_keep 81 = .ok (.aload_n 1, 1) := by decide +kernel
theorem dX1_keep_82 : decode cX1_keep 82 = .ok (.getfield 50, 3) := by decide +kernel
theorem dX1_keep_85 : decode cX1_keep 85 = .ok (.iconst 1, 1) := by decide +kernel
theorem dX1_keep_86 : decode cX1_keep 86 = .ok (.isub, 1) := by decide +kernel
theorem dX1_keep_87 : decode cX1_keep 87 = .ok (.invokevirtual 59, 3) := by decide +kernel
theorem dX1_keep_90 : decode cX1_keep 90 = .ok (.invokevirtual 62, 3) := by decide +kernel
theorem dX1_keep_93 : decode cX1_keep 93 = .ok (.aload_n 0, 1) := by decide +kernel
theorem dX1_keep_94 : decode cX1_keep 94 = .ok (.dup, 1) := by decide +kernel
theorem dX1_keep_95 : decode cX1_keep 95 = .ok (.getfield 42, 3) := by decide +kernel
theorem dX1_keep_98 : decode cX1_keep 98 = .ok (.iconst 1, 1) := by decide +kernel
theorem dX1_keep_99 : decode cX1_keep 99 = .ok (.iadd, 1) := by decide +kernel
theorem dX1_keep_100 : decode cX1_keep 100 = .ok (.putfield 42, 3) := by decide +kernel
theorem dX1_keep_103 : decode cX1_keep 103 = .ok (.iload_n 2, 1) := by decide +kernel
theorem dX1_keep_104 : decode cX1_keep 104 = .ok (.ireturn, 1) := by decide +kernel
theorem dX1_matches_0 : decode cX1_matches 0 = .ok (.aload_n 0, 1) := by decide +kernel
theorem dX1_matches_1 : decode cX1_matches 1 = .ok (.iload_n 1, 1) := by decide +kernel
theorem dX1_matches_2 : decode cX1_matches 2 = .ok (.invokevirtual 66, 3) := by decide +kernel
theorem dX1_matches_5 : decode cX1_matches 5 = .ok (.istore 4, 2) := by decide +kernel
theorem dX1_matches_7 : decode cX1_matches 7 = .ok (.aload_n 0, 1) := by decide +kernel
theorem dX1_matches_8 : decode cX1_matches 8 = .ok (.getfield 32, 3) := by decide +kernel
theorem dX1_matches_11 : decode cX1_matches 11 = .ok (.iconst (-1), 1) := by decide +kernel
theorem dX1_matches_12 : decode cX1_matches 12 = .ok (.invokevirtual 39, 3) := by decide +kernel
theorem dX1_matches_15 : decode cX1_matches 15 = .ok (.iload 4, 2) := by decide +kernel
theorem dX1_matches_17 : decode cX1_matches 17 = .ok (.ifCond .le 19, 3) := by decide +kernel
theorem dX1_matches_20 : decode cX1_matches 20 = .ok (.aload_n 0, 1) := by decide +kernel
theorem dX1_matches_21 : decode cX1_matches 21 = .ok (.getfield 32, 3) := by decide +kernel
theorem dX1_matches_24 : decode cX1_matches 24 = .ok (.aload_n 0, 1) := by decide +kernel
theorem dX1_matches_25 : decode cX1_matches 25 = .ok (.getfield 20, 3) := by decide +kernel
theorem dX1_matches_28 : decode cX1_matches 28 = .ok (.iload_n 1, 1) := by decide +kernel
theorem dX1_matches_29 : decode cX1_matches 29 = .ok (.invokevirtual 46, 3) := by decide +kernel
theorem dX1_matches_32 : decode cX1_matches 32 = .ok (.iload_n 2, 1) := by decide +kernel
theorem dX1_matches_33 : decode cX1_matches 33 = .ok (.invokevirtual 62, 3) := by decide +kernel
theorem dX1_matches_36 : decode cX1_matches 36 = .ok (.iload 4, 2) := by decide +kernel
theorem dX1_matches_38 : decode cX1_matches 38 = .ok (.iconst 1, 1) := by decide +kernel
theorem dX1_matches_39 : decode cX1_matches 39 = .ok (.if_icmp .le 21, 3) := by decide +kernel
theorem dX1_matches_42 : decode cX1_matches 42 = .ok (.aload_n 0, 1) := by decide +kernel
theorem dX1_matches_43 : decode cX1_matches 43 = .ok (.aload_n 0, 1) := by decide +kernel
theorem dX1_matches_44 : decode cX1_matches 44 = .ok (.getfield 23, 3) := by decide +kernel
theorem dX1_matches_47 : decode cX1_matches 47 = .ok (.iload_n 1, 1) := by decide +kernel
theorem dX1_matches_48 : decode cX1_matches 48 = .ok (.invokevirtual 46, 3) := by decide +kernel
theorem dX1_matches_51 : decode cX1_matches 51 = .ok (.iload_n 3, 1) := by decide +kernel
theorem dX1_matches_52 : decode cX1_matches 52 = .ok (.invokevirtual 69, 3) := by decide +kernel
theorem dX1_matches_55 : decode cX1_matches 55 = .ok (.ifCond .ne 5, 3) := by decide +kernel
theorem dX1_matches_58 : decode cX1_matches 58 = .ok (.iconst 0, 1) := by decide +kernel
theorem dX1_matches_59 : decode cX1_matches 59 = .ok (.ireturn, 1) := by decide +kernel
theorem dX1_matches_60 : decode cX1_matches 60 = .ok (.aload_n 0, 1) := by decide +kernel
theorem dX1_matches_61 : decode cX1_matches 61 = .ok (.getfield 35, 3) := by decide +kernel
theorem dX1_matches_64 : decode cX1_matches 64 = .ok (.getfield 73, 3) := by decide +kernel
theorem dX1_matches_67 : decode cX1_matches 67 = .ok (.iconst 1, 1) := by decide +kernel
theorem dX1_matches_68 : decode cX1_matches 68 = .ok (.isub, 1) := by decide +kernel
theorem dX1_matches_69 : decode cX1_matches 69 = .ok (.istore 5, 2) := by decide +kernel
theorem dX1_matches_71 : decode cX1_matches 71 = .ok (.iload 5, 2) := by decide +kernel
theorem dX1_matches_73 : decode cX1_matches 73 = .ok (.ifCond .lt 42, 3) := by decide +kernel
theorem dX1_matches_76 : decode cX1_matches 76 = .ok (.aload_n 0, 1) := by decide +kernel
theorem dX1_matches_77 : decode cX1_matches 77 = .ok (.getfield 32, 3) := by decide +kernel
theorem dX1_matches_80 : decode cX1_matches 80 = .ok (.iload 5, 2) := by decide +kernel
theorem dX1_matches_82 : decode cX1_matches 82 = .ok (.invokevirtual 46, 3) := by decide +kernel
theorem dX1_matches_85 : decode cX1_matches 85 = .ok (.iconst (-1), 1) := by decide +kernel
theorem dX1_matches_86 : decode cX1_matches 86 = .ok (.if_icmp .eq 23, 3) := by decide +kernel
theorem dX1_matches_89 : decode cX1_matches 89 = .ok (.aload_n 0, 1) := by decide +kernel
theorem dX1_matches_90 : decode cX1_matches 90 = .ok (.iload 5, 2) := by decide +kernel
theorem dX1_matches_92 : decode cX1_matches 92 = .ok (.aload_n 0, 1) := by decide +kernel
theorem dX1_matches_93 : decode cX1_matches 93 = .ok (.getfield 32, 3) := by decide +kernel
theorem dX1_matches_96 : decode cX1_matches 96 = .ok (.iload 5, 2) := by decide +kernel
theorem dX1_matches_98 : decode cX1_matches 98 = .ok (.invokevirtual 46, 3) := by decide +kernel
theorem dX1_matches_101 : decode cX1_matches 101 = .ok (.invokevirtual 76, 3) := by decide +kernel
theorem dX1_matches_104 : decode cX1_matches 104 = .ok (.ifCond .ne 5, 3) := by decide +kernel
theorem dX1_matches_107 : decode cX1_matches 107 = .ok (.iconst 0, 1) := by decide +kernel
theorem dX1_matches_108 : decode cX1_matches 108 = .ok (.ireturn, 1) := by decide +kernel
theorem dX1_matches_109 : decode cX1_matches 109 = .ok (.iinc 5 (-1), 3) := by decide +kernel
theorem dX1_matches_112 : decode cX1_matches 112 = .ok (.goto (-41), 3) := by decide +kernel
theorem dX1_matches_115 : decode cX1_matches 115 = .ok (.iconst 1, 1) := by decide +kernel
theorem dX1_matches_116 : decode cX1_matches 116 = .ok (.ireturn, 1) := by decide +kernel
theorem dX1_handOn_0 : decode cX1_handOn 0 = .ok (.aload_n 0, 1) := by decide +kernel
theorem dX1_handOn_1 : decode cX1_handOn 1 = .ok (.getfield 35, 3) := by decide +kernel
theorem dX1_handOn_4 : decode cX1_handOn 4 = .ok (.iload_n 1, 1) := by decide +kernel
theorem dX1_handOn_5 : decode cX1_handOn 5 = .ok (.invokevirtual 79, 3) := by decide +kernel
theorem dX1_handOn_8 : decode cX1_handOn 8 = .ok (.istore_n 3, 1) := by decide +kernel
theorem dX1_handOn_9 : decode cX1_handOn 9 = .ok (.iload_n 3, 1) := by decide +kernel
theorem dX1_handOn_10 : decode cX1_handOn 10 = .ok (.invokestatic 83, 3) := by decide +kernel
theorem dX1_handOn_13 : decode cX1_handOn 13 = .ok (.ifCond .eq 5, 3) := by decide +kernel
theorem dX1_handOn_16 : decode cX1_handOn 16 = .ok (.iconst 1, 1) := by decide +kernel
theorem dX1_handOn_17 : decode cX1_handOn 17 = .ok (.ireturn, 1) := by decide +kernel
theorem dX1_handOn_18 : decode cX1_handOn 18 = .ok (.aload_n 0, 1) := by decide +kernel
theorem dX1_handOn_19 : decode cX1_handOn 19 = .ok (.getfield 35, 3) := by decide +kernel
theorem dX1_handOn_22 : decode cX1_handOn 22 = .ok (.iload_n 2, 1) := by decide +kernel
theorem dX1_handOn_23 : decode cX1_handOn 23 = .ok (.invokevirtual 79, 3) := by decide +kernel
theorem dX1_handOn_26 : decode cX1_handOn 26 = .ok (.iload_n 3, 1) := by decide +kernel
theorem dX1_handOn_27 : decode cX1_handOn 27 = .ok (.if_icmp .ne 53, 3) := by decide +kernel
theorem dX1_handOn_30 : decode cX1_handOn 30 = .ok (.aload_n 0, 1) := by decide +kernel
theorem dX1_handOn_31 : decode cX1_handOn 31 = .ok (.aload_n 0, 1) := by decide +kernel
theorem dX1_handOn_32 : decode cX1_handOn 32 = .ok (.getfield 35, 3) := by decide +kernel
theorem dX1_handOn_35 : decode cX1_handOn 35 = .ok (.iload_n 1, 1) := by decide +kernel
theorem dX1_handOn_36 : decode cX1_handOn 36 = .ok (.invokevirtual 89, 3) := by decide +kernel
theorem dX1_handOn_39 : decode cX1_handOn 39 = .ok (.aload_n 0, 1) := by decide +kernel
theorem dX1_handOn_40 : decode cX1_handOn 40 = .ok (.getfield 35, 3) := by decide +kernel
theorem dX1_handOn_43 : decode cX1_handOn 43 = .ok (.iload_n 2, 1) := by decide +kernel
theorem dX1_handOn_44 : decode cX1_handOn 44 = .ok (.invokevirtual 89, 3) := by decide +kernel
theorem dX1_handOn_47 : decode cX1_handOn 47 = .ok (.invokevirtual 69, 3) := by decide +kernel
theorem dX1_handOn_50 : decode cX1_handOn 50 = .ok (.ifCond .eq 30, 3) := by decide +kernel
theorem dX1_handOn_53 : decode cX1_handOn 53 = .ok (.aload_n 0, 1) := by decide +kernel
theorem dX1_handOn_54 : decode cX1_handOn 54 = .ok (.aload_n 0, 1) := by decide +kernel
theorem dX1_handOn_55 : decode cX1_handOn 55 = .ok (.getfield 35, 3) := by decide +kernel
theorem dX1_handOn_58 : decode cX1_handOn 58 = .ok (.iload_n 1, 1) := by decide +kernel
theorem dX1_handOn_59 : decode cX1_handOn 59 = .ok (.invokevirtual 92, 3) := by decide +kernel
theorem dX1_handOn_62 : decode cX1_handOn 62 = .ok (.aload_n 0, 1) := by decide +kernel
theorem dX1_handOn_63 : decode cX1_handOn 63 = .ok (.getfield 35, 3) := by decide +kernel
theorem dX1_handOn_66 : decode cX1_handOn 66 = .ok (.iload_n 2, 1) := by decide +kernel
theorem dX1_handOn_67 : decode cX1_handOn 67 = .ok (.invokevirtual 92, 3) := by decide +kernel
theorem dX1_handOn_70 : decode cX1_handOn 70 = .ok (.invokevirtual 69, 3) := by decide +kernel
theorem dX1_handOn_73 : decode cX1_handOn 73 = .ok (.ifCond .eq 7, 3) := by decide +kernel
theorem dX1_handOn_76 : decode cX1_handOn 76 = .ok (.iconst 1, 1) := by decide +kernel
theorem dX1_handOn_77 : decode cX1_handOn 77 = .ok (.goto 4, 3) := by decide +kernel
theorem dX1_handOn_80 : decode cX1_handOn 80 = .ok (.iconst 0, 1) := by decide +kernel
theorem dX1_handOn_81 : decode cX1_handOn 81 = .ok (.ireturn, 1) := by decide +kernel
theorem dX1_setImage_0 : decode cX1_setImage 0 = .ok (.aload_n 0, 1) := by decide +kernel
theorem dX1_setImage_1 : decode cX1_setImage 1 = .ok (.getfield 32, 3) := by decide +kernel
theorem dX1_setImage_4 : decode cX1_setImage 4 = .ok (.iload_n 1, 1) := by decide +kernel
theorem dX1_setImage_5 : decode cX1_setImage 5 = .ok (.invokevirtual 46, 3) := by decide +kernel
theorem dX1_setImage_8 : decode cX1_setImage 8 = .ok (.istore_n 3, 1) := by decide +kernel
theorem dX1_setImage_9 : decode cX1_setImage 9 = .ok (.aload_n 0, 1) := by decide +kernel
theorem dX1_setImage_10 : decode cX1_setImage 10 = .ok (.getfield 32, 3) := by decide +kernel
theorem dX1_setImage_13 : decode cX1_setImage 13 = .ok (.iload_n 1, 1) := by decide +kernel
theorem dX1_setImage_14 : decode cX1_setImage 14 = .ok (.iload_n 2, 1) := by decide +kernel
theorem dX1_setImage_15 : decode cX1_setImage 15 = .ok (.invokevirtual 62, 3) := by decide +kernel
theorem dX1_setImage_18 : decode cX1_setImage 18 = .ok (.iload_n 3, 1) := by decide +kernel
theorem dX1_setImage_19 : decode cX1_setImage 19 = .ok (.iconst (-1), 1) := by decide +kernel
theorem dX1_setImage_20 : decode cX1_setImage 20 = .ok (.if_icmp .eq 8, 3) := by decide +kernel
theorem dX1_setImage_23 : decode cX1_setImage 23 = .ok (.iload_n 3, 1) := by decide +kernel
theorem dX1_setImage_24 : decode cX1_setImage 24 = .ok (.iload_n 2, 1) := by decide +kernel
theorem dX1_setImage_25 : decode cX1_setImage 25 = .ok (.if_icmp .ne 7, 3) := by decide +kernel
theorem dX1_setImage_28 : decode cX1_setImage 28 = .ok (.iconst 1, 1) := by decide +kernel
theorem dX1_setImage_29 : decode cX1_setImage 29 = .ok (.goto 4, 3) := by decide +kernel
theorem dX1_setImage_32 : decode cX1_setImage 32 = .ok (.iconst 0, 1) := by decide +kernel
theorem dX1_setImage_33 : decode cX1_setImage 33 = .ok (.ireturn, 1) := by decide +kernel
theorem dX1_writeConclusion_0 : decode cX1_writeConclusion 0 = .ok (.aload_n 0, 1) := by decide +kernel
theorem dX1_writeConclusion_1 : decode cX1_writeConclusion 1 = .ok (.iload_n 1, 1) := by decide +kernel
theorem dX1_writeConclusion_2 : decode cX1_writeConclusion 2 = .ok (.invokevirtual 95, 3) := by decide +kernel
theorem dX1_writeConclusion_5 : decode cX1_writeConclusion 5 = .ok (.istore_n 3, 1) := by decide +kernel
theorem dX1_writeConclusion_6 : decode cX1_writeConclusion 6 = .ok (.aload_n 2, 1) := by decide +kernel
theorem dX1_writeConclusion_7 : decode cX1_writeConclusion 7 = .ok (.invokevirtual 98, 3) := by decide +kernel
theorem dX1_writeConclusion_10 : decode cX1_writeConclusion 10 = .ok (.aload_n 0, 1) := by decide +kernel
theorem dX1_writeConclusion_11 : decode cX1_writeConclusion 11 = .ok (.getfield 35, 3) := by decide +kernel
theorem dX1_writeConclusion_14 : decode cX1_writeConclusion 14 = .ok (.iload_n 3, 1) := by decide +kernel
theorem dX1_writeConclusion_15 : decode cX1_writeConclusion 15 = .ok (.invokevirtual 101, 3) := by decide +kernel
theorem dX1_writeConclusion_18 : decode cX1_writeConclusion 18 = .ok (.istore 4, 2) := by decide +kernel
theorem dX1_writeConclusion_20 : decode cX1_writeConclusion 20 = .ok (.iconst 0, 1) := by decide +kernel
theorem dX1_writeConclusion_21 : decode cX1_writeConclusion 21 = .ok (.istore 5, 2) := by decide +kernel
theorem dX1_writeConclusion_23 : decode cX1_writeConclusion 23 = .ok (.iload 5, 2) := by decide +kernel
theorem dX1_writeConclusion_25 : decode cX1_writeConclusion 25 = .ok (.iload 4, 2) := by decide +kernel
theorem dX1_writeConclusion_27 : decode cX1_writeConclusion 27 = .ok (.if_icmp .ge 61, 3) := by decide +kernel
theorem dX1_writeConclusion_30 : decode cX1_writeConclusion 30 = .ok (.aload_n 2, 1) := by decide +kernel
theorem dX1_writeConclusion_31 : decode cX1_writeConclusion 31 = .ok (.getfield 104, 3) := by decide +kernel
theorem dX1_writeConclusion_34 : decode cX1_writeConclusion 34 = .ok (.bipush 30, 2) := by decide +kernel
theorem dX1_writeConclusion_36 : decode cX1_writeConclusion 36 = .ok (.if_icmp .gt 52, 3) := by decide +kernel
theorem dX1_writeConclusion_39 : decode cX1_writeConclusion 39 = .ok (.aload_n 0, 1) := by decide +kernel
theorem dX1_writeConclusion_40 : decode cX1_writeConclusion 40 = .ok (.getfield 35, 3) := by decide +kernel
theorem dX1_writeConclusion_43 : decode cX1_writeConclusion 43 = .ok (.iload_n 3, 1) := by decide +kernel
theorem dX1_writeConclusion_44 : decode cX1_writeConclusion 44 = .ok (.iload 5, 2) := by decide +kernel
theorem dX1_writeConclusion_46 : decode cX1_writeConclusion 46 = .ok (.invokevirtual 107, 3) := by decide +kernel
theorem dX1_writeConclusion_49 : decode cX1_writeConclusion 49 = .ok (.istore 6, 2) := by decide +kernel
theorem dX1_writeConclusion_51 : decode cX1_writeConclusion 51 = .ok (.iload 6, 2) := by decide +kernel
theorem dX1_writeConclusion_53 : decode cX1_writeConclusion 53 = .ok (.invokestatic 83, 3) := by decide +kernel
theorem dX1_writeConclusion_56 : decode cX1_writeConclusion 56 = .ok (.ifCond .eq 20, 3) := by decide +kernel
theorem dX1_writeConclusion_59 : decode cX1_writeConclusion 59 = .ok (.aload_n 2, 1) := by decide +kernel
theorem dX1_writeConclusion_60 : decode cX1_writeConclusion 60 = .ok (.aload_n 0, 1) := by decide +kernel
theorem dX1_writeConclusion_61 : decode cX1_writeConclusion 61 = .ok (.getfield 35, 3) := by decide +kernel
theorem dX1_writeConclusion_64 : decode cX1_writeConclusion 64 = .ok (.aload_n 0, 1) := by decide +kernel
theorem dX1_writeConclusion_65 : decode cX1_writeConclusion 65 = .ok (.iload 6, 2) := by decide +kernel
theorem dX1_writeConclusion_67 : decode cX1_writeConclusion 67 = .ok (.invokevirtual 111, 3) := by decide +kernel
theorem dX1_writeConclusion_70 : decode cX1_writeConclusion 70 = .ok (.invokevirtual 115, 3) := by decide +kernel
theorem dX1_writeConclusion_73 : decode cX1_writeConclusion 73 = .ok (.goto 9, 3) := by decide +kernel
theorem dX1_writeConclusion_76 : decode cX1_writeConclusion 76 = .ok (.aload_n 2, 1) := by decide +kernel
theorem dX1_writeConclusion_77 : decode cX1_writeConclusion 77 = .ok (.iload 6, 2) := by decide +kernel
theorem dX1_writeConclusion_79 : decode cX1_writeConclusion 79 = .ok (.invokevirtual 119, 3) := by decide +kernel
theorem dX1_writeConclusion_82 : decode cX1_writeConclusion 82 = .ok (.iinc 5 1, 3) := by decide +kernel
theorem dX1_writeConclusion_85 : decode cX1_writeConclusion 85 = .ok (.goto (-62), 3) := by decide +kernel
theorem dX1_writeConclusion_88 : decode cX1_writeConclusion 88 = .ok (.return_, 1) := by decide +kernel
theorem dX1_replacement_0 : decode cX1_replacement 0 = .ok (.aload_n 0, 1) := by decide +kernel
theorem dX1_replacement_1 : decode cX1_replacement 1 = .ok (.getfield 35, 3) := by decide +kernel
theorem dX1_replacement_4 : decode cX1_replacement 4 = .ok (.iload_n 1, 1) := by decide +kernel
theorem dX1_replacement_5 : decode cX1_replacement 5 = .ok (.iconst (-1), 1) := by decide +kernel
theorem dX1_replacement_6 : decode cX1_replacement 6 = .ok (.iconst (-1), 1) := by decide +kernel
theorem dX1_replacement_7 : decode cX1_replacement 7 = .ok (.invokevirtual 123, 3) := by decide +kernel
theorem dX1_replacement_10 : decode cX1_replacement 10 = .ok (.istore_n 2, 1) := by decide +kernel
theorem dX1_replacement_11 : decode cX1_replacement 11 = .ok (.aload_n 0, 1) := by decide +kernel
theorem dX1_replacement_12 : decode cX1_replacement 12 = .ok (.getfield 32, 3) := by decide +kernel
theorem dX1_replacement_15 : decode cX1_replacement 15 = .ok (.iload_n 2, 1) := by decide +kernel
theorem dX1_replacement_16 : decode cX1_replacement 16 = .ok (.invokevirtual 46, 3) := by decide +kernel
theorem dX1_replacement_19 : decode cX1_replacement 19 = .ok (.istore_n 3, 1) := by decide +kernel
theorem dX1_replacement_20 : decode cX1_replacement 20 = .ok (.aload_n 0, 1) := by decide +kernel
theorem dX1_replacement_21 : decode cX1_replacement 21 = .ok (.getfield 29, 3) := by decide +kernel
theorem dX1_replacement_24 : decode cX1_replacement 24 = .ok (.iload_n 1, 1) := by decide +kernel
theorem dX1_replacement_25 : decode cX1_replacement 25 = .ok (.bipush 97, 2) := by decide +kernel
theorem dX1_replacement_27 : decode cX1_replacement 27 = .ok (.isub, 1) := by decide +kernel
theorem dX1_replacement_28 : decode cX1_replacement 28 = .ok (.invokevirtual 46, 3) := by decide +kernel
theorem dX1_replacement_31 : decode cX1_replacement 31 = .ok (.istore 4, 2) := by decide +kernel
theorem dX1_replacement_33 : decode cX1_replacement 33 = .ok (.iload_n 3, 1) := by decide +kernel
theorem dX1_replacement_34 : decode cX1_replacement 34 = .ok (.iconst (-1), 1) := by decide +kernel
theorem dX1_replacement_35 : decode cX1_replacement 35 = .ok (.if_icmp .eq 5, 3) := by decide +kernel
theorem dX1_replacement_38 : decode cX1_replacement 38 = .ok (.iload_n 3, 1) := by decide +kernel
theorem dX1_replacement_39 : decode cX1_replacement 39 = .ok (.ireturn, 1) := by decide +kernel
theorem dX1_replacement_40 : decode cX1_replacement 40 = .ok (.iload 4, 2) := by decide +kernel
theorem dX1_replacement_42 : decode cX1_replacement 42 = .ok (.iconst (-1), 1) := by decide +kernel
theorem dX1_replacement_43 : decode cX1_replacement 43 = .ok (.if_icmp .eq 8, 3) := by decide +kernel
theorem dX1_replacement_46 : decode cX1_replacement 46 = .ok (.iload 4, 2) := by decide +kernel
theorem dX1_replacement_48 : decode cX1_replacement 48 = .ok (.goto 4, 3) := by decide +kernel
theorem dX1_replacement_51 : decode cX1_replacement 51 = .ok (.iload_n 2, 1) := by decide +kernel
theorem dX1_replacement_52 : decode cX1_replacement 52 = .ok (.ireturn, 1) := by decide +kernel
theorem dX2_init_0 : decode cX2_init 0 = .ok (.aload_n 0, 1) := by decide +kernel
theorem dX2_init_1 : decode cX2_init 1 = .ok (.invokespecial 3, 3) := by decide +kernel
theorem dX2_init_4 : decode cX2_init 4 = .ok (.aload_n 0, 1) := by decide +kernel
theorem dX2_init_5 : decode cX2_init 5 = .ok (.new 9, 3) := by decide +kernel
theorem dX2_init_8 : decode cX2_init 8 = .ok (.dup, 1) := by decide +kernel
theorem dX2_init_9 : decode cX2_init 9 = .ok (.bipush 60, 2) := by decide +kernel
theorem dX2_init_11 : decode cX2_init 11 = .ok (.invokespecial 11, 3) := by decide +kernel
theorem dX2_init_14 : decode cX2_init 14 = .ok (.putfield 14, 3) := by decide +kernel
theorem dX2_init_17 : decode cX2_init 17 = .ok (.aload_n 0, 1) := by decide +kernel
theorem dX2_init_18 : decode cX2_init 18 = .ok (.new 9, 3) := by decide +kernel
theorem dX2_init_21 : decode cX2_init 21 = .ok (.dup, 1) := by decide +kernel
theorem dX2_init_22 : decode cX2_init 22 = .ok (.bipush 60, 2) := by decide +kernel
theorem dX2_init_24 : decode cX2_init 24 = .ok (.invokespecial 11, 3) := by decide +kernel
theorem dX2_init_27 : decode cX2_init 27 = .ok (.putfield 20, 3) := by decide +kernel
theorem dX2_init_30 : decode cX2_init 30 = .ok (.aload_n 0, 1) := by decide +kernel
theorem dX2_init_31 : decode cX2_init 31 = .ok (.new 9, 3) := by decide +kernel
theorem dX2_init_34 : decode cX2_init 34 = .ok (.dup, 1) := by decide +kernel
theorem dX2_init_35 : decode cX2_init 35 = .ok (.bipush 60, 2) := by decide +kernel
theorem dX2_init_37 : decode cX2_init 37 = .ok (.invokespecial 11, 3) := by decide +kernel
theorem dX2_init_40 : decode cX2_init 40 = .ok (.putfield 23, 3) := by decide +kernel
theorem dX2_init_43 : decode cX2_init 43 = .ok (.aload_n 0, 1) := by decide +kernel
theorem dX2_init_44 : decode cX2_init 44 = .ok (.new 9, 3) := by decide +kernel
theorem dX2_init_47 : decode cX2_init 47 = .ok (.dup, 1) := by decide +kernel
theorem dX2_init_48 : decode cX2_init 48 = .ok (.bipush 60, 2) := by decide +kernel
theorem dX2_init_50 : decode cX2_init 50 = .ok (.invokespecial 11, 3) := by decide +kernel
theorem dX2_init_53 : decode cX2_init 53 = .ok (.putfield 26, 3) := by decide +kernel
theorem dX2_init_56 : decode cX2_init 56 = .ok (.aload_n 0, 1) := by decide +kernel
theorem dX2_init_57 : decode cX2_init 57 = .ok (.new 9, 3) := by decide +kernel
theorem dX2_init_60 : decode cX2_init 60 = .ok (.dup, 1) := by decide +kernel
theorem dX2_init_61 : decode cX2_init 61 = .ok (.bipush 60, 2) := by decide +kernel
theorem dX2_init_63 : decode cX2_init 63 = .ok (.invokespecial 11, 3) := by decide +kernel
theorem dX2_init_66 : decode cX2_init 66 = .ok (.putfield 29, 3) := by decide +kernel
theorem dX2_init_69 : decode cX2_init 69 = .ok (.aload_n 0, 1) := by decide +kernel
theorem dX2_init_70 : decode cX2_init 70 = .ok (.new 9, 3) := by decide +kernel
theorem dX2_init_73 : decode cX2_init 73 = .ok (.dup, 1) := by decide +kernel
theorem dX2_init_74 : decode cX2_init 74 = .ok (.bipush 60, 2) := by decide +kernel
theorem dX2_init_76 : decode cX2_init 76 = .ok (.invokespecial 11, 3) := by decide +kernel
theorem dX2_init_79 : decode cX2_init 79 = .ok (.putfield 32, 3) := by decide +kernel
theorem dX2_init_82 : decode cX2_init 82 = .ok (.aload_n 0, 1) := by decide +kernel
theorem dX2_init_83 : decode cX2_init 83 = .ok (.new 9, 3) := by decide +kernel
theorem dX2_init_86 : decode cX2_init 86 = .ok (.dup, 1) := by decide +kernel
theorem dX2_init_87 : decode cX2_init 87 = .ok (.bipush 60, 2) := by decide +kernel
theorem dX2_init_89 : decode cX2_init 89 = .ok (.invokespecial 11, 3) := by decide +kernel
theorem dX2_init_92 : decode cX2_init 92 = .ok (.putfield 35, 3) := by decide +kernel
theorem dX2_init_95 : decode cX2_init 95 = .ok (.aload_n 0, 1) := by decide +kernel
theorem dX2_init_96 : decode cX2_init 96 = .ok (.new 9, 3) := by decide +kernel
theorem dX2_init_99 : decode cX2_init 99 = .ok (.dup, 1) := by decide +kernel
theorem dX2_init_100 : decode cX2_init 100 = .ok (.bipush 60, 2) := by decide +kernel
theorem dX2_init_102 : decode cX2_init 102 = .ok (.invokespecial 11, 3) := by decide +kernel
theorem dX2_init_105 : decode cX2_init 105 = .ok (.putfield 38, 3) := by decide +kernel
theorem dX2_init_108 : decode cX2_init 108 = .ok (.aload_n 0, 1) := by decide +kernel
theorem dX2_init_109 : decode cX2_init 109 = .ok (.new 9, 3) := by decide +kernel
theorem dX2_init_112 : decode cX2_init 112 = .ok (.dup, 1) := by decide +kernel
theorem dX2_init_113 : decode cX2_init 113 = .ok (.bipush 60, 2) := by decide +kernel
theorem dX2_init_115 : decode cX2_init 115 = .ok (.invokespecial 11, 3) := by decide +kernel
theorem dX2_init_118 : decode cX2_init 118 = .ok (.putfield 41, 3) := by decide +kernel
theorem dX2_init_121 : decode cX2_init 121 = .ok (.aload_n 0, 1) := by decide +kernel
theorem dX2_init_122 : decode cX2_init 122 = .ok (.new 9, 3) := by decide +kernel
theorem dX2_init_125 : decode cX2_init 125 = .ok (.dup, 1) := by decide +kernel
theorem dX2_init_126 : decode cX2_init 126 = .ok (.bipush 60, 2) := by decide +kernel
theorem dX2_init_128 : decode cX2_init 128 = .ok (.invokespecial 11, 3) := by decide +kernel
theorem dX2_init_131 : decode cX2_init 131 = .ok (.putfield 44, 3) := by decide +kernel
theorem dX2_init_134 : decode cX2_init 134 = .ok (.aload_n 0, 1) := by decide +kernel
theorem dX2_init_135 : decode cX2_init 135 = .ok (.new 9, 3) := by decide +kernel
theorem dX2_init_138 : decode cX2_init 138 = .ok (.dup, 1) := by decide +kernel
theorem dX2_init_139 : decode cX2_init 139 = .ok (.bipush 60, 2) := by decide +kernel
theorem dX2_init_141 : decode cX2_init 141 = .ok (.invokespecial 11, 3) := by decide +kernel
theorem dX2_init_144 : decode cX2_init 144 = .ok (.putfield 47, 3) := by decide +kernel
theorem dX2_init_147 : decode cX2_init 147 = .ok (.aload_n 0, 1) := by decide +kernel
theorem dX2_init_148 : decode cX2_init 148 = .ok (.new 9, 3) := by decide +kernel
theorem dX2_init_151 : decode cX2_init 151 = .ok (.dup, 1) := by decide +kernel
theorem dX2_init_152 : decode cX2_init 152 = .ok (.bipush 60, 2) := by decide +kernel
theorem dX2_init_154 : decode cX2_init 154 = .ok (.invokespecial 11, 3) := by decide +kernel
theorem dX2_init_157 : decode cX2_init 157 = .ok (.putfield 50, 3) := by decide +kernel
theorem dX2_init_160 : decode cX2_init 160 = .ok (.aload_n 0, 1) := by decide +kernel
theorem dX2_init_161 : decode cX2_init 161 = .ok (.iconst (-1), 1) := by decide +kernel
theorem dX2_init_162 : decode cX2_init 162 = .ok (.putfield 53, 3) := by decide +kernel
theorem dX2_init_165 : decode cX2_init 165 = .ok (.aload_n 0, 1) := by decide +kernel
theorem dX2_init_166 : decode cX2_init 166 = .ok (.aload_n 1, 1) := by decide +kernel
theorem dX2_init_167 : decode cX2_init 167 = .ok (.putfield 57, 3) := by decide +kernel
theorem dX2_init_170 : decode cX2_init 170 = .ok (.return_, 1) := by decide +kernel
theorem dX2_clear_0 : decode cX2_clear 0 = .ok (.aload_n 0, 1) := by decide +kernel
theorem dX2_clear_1 : decode cX2_clear 1 = .ok (.iconst 0, 1) := by decide +kernel
theorem dX2_clear_2 : decode cX2_clear 2 = .ok (.putfield 61, 3) := by decide +kernel
theorem dX2_clear_5 : decode cX2_clear 5 = .ok (.aload_n 0, 1) := by decide +kernel
theorem dX2_clear_6 : decode cX2_clear 6 = .ok (.iconst 0, 1) := by decide +kernel
theorem dX2_clear_7 : decode cX2_clear 7 = .ok (.putfield 64, 3) := by decide +kernel
theorem dX2_clear_10 : decode cX2_clear 10 = .ok (.aload_n 0, 1) := by decide +kernel
theorem dX2_clear_11 : decode cX2_clear 11 = .ok (.iconst (-1), 1) := by decide +kernel
theorem dX2_clear_12 : decode cX2_clear 12 = .ok (.putfield 53, 3) := by decide +kernel
theorem dX2_clear_15 : decode cX2_clear 15 = .ok (.return_, 1) := by decide +kernel
theorem dX2_hasLine_0 : decode cX2_hasLine 0 = .ok (.iload_n 1, 1) := by decide +kernel
theorem dX2_hasLine_1 : decode cX2_hasLine 1 = .ok (.ifCond .lt 15, 3) := by decide +kernel
theorem dX2_hasLine_4 : decode cX2_hasLine 4 = .ok (.iload_n 1, 1) := by decide +kernel
theorem dX2_hasLine_5 : decode cX2_hasLine 5 = .ok (.aload_n 0, 1) := by decide +kernel
theorem dX2_hasLine_6 : decode cX2_hasLine 6 = .ok (.getfield 61, 3) := by decide +kernel
theorem dX2_hasLine_9 : decode cX2_hasLine 9 = .ok (.if_icmp .ge 7, 3) := by decide +kernel
theorem dX2_hasLine_12 : decode cX2_hasLine 12 = .ok (.iconst 1, 1) := by decide +kernel
theorem dX2_hasLine_13 : decode cX2_hasLine 13 = .ok (.goto 4, 3) := by decide +kernel
theorem dX2_hasLine_16 : decode cX2_hasLine 16 = .ok (.iconst 0, 1) := by decide +kernel
theorem dX2_hasLine_17 : decode cX2_hasLine 17 = .ok (.ireturn, 1) := by decide +kernel
theorem dX2_hasBox_0 : decode cX2_hasBox 0 = .ok (.iload_n 1, 1) := by decide +kernel
theorem dX2_hasBox_1 : decode cX2_hasBox 1 = .ok (.ifCond .lt 15, 3) := by decide +kernel
theorem dX2_hasBox_4 : decode cX2_hasBox 4 = .ok (.iload_n 1, 1) := by decide +kernel
theorem dX2_hasBox_5 : decode cX2_hasBox 5 = .ok (.aload_n 0, 1) := by decide +kernel
theorem dX2_hasBox_6 : decode cX2_hasBox 6 = .ok (.getfield 64, 3) := by decide +kernel
theorem dX2_hasBox_9 : decode cX2_hasBox 9 = .ok (.if_icmp .ge 7, 3) := by decide +kernel
theorem dX2_hasBox_12 : decode cX2_hasBox 12 = .ok (.iconst 1, 1) := by decide +kernel
theorem dX2_hasBox_13 : decode cX2_hasBox 13 = .ok (.goto 4, 3) := by decide +kernel
theorem dX2_hasBox_16 : decode cX2_hasBox 16 = .ok (.iconst 0, 1) := by decide +kernel
theorem dX2_hasBox_17 : decode cX2_hasBox 17 = .ok (.ireturn, 1) := by decide +kernel
theorem dX2_formula_0 : decode cX2_formula 0 = .ok (.aload_n 0, 1) := by decide +kernel
theorem dX2_formula_1 : decode cX2_formula 1 = .ok (.getfield 14, 3) := by decide +kernel
theorem dX2_formula_4 : decode cX2_formula 4 = .ok (.iload_n 1, 1) := by decide +kernel
theorem dX2_formula_5 : decode cX2_formula 5 = .ok (.invokevirtual 67, 3) := by decide +kernel
theorem dX2_formula_8 : decode cX2_formula 8 = .ok (.ireturn, 1) := by decide +kernel
theorem dX2_rule_0 : decode cX2_rule 0 = .ok (.aload_n 0, 1) := by decide +kernel
theorem dX2_rule_1 : decode cX2_rule 1 = .ok (.getfield 20, 3) := by decide +kernel
theorem dX2_rule_4 : decode cX2_rule 4 = .ok (.iload_n 1, 1) := by decide +kernel
theorem dX2_rule_5 : decode cX2_rule 5 = .ok (.invokevirtual 67, 3) := by decide +kernel
theorem dX2_rule_8 : decode cX2_rule 8 = .ok (.i2c, 1) := by decide +kernel
theorem dX2_rule_9 : decode cX2_rule 9 = .ok (.ireturn, 1) := by decide +kernel
theorem dX2_innermostOf_0 : decode cX2_innermostOf 0 = .ok (.aload_n 0, 1) := by decide +kernel
theorem dX2_innermostOf_1 : decode cX2_innermostOf 1 = .ok (.getfield 23, 3) := by decide +kernel
theorem dX2_innermostOf_4 : decode cX2_innermostOf 4 = .ok (.iload_n 1, 1) := by decide +kernel
theorem dX2_innermostOf_5 : decode cX2_innermostOf 5 = .ok (.invokevirtual 67, 3) := by decide +kernel
theorem dX2_innermostOf_8 : decode cX2_innermostOf 8 = .ok (.ireturn, 1) := by decide +kernel
theorem dX2_begin_0 : decode cX2_begin 0 = .ok (.aload_n 0, 1) := by decide +kernel
theorem dX2_begin_1 : decode cX2_begin 1 = .ok (.aload_n 0, 1) := by decide +kernel
theorem dX2_begin_2 : decode cX2_begin 2 = .ok (.getfield 41, 3) := by decide +kernel
theorem dX2_begin_5 : decode cX2_begin 5 = .ok (.iload_n 1, 1) := by decide +kernel
theorem dX2_begin_6 : decode cX2_begin 6 = .ok (.invokevirtual 67, 3) := by decide +kernel
theorem dX2_begin_9 : decode cX2_begin 9 = .ok (.invokevirtual 71, 3) := by decide +kernel
theorem dX2_begin_12 : decode cX2_begin 12 = .ok (.ireturn, 1) := by decide +kernel
theorem dX2_result_0 : decode cX2_result 0 = .ok (.aload_n 0, 1) := by decide +kernel
theorem dX2_result_1 : decode cX2_result 1 = .ok (.aload_n 0, 1) := by decide +kernel
theorem dX2_result_2 : decode cX2_result 2 = .ok (.getfield 44, 3) := by decide +kernel
theorem dX2_result_5 : decode cX2_result 5 = .ok (.iload_n 1, 1) := by decide +kernel
theorem dX2_result_6 : decode cX2_result 6 = .ok (.invokevirtual 67, 3) := by decide +kernel
theorem dX2_result_9 : decode cX2_result 9 = .ok (.invokevirtual 71, 3) := by decide +kernel
theorem dX2_result_12 : decode cX2_result 12 = .ok (.ireturn, 1) := by decide +kernel
theorem dX2_enter_0 : decode cX2_enter 0 = .ok (.aload_n 0, 1) := by decide +kernel
theorem dX2_enter_1 : decode cX2_enter 1 = .ok (.getfield 61, 3) := by decide +kernel
theorem dX2_enter_4 : decode cX2_enter 4 = .ok (.istore_n 3, 1) := by decide +kernel
theorem dX2_enter_5 : decode cX2_enter 5 = .ok (.aload_n 0, 1) := by decide +kernel
theorem dX2_enter_6 : decode cX2_enter 6 = .ok (.getfield 14, 3) := by decide +kernel
theorem dX2_enter_9 : decode cX2_enter 9 = .ok (.iload_n 3, 1) := by decide +kernel
theorem dX2_enter_10 : decode cX2_enter 10 = .ok (.iload_n 1, 1) := by decide +kernel
theorem dX2_enter_11 : decode cX2_enter 11 = .ok (.invokevirtual 74, 3) := by decide +kernel
theorem dX2_enter_14 : decode cX2_enter 14 = .ok (.aload_n 0, 1) := by decide +kernel
theorem dX2_enter_15 : decode cX2_enter 15 = .ok (.getfield 20, 3) := by decide +kernel
theorem dX2_enter_18 : decode cX2_enter 18 = .ok (.iload_n 3, 1) := by decide +kernel
theorem dX2_enter_19 : decode cX2_enter 19 = .ok (.iload_n 2, 1) := by decide +kernel
theorem dX2_enter_20 : decode cX2_enter 20 = .ok (.invokevirtual 74, 3) := by decide +kernel
theorem dX2_enter_23 : decode cX2_enter 23 = .ok (.aload_n 0, 1) := by decide +kernel
theorem dX2_enter_24 : decode cX2_enter 24 = .ok (.getfield 23, 3) := by decide +kernel
theorem dX2_enter_27 : decode cX2_enter 27 = .ok (.iload_n 3, 1) := by decide +kernel
theorem dX2_enter_28 : decode cX2_enter 28 = .ok (.aload_n 0, 1) := by decide +kernel
theorem dX2_enter_29 : decode cX2_enter 29 = .ok (.getfield 53, 3) := by decide +kernel
theorem dX2_enter_32 : decode cX2_enter 32 = .ok (.invokevirtual 74, 3) := by decide +kernel
theorem dX2_enter_35 : decode cX2_enter 35 = .ok (.aload_n 0, 1) := by decide +kernel
theorem dX2_enter_36 : decode cX2_enter 36 = .ok (.getfield 26, 3) := by decide +kernel
theorem dX2_enter_39 : decode cX2_enter 39 = .ok (.iload_n 3, 1) := by decide +kernel
theorem dX2_enter_40 : decode cX2_enter 40 = .ok (.iconst (-1), 1) := by decide +kernel
theorem dX2_enter_41 : decode cX2_enter 41 = .ok (.invokevirtual 74, 3) := by decide +kernel
theorem dX2_enter_44 : decode cX2_enter 44 = .ok (.aload_n 0, 1) := by decide +kernel
theorem dX2_enter_45 : decode cX2_enter 45 = .ok (.getfield 29, 3) := by decide +kernel
theorem dX2_enter_48 : decode cX2_enter 48 = .ok (.iload_n 3, 1) := by decide +kernel
theorem dX2_enter_49 : decode cX2_enter 49 = .ok (.iconst (-1), 1) := by decide +kernel
theorem dX2_enter_50 : decode cX2_enter 50 = .ok (.invokevirtual 74, 3) := by decide +kernel
theorem dX2_enter_53 : decode cX2_enter 53 = .ok (.aload_n 0, 1) := by decide +kernel
theorem dX2_enter_54 : decode cX2_enter 54 = .ok (.getfield 32, 3) := by decide +kernel
theorem dX2_enter_57 : decode cX2_enter 57 = .ok (.iload_n 3, 1) := by decide +kernel
theorem dX2_enter_58 : decode cX2_enter 58 = .ok (.iconst (-1), 1) := by decide +kernel
theorem dX2_enter_59 : decode cX2_enter 59 = .ok (.invokevirtual 74, 3) := by decide +kernel
theorem dX2_enter_62 : decode cX2_enter 62 = .ok (.aload_n 0, 1) := by decide +kernel
theorem dX2_enter_63 : decode cX2_enter 63 = .ok (.getfield 35, 3) := by decide +kernel
theorem dX2_enter_66 : decode cX2_enter 66 = .ok (.iload_n 3, 1) := by decide +kernel
theorem dX2_enter_67 : decode cX2_enter 67 = .ok (.iconst (-1), 1) := by decide +kernel
theorem dX2_enter_68 : decode cX2_enter 68 = .ok (.invokevirtual 74, 3) := by decide +kernel
theorem dX2_enter_71 : decode cX2_enter 71 = .ok (.aload_n 0, 1) := by decide +kernel
theorem dX2_enter_72 : decode cX2_enter 72 = .ok (.getfield 44, 3) := by decide +kernel
theorem dX2_enter_75 : decode cX2_enter 75 = .ok (.aload_n 0, 1) := by decide +kernel
theorem dX2_enter_76 : decode cX2_enter 76 = .ok (.getfield 53, 3) := by decide +kernel
theorem dX2_enter_79 : decode cX2_enter 79 = .ok (.iload_n 3, 1) := by decide +kernel
theorem dX2_enter_80 : decode cX2_enter 80 = .ok (.invokevirtual 74, 3) := by decide +kernel
theorem dX2_enter_83 : decode cX2_enter 83 = .ok (.aload_n 0, 1) := by decide +kernel
theorem dX2_enter_84 : decode cX2_enter 84 = .ok (.dup, 1) := by decide +kernel
theorem dX2_enter_85 : decode cX2_enter 85 = .ok (.getfield 61, 3) := by decide +kernel
theorem dX2_enter_88 : decode cX2_enter 88 = .ok (.iconst 1, 1) := by decide +kernel
theorem dX2_enter_89 : decode cX2_enter 89 = .ok (.iadd, 1) := by decide +kernel
theorem dX2_enter_90 : decode cX2_enter 90 = .ok (.putfield 61, 3) := by decide +kernel
theorem dX2_enter_93 : decode cX2_enter 93 = .ok (.iload_n 3, 1) := by decide +kernel
theorem dX2_enter_94 : decode cX2_enter 94 = .ok (.ireturn, 1) := by decide +kernel
theorem dX2_enterCiting_0 : decode cX2_enterCiting 0 = .ok (.aload_n 0, 1) := by decide +kernel
theorem dX2_enterCiting_1 : decode cX2_enterCiting 1 = .ok (.iload_n 1, 1) := by decide +kernel
theorem dX2_enterCiting_2 : decode cX2_enterCiting 2 = .ok (.iload_n 2, 1) := by decide +kernel
theorem dX2_enterCiting_3 : decode cX2_enterCiting 3 = .ok (.invokevirtual 78, 3) := by decide +kernel
theorem dX2_enterCiting_6 : decode cX2_enterCiting 6 = .ok (.istore 5, 2) := by decide +kernel
theorem dX2_enterCiting_8 : decode cX2_enterCiting 8 = .ok (.aload_n 0, 1) := by decide +kernel
theorem dX2_enterCiting_9 : decode cX2_enterCiting 9 = .ok (.getfield 26, 3) := by decide +kernel
theorem dX2_enterCiting_12 : decode cX2_enterCiting 12 = .ok (.iload 5, 2) := by decide +kernel
theorem dX2_enterCiting_14 : decode cX2_enterCiting 14 = .ok (.iload_n 3, 1) := by decide +kernel
theorem dX2_enterCiting_15 : decode cX2_enterCiting 15 = .ok (.invokevirtual 74, 3) := by decide +kernel
theorem dX2_enterCiting_18 : decode cX2_enterCiting 18 = .ok (.aload_n 0, 1) := by decide +kernel
theorem dX2_enterCiting_19 : decode cX2_enterCiting 19 = .ok (.getfield 29, 3) := by decide +kernel
theorem dX2_enterCiting_22 : decode cX2_enterCiting 22 = .ok (.iload 5, 2) := by decide +kernel
theorem dX2_enterCiting_24 : decode cX2_enterCiting 24 = .ok (.iload 4, 2) := by decide +kernel
theorem dX2_enterCiting_26 : decode cX2_enterCiting 26 = .ok (.invokevirtual 74, 3) := by decide +kernel
theorem dX2_enterCiting_29 : decode cX2_enterCiting 29 = .ok (.iload 5, 2) := by decide +kernel
theorem dX2_enterCiting_31 : decode cX2_enterCiting 31 = .ok (.ireturn, 1) := by decide +kernel
theorem dX2_citeBoxes_0 : decode cX2_citeBoxes 0 = .ok (.aload_n 0, 1) := by decide +kernel
theorem dX2_citeBoxes_1 : decode cX2_citeBoxes 1 = .ok (.getfield 32, 3) := by decide +kernel
theorem dX2_citeBoxes_4 : decode cX2_citeBoxes 4 = .ok (.iload_n 1, 1) := by decide +kernel
theorem dX2_citeBoxes_5 : decode cX2_citeBoxes 5 = .ok (.iload_n 2, 1) := by decide +kernel
theorem dX2_citeBoxes_6 : decode cX2_citeBoxes 6 = .ok (.invokevirtual 74, 3) := by decide +kernel
theorem dX2_citeBoxes_9 : decode cX2_citeBoxes 9 = .ok (.aload_n 0, 1) := by decide +kernel
theorem dX2_citeBoxes_10 : decode cX2_citeBoxes 10 = .ok (.getfield 35, 3) := by decide +kernel
theorem dX2_citeBoxes_13 : decode cX2_citeBoxes 13 = .ok (.iload_n 1, 1) := by decide +kernel
theorem dX2_citeBoxes_14 : decode cX2_citeBoxes 14 = .ok (.iload_n 3, 1) := by decide +kernel
theorem dX2_citeBoxes_15 : decode cX2_citeBoxes 15 = .ok (.invokevirtual 74, 3) := by decide +kernel
theorem dX2_citeBoxes_18 : decode cX2_citeBoxes 18 = .ok (.return_, 1) := by decide +kernel
theorem dX2_open_0 : decode cX2_open 0 = .ok (.aload_n 0, 1) := by decide +kernel
theorem dX2_open_1 : decode cX2_open 1 = .ok (.getfield 64, 3) := by decide +kernel
theorem dX2_open_4 : decode cX2_open 4 = .ok (.istore_n 2, 1) := by decide +kernel
theorem dX2_open_5 : decode cX2_open 5 = .ok (.aload_n 0, 1) := by decide +kernel
theorem dX2_open_6 : decode cX2_open 6 = .ok (.getfield 47, 3) := by decide +kernel
theorem dX2_open_9 : decode cX2_open 9 = .ok (.iload_n 2, 1) := by decide +kernel
theorem dX2_open_10 : decode cX2_open 10 = .ok (.aload_n 0, 1) := by decide +kernel
theorem dX2_open_11 : decode cX2_open 11 = .ok (.getfield 53, 3) := by decide +kernel
theorem dX2_open_14 : decode cX2_open 14 = .ok (.invokevirtual 74, 3) := by decide +kernel
theorem dX2_open_17 : decode cX2_open 17 = .ok (.aload_n 0, 1) := by decide +kernel
theorem dX2_open_18 : decode cX2_open 18 = .ok (.getfield 50, 3) := by decide +kernel
theorem dX2_open_21 : decode cX2_open 21 = .ok (.iload_n 2, 1) := by decide +kernel
theorem dX2_open_22 : decode cX2_open 22 = .ok (.iconst 1, 1) := by decide +kernel
theorem dX2_open_23 : decode cX2_open 23 = .ok (.invokevirtual 74, 3) := by decide +kernel
theorem dX2_open_26 : decode cX2_open 26 = .ok (.aload_n 0, 1) := by decide +kernel
theorem dX2_open_27 : decode cX2_open 27 = .ok (.getfield 41, 3) := by decide +kernel
theorem dX2_open_30 : decode cX2_open 30 = .ok (.iload_n 2, 1) := by decide +kernel
theorem dX2_open_31 : decode cX2_open 31 = .ok (.aload_n 0, 1) := by decide +kernel
theorem dX2_open_32 : decode cX2_open 32 = .ok (.getfield 61, 3) := by decide +kernel
theorem dX2_open_35 : decode cX2_open 35 = .ok (.invokevirtual 74, 3) := by decide +kernel
theorem dX2_open_38 : decode cX2_open 38 = .ok (.aload_n 0, 1) := by decide +kernel
theorem dX2_open_39 : decode cX2_open 39 = .ok (.iload_n 2, 1) := by decide +kernel
theorem dX2_open_40 : decode cX2_open 40 = .ok (.putfield 53, 3) := by decide +kernel
theorem dX2_open_43 : decode cX2_open 43 = .ok (.aload_n 0, 1) := by decide +kernel
theorem dX2_open_44 : decode cX2_open 44 = .ok (.dup, 1) := by decide +kernel
theorem dX2_open_45 : decode cX2_open 45 = .ok (.getfield 64, 3) := by decide +kernel
theorem dX2_open_48 : decode cX2_open 48 = .ok (.iconst 1, 1) := by decide +kernel
theorem dX2_open_49 : decode cX2_open 49 = .ok (.iadd, 1) := by decide +kernel
theorem dX2_open_50 : decode cX2_open 50 = .ok (.putfield 64, 3) := by decide +kernel
theorem dX2_open_53 : decode cX2_open 53 = .ok (.aload_n 0, 1) := by decide +kernel
theorem dX2_open_54 : decode cX2_open 54 = .ok (.iload_n 1, 1) := by decide +kernel
theorem dX2_open_55 : decode cX2_open 55 = .ok (.bipush 72, 2) := by decide +kernel
theorem dX2_open_57 : decode cX2_open 57 = .ok (.invokevirtual 78, 3) := by decide +kernel
theorem dX2_open_60 : decode cX2_open 60 = .ok (.ireturn, 1) := by decide +kernel
theorem dX2_close_0 : decode cX2_close 0 = .ok (.aload_n 0, 1) := by decide +kernel
theorem dX2_close_1 : decode cX2_close 1 = .ok (.getfield 53, 3) := by decide +kernel
theorem dX2_close_4 : decode cX2_close 4 = .ok (.istore_n 1, 1) := by decide +kernel
theorem dX2_close_5 : decode cX2_close 5 = .ok (.aload_n 0, 1) := by decide +kernel
theorem dX2_close_6 : decode cX2_close 6 = .ok (.getfield 50, 3) := by decide +kernel
theorem dX2_close_9 : decode cX2_close 9 = .ok (.iload_n 1, 1) := by decide +kernel
theorem dX2_close_10 : decode cX2_close 10 = .ok (.iconst 0, 1) := by decide +kernel
theorem dX2_close_11 : decode cX2_close 11 = .ok (.invokevirtual 74, 3) := by decide +kernel
theorem dX2_close_14 : decode cX2_close 14 = .ok (.aload_n 0, 1) := by decide +kernel
theorem dX2_close_15 : decode cX2_close 15 = .ok (.aload_n 0, 1) := by decide +kernel
theorem dX2_close_16 : decode cX2_close 16 = .ok (.getfield 47, 3) := by decide +kernel
theorem dX2_close_19 : decode cX2_close 19 = .ok (.iload_n 1, 1) := by decide +kernel
theorem dX2_close_20 : decode cX2_close 20 = .ok (.invokevirtual 67, 3) := by decide +kernel
theorem dX2_close_23 : decode cX2_close 23 = .ok (.putfield 53, 3) := by decide +kernel
theorem dX2_close_26 : decode cX2_close 26 = .ok (.iload_n 1, 1) := by decide +kernel
theorem dX2_close_27 : decode cX2_close 27 = .ok (.ireturn, 1) := by decide +kernel
theorem dX2_depth_0 : decode cX2_depth 0 = .ok (.aload_n 0, 1) := by decide +kernel
theorem dX2_depth_1 : decode cX2_depth 1 = .ok (.iload_n 1, 1) := by decide +kernel
theorem dX2_depth_2 : decode cX2_depth 2 = .ok (.invokevirtual 82, 3) := by decide +kernel
theorem dX2_depth_5 : decode cX2_depth 5 = .ok (.istore_n 2, 1) := by decide +kernel
theorem dX2_depth_6 : decode cX2_depth 6 = .ok (.iconst 0, 1) := by decide +kernel
theorem dX2_depth_7 : decode cX2_depth 7 = .ok (.istore_n 3, 1) := by decide +kernel
theorem dX2_depth_8 : decode cX2_depth 8 = .ok (.iload_n 2, 1) := by decide +kernel
theorem dX2_depth_9 : decode cX2_depth 9 = .ok (.iconst (-1), 1) := by decide +kernel
theorem dX2_depth_10 : decode cX2_depth 10 = .ok (.if_icmp .eq 24, 3) := by decide +kernel
theorem dX2_depth_13 : decode cX2_depth 13 = .ok (.iload_n 3, 1) := by decide +kernel
theorem dX2_depth_14 : decode cX2_depth 14 = .ok (.bipush 60, 2) := by decide +kernel
theorem dX2_depth_16 : decode cX2_depth 16 = .ok (.if_icmp .ge 18, 3) := by decide +kernel
theorem dX2_depth_19 : decode cX2_depth 19 = .ok (.aload_n 0, 1) := by decide +kernel
theorem dX2_depth_20 : decode cX2_depth 20 = .ok (.getfield 47, 3) := by decide +kernel
theorem dX2_depth_23 : decode cX2_depth 23 = .ok (.iload_n 2, 1) := by decide +kernel
theorem dX2_depth_24 : decode cX2_depth 24 = .ok (.invokevirtual 67, 3) := by decide +kernel
theorem dX2_depth_27 : decode cX2_depth 27 = .ok (.istore_n 2, 1) := by decide +kernel
theorem dX2_depth_28 : decode cX2_depth 28 = .ok (.iinc 3 1, 3) := by decide +kernel
theorem dX2_depth_31 : decode cX2_depth 31 = .ok (.goto (-23), 3) := by decide +kernel
theorem dX2_depth_34 : decode cX2_depth 34 = .ok (.iload_n 3, 1) := by decide +kernel
theorem dX2_depth_35 : decode cX2_depth 35 = .ok (.ireturn, 1) := by decide +kernel
theorem dX2_isOpenOrNone_0 : decode cX2_isOpenOrNone 0 = .ok (.iload_n 1, 1) := by decide +kernel
theorem dX2_isOpenOrNone_1 : decode cX2_isOpenOrNone 1 = .ok (.iconst (-1), 1) := by decide +kernel
theorem dX2_isOpenOrNone_2 : decode cX2_isOpenOrNone 2 = .ok (.if_icmp .eq 15, 3) := by decide +kernel
theorem dX2_isOpenOrNone_5 : decode cX2_isOpenOrNone 5 = .ok (.aload_n 0, 1) := by decide +kernel
theorem dX2_isOpenOrNone_6 : decode cX2_isOpenOrNone 6 = .ok (.getfield 50, 3) := by decide +kernel
theorem dX2_isOpenOrNone_9 : decode cX2_isOpenOrNone 9 = .ok (.iload_n 1, 1) := by decide +kernel
theorem dX2_isOpenOrNone_10 : decode cX2_isOpenOrNone 10 = .ok (.invokevirtual 67, 3) := by decide +kernel
theorem dX2_isOpenOrNone_13 : decode cX2_isOpenOrNone 13 = .ok (.iconst 1, 1) := by decide +kernel
theorem dX2_isOpenOrNone_14 : decode cX2_isOpenOrNone 14 = .ok (.if_icmp .ne 7, 3) := by decide +kernel
theorem dX2_isOpenOrNone_17 : decode cX2_isOpenOrNone 17 = .ok (.iconst 1, 1) := by decide +kernel
theorem dX2_isOpenOrNone_18 : decode cX2_isOpenOrNone 18 = .ok (.goto 4, 3) := by decide +kernel
theorem dX2_isOpenOrNone_21 : decode cX2_isOpenOrNone 21 = .ok (.iconst 0, 1) := by decide +kernel
theorem dX2_isOpenOrNone_22 : decode cX2_isOpenOrNone 22 = .ok (.ireturn, 1) := by decide +kernel
theorem dX2_isCitable_0 : decode cX2_isCitable 0 = .ok (.aload_n 0, 1) := by decide +kernel
theorem dX2_isCitable_1 : decode cX2_isCitable 1 = .ok (.aload_n 0, 1) := by decide +kernel
theorem dX2_isCitable_2 : decode cX2_isCitable 2 = .ok (.iload_n 1, 1) := by decide +kernel
theorem dX2_isCitable_3 : decode cX2_isCitable 3 = .ok (.invokevirtual 82, 3) := by decide +kernel
theorem dX2_isCitable_6 : decode cX2_isCitable 6 = .ok (.invokevirtual 85, 3) := by decide +kernel
theorem dX2_isCitable_9 : decode cX2_isCitable 9 = .ok (.ireturn, 1) := by decide +kernel
theorem dX2_isCitableBox_0 : decode cX2_isCitableBox 0 = .ok (.aload_n 0, 1) := by decide +kernel
theorem dX2_isCitableBox_1 : decode cX2_isCitableBox 1 = .ok (.getfield 50, 3) := by decide +kernel
theorem dX2_isCitableBox_4 : decode cX2_isCitableBox 4 = .ok (.iload_n 1, 1) := by decide +kernel
theorem dX2_isCitableBox_5 : decode cX2_isCitableBox 5 = .ok (.invokevirtual 67, 3) := by decide +kernel
theorem dX2_isCitableBox_8 : decode cX2_isCitableBox 8 = .ok (.ifCond .ne 22, 3) := by decide +kernel
theorem dX2_isCitableBox_11 : decode cX2_isCitableBox 11 = .ok (.aload_n 0, 1) := by decide +kernel
theorem dX2_isCitableBox_12 : decode cX2_isCitableBox 12 = .ok (.aload_n 0, 1) := by decide +kernel
theorem dX2_isCitableBox_13 : decode cX2_isCitableBox 13 = .ok (.getfield 47, 3) := by decide +kernel
theorem dX2_isCitableBox_16 : decode cX2_isCitableBox 16 = .ok (.iload_n 1, 1) := by decide +kernel
theorem dX2_isCitableBox_17 : decode cX2_isCitableBox 17 = .ok (.invokevirtual 67, 3) := by decide +kernel
theorem dX2_isCitableBox_20 : decode cX2_isCitableBox 20 = .ok (.invokevirtual 85, 3) := by decide +kernel
theorem dX2_isCitableBox_23 : decode cX2_isCitableBox 23 = .ok (.ifCond .eq 7, 3) := by decide +kernel
theorem dX2_isCitableBox_26 : decode cX2_isCitableBox 26 = .ok (.iconst 1, 1) := by decide +kernel
theorem dX2_isCitableBox_27 : decode cX2_isCitableBox 27 = .ok (.goto 4, 3) := by decide +kernel
theorem dX2_isCitableBox_30 : decode cX2_isCitableBox 30 = .ok (.iconst 0, 1) := by decide +kernel
theorem dX2_isCitableBox_31 : decode cX2_isCitableBox 31 = .ok (.ireturn, 1) := by decide +kernel
theorem dX2_isPremise_0 : decode cX2_isPremise 0 = .ok (.aload_n 0, 1) := by decide +kernel
theorem dX2_isPremise_1 : decode cX2_isPremise 1 = .ok (.iload_n 1, 1) := by decide +kernel
theorem dX2_isPremise_2 : decode cX2_isPremise 2 = .ok (.invokevirtual 89, 3) := by decide +kernel
theorem dX2_isPremise_5 : decode cX2_isPremise 5 = .ok (.bipush 80, 2) := by decide +kernel
theorem dX2_isPremise_7 : decode cX2_isPremise 7 = .ok (.if_icmp .ne 7, 3) := by decide +kernel
theorem dX2_isPremise_10 : decode cX2_isPremise 10 = .ok (.iconst 1, 1) := by decide +kernel
theorem dX2_isPremise_11 : decode cX2_isPremise 11 = .ok (.goto 4, 3) := by decide +kernel
theorem dX2_isPremise_14 : decode cX2_isPremise 14 = .ok (.iconst 0, 1) := by decide +kernel
theorem dX2_isPremise_15 : decode cX2_isPremise 15 = .ok (.ireturn, 1) := by decide +kernel
theorem dX2_premiseCount_0 : decode cX2_premiseCount 0 = .ok (.iconst 0, 1) := by decide +kernel
theorem dX2_premiseCount_1 : decode cX2_premiseCount 1 = .ok (.istore_n 1, 1) := by decide +kernel
theorem dX2_premiseCount_2 : decode cX2_premiseCount 2 = .ok (.iconst 0, 1) := by decide +kernel
theorem dX2_premiseCount_3 : decode cX2_premiseCount 3 = .ok (.istore_n 2, 1) := by decide +kernel
theorem dX2_premiseCount_4 : decode cX2_premiseCount 4 = .ok (.iload_n 2, 1) := by decide +kernel
theorem dX2_premiseCount_5 : decode cX2_premiseCount 5 = .ok (.aload_n 0, 1) := by decide +kernel
theorem dX2_premiseCount_6 : decode cX2_premiseCount 6 = .ok (.getfield 61, 3) := by decide +kernel
theorem dX2_premiseCount_9 : decode cX2_premiseCount 9 = .ok (.if_icmp .ge 20, 3) := by decide +kernel
theorem dX2_premiseCount_12 : decode cX2_premiseCount 12 = .ok (.aload_n 0, 1) := by decide +kernel
theorem dX2_premiseCount_13 : decode cX2_premiseCount 13 = .ok (.iload_n 2, 1) := by decide +kernel
theorem dX2_premiseCount_14 : decode cX2_premiseCount 14 = .ok (.invokevirtual 93, 3) := by decide +kernel
theorem dX2_premiseCount_17 : decode cX2_premiseCount 17 = .ok (.ifCond .eq 6, 3) := by decide +kernel
theorem dX2_premiseCount_20 : decode cX2_premiseCount 20 = .ok (.iinc 1 1, 3) := by decide +kernel
theorem dX2_premiseCount_23 : decode cX2_premiseCount 23 = .ok (.iinc 2 1, 3) := by decide +kernel
theorem dX2_premiseCount_26 : decode cX2_premiseCount 26 = .ok (.goto (-22), 3) := by decide +kernel
theorem dX2_premiseCount_29 : decode cX2_premiseCount 29 = .ok (.iload_n 1, 1) := by decide +kernel
theorem dX2_premiseCount_30 : decode cX2_premiseCount 30 = .ok (.ireturn, 1) := by decide +kernel
theorem dX2_countNeeded_0 : decode cX2_countNeeded 0 = .ok (.aload_n 0, 1) := by decide +kernel
theorem dX2_countNeeded_1 : decode cX2_countNeeded 1 = .ok (.getfield 38, 3) := by decide +kernel
theorem dX2_countNeeded_4 : decode cX2_countNeeded 4 = .ok (.iconst 0, 1) := by decide +kernel
theorem dX2_countNeeded_5 : decode cX2_countNeeded 5 = .ok (.invokevirtual 96, 3) := by decide +kernel
theorem dX2_countNeeded_8 : decode cX2_countNeeded 8 = .ok (.aload_n 0, 1) := by decide +kernel
theorem dX2_countNeeded_9 : decode cX2_countNeeded 9 = .ok (.getfield 38, 3) := by decide +kernel
theorem dX2_countNeeded_12 : decode cX2_countNeeded 12 = .ok (.aload_n 0, 1) := by decide +kernel
theorem dX2_countNeeded_13 : decode cX2_countNeeded 13 = .ok (.getfield 61, 3) := by decide +kernel
theorem dX2_countNeeded_16 : decode cX2_countNeeded 16 = .ok (.iconst 1, 1) := by decide +kernel
theorem dX2_countNeeded_17 : decode cX2_countNeeded 17 = .ok (.isub, 1) := by decide +kernel
theorem dX2_countNeeded_18 : decode cX2_countNeeded 18 = .ok (.iconst 1, 1) := by decide +kernel
theorem dX2_countNeeded_19 : decode cX2_countNeeded 19 = .ok (.invokevirtual 74, 3) := by decide +kernel
theorem dX2_countNeeded_22 : decode cX2_countNeeded 22 = .ok (.iconst 0, 1) := by decide +kernel
theorem dX2_countNeeded_23 : decode cX2_countNeeded 23 = .ok (.istore_n 1, 1) := by decide +kernel
theorem dX2_countNeeded_24 : decode cX2_countNeeded 24 = .ok (.aload_n 0, 1) := by decide +kernel
theorem dX2_countNeeded_25 : decode cX2_countNeeded 25 = .ok (.getfield 61, 3) := by decide +kernel
theorem dX2_countNeeded_28 : decode cX2_countNeeded 28 = .ok (.iconst 1, 1) := by decide +kernel
theorem dX2_countNeeded_29 : decode cX2_countNeeded 29 = .ok (.isub, 1) := by decide +kernel
theorem dX2_countNeeded_30 : decode cX2_countNeeded 30 = .ok (.istore_n 2, 1) := by decide +kernel
theorem dX2_countNeeded_31 : decode cX2_countNeeded 31 = .ok (.iload_n 2, 1) := by decide +kernel
theorem dX2_countNeeded_32 : decode cX2_countNeeded 32 = .ok (.ifCond .lt 80, 3) := by decide +kernel
theorem dX2_countNeeded_35 : decode cX2_countNeeded 35 = .ok (.aload_n 0, 1) := by decide +kernel
theorem dX2_countNeeded_36 : decode cX2_countNeeded 36 = .ok (.getfield 38, 3) := by decide +kernel
theorem dX2_countNeeded_39 : decode cX2_countNeeded 39 = .ok (.iload_n 2, 1) := by decide +kernel
theorem dX2_countNeeded_40 : decode cX2_countNeeded 40 = .ok (.invokevirtual 67, 3) := by decide +kernel
theorem dX2_countNeeded_43 : decode cX2_countNeeded 43 = .ok (.iconst 1, 1) := by decide +kernel
theorem dX2_countNeeded_44 : decode cX2_countNeeded 44 = .ok (.if_icmp .ne 62, 3) := by decide +kernel
theorem dX2_countNeeded_47 : decode cX2_countNeeded 47 = .ok (.iinc 1 1, 3) := by decide +kernel
theorem dX2_countNeeded_50 : decode cX2_countNeeded 50 = .ok (.aload_n 0, 1) := by decide +kernel
theorem dX2_countNeeded_51 : decode cX2_countNeeded 51 = .ok (.getfield 38, 3) := by decide +kernel
theorem dX2_countNeeded_54 : decode cX2_countNeeded 54 = .ok (.aload_n 0, 1) := by decide +kernel
theorem dX2_countNeeded_55 : decode cX2_countNeeded 55 = .ok (.getfield 26, 3) := by decide +kernel
theorem dX2_countNeeded_58 : decode cX2_countNeeded 58 = .ok (.iload_n 2, 1) := by decide +kernel
theorem dX2_countNeeded_59 : decode cX2_countNeeded 59 = .ok (.invokevirtual 67, 3) := by decide +kernel
theorem dX2_countNeeded_62 : decode cX2_countNeeded 62 = .ok (.iconst 1, 1) := by decide +kernel
theorem dX2_countNeeded_63 : decode cX2_countNeeded 63 = .ok (.invokevirtual 74, 3) := by decide +kernel
theorem dX2_countNeeded_66 : decode cX2_countNeeded 66 = .ok (.aload_n 0, 1) := by decide +kernel
theorem dX2_countNeeded_67 : decode cX2_countNeeded 67 = .ok (.getfield 38, 3) := by decide +kernel
theorem dX2_countNeeded_70 : decode cX2_countNeeded 70 = .ok (.aload_n 0, 1) := by decide +kernel
theorem dX2_countNeeded_71 : decode cX2_countNeeded 71 = .ok (.getfield 29, 3) := by decide +kernel
theorem dX2_countNeeded_74 : decode cX2_countNeeded 74 = .ok (.iload_n 2, 1) := by decide +kernel
theorem dX2_countNeeded_75 : decode cX2_countNeeded 75 = .ok (.invokevirtual 67, 3) := by decide +kernel
theorem dX2_countNeeded_78 : decode cX2_countNeeded 78 = .ok (.iconst 1, 1) := by decide +kernel
theorem dX2_countNeeded_79 : decode cX2_countNeeded 79 = .ok (.invokevirtual 74, 3) := by decide +kernel
theorem dX2_countNeeded_82 : decode cX2_countNeeded 82 = .ok (.aload_n 0, 1) := by decide +kernel
theorem dX2_countNeeded_83 : decode cX2_countNeeded 83 = .ok (.aload_n 0, 1) := by decide +kernel
theorem dX2_countNeeded_84 : decode cX2_countNeeded 84 = .ok (.getfield 32, 3) := by decide +kernel
theorem dX2_countNeeded_87 : decode cX2_countNeeded 87 = .ok (.iload_n 2, 1) := by decide +kernel
theorem dX2_countNeeded_88 : decode cX2_countNeeded 88 = .ok (.invokevirtual 67, 3) := by decide +kernel
theorem dX2_countNeeded_91 : decode cX2_countNeeded 91 = .ok (.invokevirtual 99, 3) := by decide +kernel
theorem dX2_countNeeded_94 : decode cX2_countNeeded 94 = .ok (.aload_n 0, 1) := by decide +kernel
theorem dX2_countNeeded_95 : decode cX2_countNeeded 95 = .ok (.aload_n 0, 1) := by decide +kernel
theorem dX2_countNeeded_96 : decode cX2_countNeeded 96 = .ok (.getfield 35, 3) := by decide +kernel
theorem dX2_countNeeded_99 : decode cX2_countNeeded 99 = .ok (.iload_n 2, 1) := by decide +kernel
theorem dX2_countNeeded_100 : decode cX2_countNeeded 100 = .ok (.invokevirtual 67, 3) := by decide +kernel
theorem dX2_countNeeded_103 : decode cX2_countNeeded 103 = .ok (.invokevirtual 99, 3) := by decide +kernel
theorem dX2_countNeeded_106 : decode cX2_countNeeded 106 = .ok (.iinc 2 (-1), 3) := by decide +kernel
theorem dX2_countNeeded_109 : decode cX2_countNeeded 109 = .ok (.goto (-78), 3) := by decide +kernel
theorem dX2_countNeeded_112 : decode cX2_countNeeded 112 = .ok (.iload_n 1, 1) := by decide +kernel
theorem dX2_countNeeded_113 : decode cX2_countNeeded 113 = .ok (.ireturn, 1) := by decide +kernel
theorem dX2_markEnds_0 : decode cX2_markEnds 0 = .ok (.aload_n 0, 1) := by decide +kernel
theorem dX2_markEnds_1 : decode cX2_markEnds 1 = .ok (.getfield 38, 3) := by decide +kernel
theorem dX2_markEnds_4 : decode cX2_markEnds 4 = .ok (.aload_n 0, 1) := by decide +kernel
theorem dX2_markEnds_5 : decode cX2_markEnds 5 = .ok (.getfield 41, 3) := by decide +kernel
theorem dX2_markEnds_8 : decode cX2_markEnds 8 = .ok (.iload_n 1, 1) := by decide +kernel
theorem dX2_markEnds_9 : decode cX2_markEnds 9 = .ok (.invokevirtual 67, 3) := by decide +kernel
theorem dX2_markEnds_12 : decode cX2_markEnds 12 = .ok (.iconst 1, 1) := by decide +kernel
theorem dX2_markEnds_13 : decode cX2_markEnds 13 = .ok (.invokevirtual 74, 3) := by decide +kernel
theorem dX2_markEnds_16 : decode cX2_markEnds 16 = .ok (.aload_n 0, 1) := by decide +kernel
theorem dX2_markEnds_17 : decode cX2_markEnds 17 = .ok (.getfield 38, 3) := by decide +kernel
theorem dX2_markEnds_20 : decode cX2_markEnds 20 = .ok (.aload_n 0, 1) := by decide +kernel
theorem dX2_markEnds_21 : decode cX2_markEnds 21 = .ok (.getfield 44, 3) := by decide +kernel
theorem dX2_markEnds_24 : decode cX2_markEnds 24 = .ok (.iload_n 1, 1) := by decide +kernel
theorem dX2_markEnds_25 : decode cX2_markEnds 25 = .ok (.invokevirtual 67, 3) := by decide +kernel
theorem dX2_markEnds_28 : decode cX2_markEnds 28 = .ok (.iconst 1, 1) := by decide +kernel
theorem dX2_markEnds_29 : decode cX2_markEnds 29 = .ok (.invokevirtual 74, 3) := by decide +kernel
theorem dX2_markEnds_32 : decode cX2_markEnds 32 = .ok (.return_, 1) := by decide +kernel
theorem dX2_sizeSum_0 : decode cX2_sizeSum 0 = .ok (.iconst 0, 1) := by decide +kernel
theorem dX2_sizeSum_1 : decode cX2_sizeSum 1 = .ok (.istore_n 1, 1) := by decide +kernel
theorem dX2_sizeSum_2 : decode cX2_sizeSum 2 = .ok (.iconst 0, 1) := by decide +kernel
theorem dX2_sizeSum_3 : decode cX2_sizeSum 3 = .ok (.istore_n 2, 1) := by decide +kernel
theorem dX2_sizeSum_4 : decode cX2_sizeSum 4 = .ok (.iload_n 2, 1) := by decide +kernel
theorem dX2_sizeSum_5 : decode cX2_sizeSum 5 = .ok (.aload_n 0, 1) := by decide +kernel
theorem dX2_sizeSum_6 : decode cX2_sizeSum 6 = .ok (.getfield 61, 3) := by decide +kernel
theorem dX2_sizeSum_9 : decode cX2_sizeSum 9 = .ok (.if_icmp .ge 24, 3) := by decide +kernel
theorem dX2_sizeSum_12 : decode cX2_sizeSum 12 = .ok (.iload_n 1, 1) := by decide +kernel
theorem dX2_sizeSum_13 : decode cX2_sizeSum 13 = .ok (.aload_n 0, 1) := by decide +kernel
theorem dX2_sizeSum_14 : decode cX2_sizeSum 14 = .ok (.getfield 57, 3) := by decide +kernel
theorem dX2_sizeSum_17 : decode cX2_sizeSum 17 = .ok (.aload_n 0, 1) := by decide +kernel
theorem dX2_sizeSum_18 : decode cX2_sizeSum 18 = .ok (.iload_n 2, 1) := by decide +kernel
theorem dX2_sizeSum_19 : decode cX2_sizeSum 19 = .ok (.invokevirtual 71, 3) := by decide +kernel
theorem dX2_sizeSum_22 : decode cX2_sizeSum 22 = .ok (.invokevirtual 102, 3) := by decide +kernel
theorem dX2_sizeSum_25 : decode cX2_sizeSum 25 = .ok (.iadd, 1) := by decide +kernel
theorem dX2_sizeSum_26 : decode cX2_sizeSum 26 = .ok (.istore_n 1, 1) := by decide +kernel
theorem dX2_sizeSum_27 : decode cX2_sizeSum 27 = .ok (.iinc 2 1, 3) := by decide +kernel
theorem dX2_sizeSum_30 : decode cX2_sizeSum 30 = .ok (.goto (-26), 3) := by decide +kernel
theorem dX2_sizeSum_33 : decode cX2_sizeSum 33 = .ok (.iload_n 1, 1) := by decide +kernel
theorem dX2_sizeSum_34 : decode cX2_sizeSum 34 = .ok (.ireturn, 1) := by decide +kernel
theorem dX2_citableTable_0 : decode cX2_citableTable 0 = .ok (.iconst (-1), 1) := by decide +kernel
theorem dX2_citableTable_1 : decode cX2_citableTable 1 = .ok (.istore_n 1, 1) := by decide +kernel
theorem dX2_citableTable_2 : decode cX2_citableTable 2 = .ok (.iconst 0, 1) := by decide +kernel
theorem dX2_citableTable_3 : decode cX2_citableTable 3 = .ok (.istore_n 2, 1) := by decide +kernel
theorem dX2_citableTable_4 : decode cX2_citableTable 4 = .ok (.iload_n 2, 1) := by decide +kernel
theorem dX2_citableTable_5 : decode cX2_citableTable 5 = .ok (.aload_n 0, 1) := by decide +kernel
theorem dX2_citableTable_6 : decode cX2_citableTable 6 = .ok (.getfield 61, 3) := by decide +kernel
theorem dX2_citableTable_9 : decode cX2_citableTable 9 = .ok (.if_icmp .ge 32, 3) := by decide +kernel
theorem dX2_citableTable_12 : decode cX2_citableTable 12 = .ok (.aload_n 0, 1) := by decide +kernel
theorem dX2_citableTable_13 : decode cX2_citableTable 13 = .ok (.iload_n 2, 1) := by decide +kernel
theorem dX2_citableTable_14 : decode cX2_citableTable 14 = .ok (.invokevirtual 107, 3) := by decide +kernel
theorem dX2_citableTable_17 : decode cX2_citableTable 17 = .ok (.ifCond .eq 18, 3) := by decide +kernel
theorem dX2_citableTable_20 : decode cX2_citableTable 20 = .ok (.iload_n 1, 1) := by decide +kernel
theorem dX2_citableTable_21 : decode cX2_citableTable 21 = .ok (.aload_n 0, 1) := by decide +kernel
theorem dX2_citableTable_22 : decode cX2_citableTable 22 = .ok (.getfield 57, 3) := by decide +kernel
theorem dX2_citableTable_25 : decode cX2_citableTable 25 = .ok (.aload_n 0, 1) := by decide +kernel
theorem dX2_citableTable_26 : decode cX2_citableTable 26 = .ok (.iload_n 2, 1) := by decide +kernel
theorem dX2_citableTable_27 : decode cX2_citableTable 27 = .ok (.invokevirtual 71, 3) := by decide +kernel
theorem dX2_citableTable_30 : decode cX2_citableTable 30 = .ok (.invokevirtual 110, 3) := by decide +kernel
theorem dX2_citableTable_33 : decode cX2_citableTable 33 = .ok (.iand, 1) := by decide +kernel
theorem dX2_citableTable_34 : decode cX2_citableTable 34 = .ok (.istore_n 1, 1) := by decide +kernel
theorem dX2_citableTable_35 : decode cX2_citableTable 35 = .ok (.iinc 2 1, 3) := by decide +kernel
theorem dX2_citableTable_38 : decode cX2_citableTable 38 = .ok (.goto (-34), 3) := by decide +kernel
theorem dX2_citableTable_41 : decode cX2_citableTable 41 = .ok (.iload_n 1, 1) := by decide +kernel
theorem dX2_citableTable_42 : decode cX2_citableTable 42 = .ok (.ireturn, 1) := by decide +kernel
theorem dX2_premiseTable_0 : decode cX2_premiseTable 0 = .ok (.iconst (-1), 1) := by decide +kernel
theorem dX2_premiseTable_1 : decode cX2_premiseTable 1 = .ok (.istore_n 1, 1) := by decide +kernel
theorem dX2_premiseTable_2 : decode cX2_premiseTable 2 = .ok (.iconst 0, 1) := by decide +kernel
theorem dX2_premiseTable_3 : decode cX2_premiseTable 3 = .ok (.istore_n 2, 1) := by decide +kernel
theorem dX2_premiseTable_4 : decode cX2_premiseTable 4 = .ok (.iload_n 2, 1) := by decide +kernel
theorem dX2_premiseTable_5 : decode cX2_premiseTable 5 = .ok (.aload_n 0, 1) := by decide +kernel
theorem dX2_premiseTable_6 : decode cX2_premiseTable 6 = .ok (.getfield 61, 3) := by decide +kernel
theorem dX2_premiseTable_9 : decode cX2_premiseTable 9 = .ok (.if_icmp .ge 32, 3) := by decide +kernel
theorem dX2_premiseTable_12 : decode cX2_premiseTable 12 = .ok (.aload_n 0, 1) := by decide +kernel
theorem dX2_premiseTable_13 : decode cX2_premiseTable 13 = .ok (.iload_n 2, 1) := by decide +kernel
theorem dX2_premiseTable_14 : decode cX2_premiseTable 14 = .ok (.invokevirtual 93, 3) := by decide +kernel
theorem dX2_premiseTable_17 : decode cX2_premiseTable 17 = .ok (.ifCond .eq 18, 3) := by decide +kernel
theorem dX2_premiseTable_20 : decode cX2_premiseTable 20 = .ok (.iload_n 1, 1) := by decide +kernel
theorem dX2_premiseTable_21 : decode cX2_premiseTable 21 = .ok (.aload_n 0, 1) := by decide +kernel
theorem dX2_premiseTable_22 : decode cX2_premiseTable 22 = .ok (.getfield 57, 3) := by decide +kernel
theorem dX2_premiseTable_25 : decode cX2_premiseTable 25 = .ok (.aload_n 0, 1) := by decide +kernel
theorem dX2_premiseTable_26 : decode cX2_premiseTable 26 = .ok (.iload_n 2, 1) := by decide +kernel
theorem dX2_premiseTable_27 : decode cX2_premiseTable 27 = .ok (.invokevirtual 71, 3) := by decide +kernel
theorem dX2_premiseTable_30 : decode cX2_premiseTable 30 = .ok (.invokevirtual 110, 3) := by decide +kernel
theorem dX2_premiseTable_33 : decode cX2_premiseTable 33 = .ok (.iand, 1) := by decide +kernel
theorem dX2_premiseTable_34 : decode cX2_premiseTable 34 = .ok (.istore_n 1, 1) := by decide +kernel
theorem dX2_premiseTable_35 : decode cX2_premiseTable 35 = .ok (.iinc 2 1, 3) := by decide +kernel
theorem dX2_premiseTable_38 : decode cX2_premiseTable 38 = .ok (.goto (-34), 3) := by decide +kernel
theorem dX2_premiseTable_41 : decode cX2_premiseTable 41 = .ok (.iload_n 1, 1) := by decide +kernel
theorem dX2_premiseTable_42 : decode cX2_premiseTable 42 = .ok (.ireturn, 1) := by decide +kernel
theorem dX2_assumptionTable_0 : decode cX2_assumptionTable 0 = .ok (.iconst (-1), 1) := by decide +kernel
theorem dX2_assumptionTable_1 : decode cX2_assumptionTable 1 = .ok (.istore_n 2, 1) := by decide +kernel
theorem dX2_assumptionTable_2 : decode cX2_assumptionTable 2 = .ok (.aload_n 0, 1) := by decide +kernel
theorem dX2_assumptionTable_3 : decode cX2_assumptionTable 3 = .ok (.iload_n 1, 1) := by decide +kernel
theorem dX2_assumptionTable_4 : decode cX2_assumptionTable 4 = .ok (.invokevirtual 82, 3) := by decide +kernel
theorem dX2_assumptionTable_7 : decode cX2_assumptionTable 7 = .ok (.istore_n 3, 1) := by decide +kernel
theorem dX2_assumptionTable_8 : decode cX2_assumptionTable 8 = .ok (.iconst 0, 1) := by decide +kernel
theorem dX2_assumptionTable_9 : decode cX2_assumptionTable 9 = .ok (.istore 4, 2) := by decide +kernel
theorem dX2_assumptionTable_11 : decode cX2_assumptionTable 11 = .ok (.iload_n 3, 1) := by decide +kernel
theorem dX2_assumptionTable_12 : decode cX2_assumptionTable 12 = .ok (.iconst (-1), 1) := by decide +kernel
theorem dX2_assumptionTable_13 : decode cX2_assumptionTable 13 = .ok (.if_icmp .eq 40, 3) := by decide +kernel
theorem dX2_assumptionTable_16 : decode cX2_assumptionTable 16 = .ok (.iload 4, 2) := by decide +kernel
theorem dX2_assumptionTable_18 : decode cX2_assumptionTable 18 = .ok (.bipush 60, 2) := by decide +kernel
theorem dX2_assumptionTable_20 : decode cX2_assumptionTable 20 = .ok (.if_icmp .ge 33, 3) := by decide +kernel
theorem dX2_assumptionTable_23 : decode cX2_assumptionTable 23 = .ok (.iload_n 2, 1) := by decide +kernel
theorem dX2_assumptionTable_24 : decode cX2_assumptionTable 24 = .ok (.aload_n 0, 1) := by decide +kernel
theorem dX2_assumptionTable_25 : decode cX2_assumptionTable 25 = .ok (.getfield 57, 3) := by decide +kernel
theorem dX2_assumptionTable_28 : decode cX2_assumptionTable 28 = .ok (.aload_n 0, 1) := by decide +kernel
theorem dX2_assumptionTable_29 : decode cX2_assumptionTable 29 = .ok (.iload_n 3, 1) := by decide +kernel
theorem dX2_assumptionTable_30 : decode cX2_assumptionTable 30 = .ok (.invokevirtual 113, 3) := by decide +kernel
theorem dX2_assumptionTable_33 : decode cX2_assumptionTable 33 = .ok (.invokevirtual 110, 3) := by decide +kernel
theorem dX2_assumptionTable_36 : decode cX2_assumptionTable 36 = .ok (.iand, 1) := by decide +kernel
theorem dX2_assumptionTable_37 : decode cX2_assumptionTable 37 = .ok (.istore_n 2, 1) := by decide +kernel
theorem dX2_assumptionTable_38 : decode cX2_assumptionTable 38 = .ok (.aload_n 0, 1) := by decide +kernel
theorem dX2_assumptionTable_39 : decode cX2_assumptionTable 39 = .ok (.getfield 47, 3) := by decide +kernel
theorem dX2_assumptionTable_42 : decode cX2_assumptionTable 42 = .ok (.iload_n 3, 1) := by decide +kernel
theorem dX2_assumptionTable_43 : decode cX2_assumptionTable 43 = .ok (.invokevirtual 67, 3) := by decide +kernel
theorem dX2_assumptionTable_46 : decode cX2_assumptionTable 46 = .ok (.istore_n 3, 1) := by decide +kernel
theorem dX2_assumptionTable_47 : decode cX2_assumptionTable 47 = .ok (.iinc 4 1, 3) := by decide +kernel
theorem dX2_assumptionTable_50 : decode cX2_assumptionTable 50 = .ok (.goto (-39), 3) := by decide +kernel
theorem dX2_assumptionTable_53 : decode cX2_assumptionTable 53 = .ok (.iload_n 2, 1) := by decide +kernel
theorem dX2_assumptionTable_54 : decode cX2_assumptionTable 54 = .ok (.ireturn, 1) := by decide +kernel
theorem dX3_init_0 : decode cX3_init 0 = .ok (.aload_n 0, 1) := by decide +kernel
theorem dX3_init_1 : decode cX3_init 1 = .ok (.invokespecial 3, 3) := by decide +kernel
theorem dX3_init_4 : decode cX3_init 4 = .ok (.aload_n 0, 1) := by decide +kernel
theorem dX3_init_5 : decode cX3_init 5 = .ok (.iload_n 1, 1) := by decide +kernel
theorem dX3_init_6 : decode cX3_init 6 = .ok (.ifCond .ge 7, 3) := by decide +kernel
theorem dX3_init_9 : decode cX3_init 9 = .ok (.iconst 0, 1) := by decide +kernel
theorem dX3_init_10 : decode cX3_init 10 = .ok (.goto 4, 3) := by decide +kernel
theorem dX3_init_13 : decode cX3_init 13 = .ok (.iload_n 1, 1) := by decide +kernel
theorem dX3_init_14 : decode cX3_init 14 = .ok (.newarray .int, 2) := by decide +kernel
theorem dX3_init_16 : decode cX3_init 16 = .ok (.putfield 9, 3) := by decide +kernel
theorem dX3_init_19 : decode cX3_init 19 = .ok (.return_, 1) := by decide +kernel
theorem dX3_at_0 : decode cX3_at 0 = .ok (.iload_n 1, 1) := by decide +kernel
theorem dX3_at_1 : decode cX3_at 1 = .ok (.ifCond .lt 21, 3) := by decide +kernel
theorem dX3_at_4 : decode cX3_at 4 = .ok (.iload_n 1, 1) := by decide +kernel
theorem dX3_at_5 : decode cX3_at 5 = .ok (.aload_n 0, 1) := by decide +kernel
theorem dX3_at_6 : decode cX3_at 6 = .ok (.getfield 9, 3) := by decide +kernel
theorem dX3_at_9 : decode cX3_at 9 = .ok (.arraylength, 1) := by decide +kernel
theorem dX3_at_10 : decode cX3_at 10 = .ok (.if_icmp .ge 12, 3) := by decide +kernel
theorem dX3_at_13 : decode cX3_at 13 = .ok (.aload_n 0, 1) := by decide +kernel
theorem dX3_at_14 : decode cX3_at 14 = .ok (.getfield 9, 3) := by decide +kernel
theorem dX3_at_17 : decode cX3_at 17 = .ok (.iload_n 1, 1) := by decide +kernel
theorem dX3_at_18 : decode cX3_at 18 = .ok (.iaload, 1) := by decide +kernel
theorem dX3_at_19 : decode cX3_at 19 = .ok (.goto 4, 3) := by decide +kernel
theorem dX3_at_22 : decode cX3_at 22 = .ok (.iconst (-1), 1) := by decide +kernel
theorem dX3_at_23 : decode cX3_at 23 = .ok (.ireturn, 1) := by decide +kernel
theorem dX3_put_0 : decode cX3_put 0 = .ok (.iload_n 1, 1) := by decide +kernel
theorem dX3_put_1 : decode cX3_put 1 = .ok (.ifCond .lt 19, 3) := by decide +kernel
theorem dX3_put_4 : decode cX3_put 4 = .ok (.iload_n 1, 1) := by decide +kernel
theorem dX3_put_5 : decode cX3_put 5 = .ok (.aload_n 0, 1) := by decide +kernel
theorem dX3_put_6 : decode cX3_put 6 = .ok (.getfield 9, 3) := by decide +kernel
theorem dX3_put_9 : decode cX3_put 9 = .ok (.arraylength, 1) := by decide +kernel
theorem dX3_put_10 : decode cX3_put 10 = .ok (.if_icmp .ge 10, 3) := by decide +kernel
theorem dX3_put_13 : decode cX3_put 13 = .ok (.aload_n 0, 1) := by decide +kernel
theorem dX3_put_14 : decode cX3_put 14 = .ok (.getfield 9, 3) := by decide +kernel
theorem dX3_put_17 : decode cX3_put 17 = .ok (.iload_n 1, 1) := by decide +kernel
theorem dX3_put_18 : decode cX3_put 18 = .ok (.iload_n 2, 1) := by decide +kernel
theorem dX3_put_19 : decode cX3_put 19 = .ok (.iastore, 1) := by decide +kernel
theorem dX3_put_20 : decode cX3_put 20 = .ok (.return_, 1) := by decide +kernel
theorem dX3_fill_0 : decode cX3_fill 0 = .ok (.iconst 0, 1) := by decide +kernel
theorem dX3_fill_1 : decode cX3_fill 1 = .ok (.istore_n 2, 1) := by decide +kernel
theorem dX3_fill_2 : decode cX3_fill 2 = .ok (.iload_n 2, 1) := by decide +kernel
theorem dX3_fill_3 : decode cX3_fill 3 = .ok (.aload_n 0, 1) := by decide +kernel
theorem dX3_fill_4 : decode cX3_fill 4 = .ok (.getfield 9, 3) := by decide +kernel
theorem dX3_fill_7 : decode cX3_fill 7 = .ok (.arraylength, 1) := by decide +kernel
theorem dX3_fill_8 : decode cX3_fill 8 = .ok (.if_icmp .ge 16, 3) := by decide +kernel
theorem dX3_fill_11 : decode cX3_fill 11 = .ok (.aload_n 0, 1) := by decide +kernel
theorem dX3_fill_12 : decode cX3_fill 12 = .ok (.getfield 9, 3) := by decide +kernel
theorem dX3_fill_15 : decode cX3_fill 15 = .ok (.iload_n 2, 1) := by decide +kernel
theorem dX3_fill_16 : decode cX3_fill 16 = .ok (.iload_n 1, 1) := by decide +kernel
theorem dX3_fill_17 : decode cX3_fill 17 = .ok (.iastore, 1) := by decide +kernel
theorem dX3_fill_18 : decode cX3_fill 18 = .ok (.iinc 2 1, 3) := by decide +kernel
theorem dX3_fill_21 : decode cX3_fill 21 = .ok (.goto (-19), 3) := by decide +kernel
theorem dX3_fill_24 : decode cX3_fill 24 = .ok (.return_, 1) := by decide +kernel
theorem dX4_init_0 : decode cX4_init 0 = .ok (.aload_n 0, 1) := by decide +kernel
theorem dX4_init_1 : decode cX4_init 1 = .ok (.invokespecial 3, 3) := by decide +kernel
theorem dX4_init_4 : decode cX4_init 4 = .ok (.aload_n 0, 1) := by decide +kernel
theorem dX4_init_5 : decode cX4_init 5 = .ok (.new 9, 3) := by decide +kernel
theorem dX4_init_8 : decode cX4_init 8 = .ok (.dup, 1) := by decide +kernel
theorem dX4_init_9 : decode cX4_init 9 = .ok (.sipush 151, 3) := by decide +kernel
theorem dX4_init_12 : decode cX4_init 12 = .ok (.invokespecial 13, 3) := by decide +kernel
theorem dX4_init_15 : decode cX4_init 15 = .ok (.putfield 16, 3) := by decide +kernel
theorem dX4_init_18 : decode cX4_init 18 = .ok (.aload_n 0, 1) := by decide +kernel
theorem dX4_init_19 : decode cX4_init 19 = .ok (.new 9, 3) := by decide +kernel
theorem dX4_init_22 : decode cX4_init 22 = .ok (.dup, 1) := by decide +kernel
theorem dX4_init_23 : decode cX4_init 23 = .ok (.sipush 151, 3) := by decide +kernel
theorem dX4_init_26 : decode cX4_init 26 = .ok (.invokespecial 13, 3) := by decide +kernel
theorem dX4_init_29 : decode cX4_init 29 = .ok (.putfield 20, 3) := by decide +kernel
theorem dX4_init_32 : decode cX4_init 32 = .ok (.aload_n 0, 1) := by decide +kernel
theorem dX4_init_33 : decode cX4_init 33 = .ok (.new 9, 3) := by decide +kernel
theorem dX4_init_36 : decode cX4_init 36 = .ok (.dup, 1) := by decide +kernel
theorem dX4_init_37 : decode cX4_init 37 = .ok (.sipush 151, 3) := by decide +kernel
theorem dX4_init_40 : decode cX4_init 40 = .ok (.invokespecial 13, 3) := by decide +kernel
theorem dX4_init_43 : decode cX4_init 43 = .ok (.putfield 23, 3) := by decide +kernel
theorem dX4_init_46 : decode cX4_init 46 = .ok (.aload_n 0, 1) := by decide +kernel
theorem dX4_init_47 : decode cX4_init 47 = .ok (.aload_n 1, 1) := by decide +kernel
theorem dX4_init_48 : decode cX4_init 48 = .ok (.putfield 26, 3) := by decide +kernel
theorem dX4_init_51 : decode cX4_init 51 = .ok (.aload_n 0, 1) := by decide +kernel
theorem dX4_init_52 : decode cX4_init 52 = .ok (.aload_n 2, 1) := by decide +kernel
theorem dX4_init_53 : decode cX4_init 53 = .ok (.putfield 30, 3) := by decide +kernel
theorem dX4_init_56 : decode cX4_init 56 = .ok (.return_, 1) := by decide +kernel
theorem dX4_byQueue_0 : decode cX4_byQueue 0 = .ok (.aload_n 0, 1) := by decide +kernel
theorem dX4_byQueue_1 : decode cX4_byQueue 1 = .ok (.iload_n 1, 1) := by decide +kernel
theorem dX4_byQueue_2 : decode cX4_byQueue 2 = .ok (.iconst 1, 1) := by decide +kernel
theorem dX4_byQueue_3 : decode cX4_byQueue 3 = .ok (.invokevirtual 34, 3) := by decide +kernel
theorem dX4_byQueue_6 : decode cX4_byQueue 6 = .ok (.iconst 0, 1) := by decide +kernel
theorem dX4_byQueue_7 : decode cX4_byQueue 7 = .ok (.istore_n 2, 1) := by decide +kernel
theorem dX4_byQueue_8 : decode cX4_byQueue 8 = .ok (.iload_n 2, 1) := by decide +kernel
theorem dX4_byQueue_9 : decode cX4_byQueue 9 = .ok (.sipush 151, 3) := by decide +kernel
theorem dX4_byQueue_12 : decode cX4_byQueue 12 = .ok (.if_icmp .ge 102, 3) := by decide +kernel
theorem dX4_byQueue_15 : decode cX4_byQueue 15 = .ok (.aload_n 0, 1) := by decide +kernel
theorem dX4_byQueue_16 : decode cX4_byQueue 16 = .ok (.getfield 38, 3) := by decide +kernel
theorem dX4_byQueue_19 : decode cX4_byQueue 19 = .ok (.aload_n 0, 1) := by decide +kernel
theorem dX4_byQueue_20 : decode cX4_byQueue 20 = .ok (.getfield 42, 3) := by decide +kernel
theorem dX4_byQueue_23 : decode cX4_byQueue 23 = .ok (.if_icmp .ge 91, 3) := by decide +kernel
theorem dX4_byQueue_26 : decode cX4_byQueue 26 = .ok (.aload_n 0, 1) := by decide +kernel
theorem dX4_byQueue_27 : decode cX4_byQueue 27 = .ok (.getfield 23, 3) := by decide +kernel
theorem dX4_byQueue_30 : decode cX4_byQueue 30 = .ok (.aload_n 0, 1) := by decide +kernel
theorem dX4_byQueue_31 : decode cX4_byQueue 31 = .ok (.getfield 38, 3) := by decide +kernel
theorem dX4_byQueue_34 : decode cX4_byQueue 34 = .ok (.invokevirtual 45, 3) := by decide +kernel
theorem dX4_byQueue_37 : decode cX4_byQueue 37 = .ok (.istore_n 3, 1) := by decide +kernel
theorem dX4_byQueue_38 : decode cX4_byQueue 38 = .ok (.aload_n 0, 1) := by decide +kernel
theorem dX4_byQueue_39 : decode cX4_byQueue 39 = .ok (.dup, 1) := by decide +kernel
theorem dX4_byQueue_40 : decode cX4_byQueue 40 = .ok (.getfield 38, 3) := by decide +kernel
theorem dX4_byQueue_43 : decode cX4_byQueue 43 = .ok (.iconst 1, 1) := by decide +kernel
theorem dX4_byQueue_44 : decode cX4_byQueue 44 = .ok (.iadd, 1) := by decide +kernel
theorem dX4_byQueue_45 : decode cX4_byQueue 45 = .ok (.putfield 38, 3) := by decide +kernel
theorem dX4_byQueue_48 : decode cX4_byQueue 48 = .ok (.iload_n 3, 1) := by decide +kernel
theorem dX4_byQueue_49 : decode cX4_byQueue 49 = .ok (.iload_n 1, 1) := by decide +kernel
theorem dX4_byQueue_50 : decode cX4_byQueue 50 = .ok (.if_icmp .ne 12, 3) := by decide +kernel
theorem dX4_byQueue_53 : decode cX4_byQueue 53 = .ok (.aload_n 0, 1) := by decide +kernel
theorem dX4_byQueue_54 : decode cX4_byQueue 54 = .ok (.getfield 20, 3) := by decide +kernel
theorem dX4_byQueue_57 : decode cX4_byQueue 57 = .ok (.iload_n 1, 1) := by decide +kernel
theorem dX4_byQueue_58 : decode cX4_byQueue 58 = .ok (.invokevirtual 45, 3) := by decide +kernel
theorem dX4_byQueue_61 : decode cX4_byQueue 61 = .ok (.ireturn, 1) := by decide +kernel
theorem dX4_byQueue_62 : decode cX4_byQueue 62 = .ok (.iconst 0, 1) := by decide +kernel
theorem dX4_byQueue_63 : decode cX4_byQueue 63 = .ok (.istore 4, 2) := by decide +kernel
theorem dX4_byQueue_65 : decode cX4_byQueue 65 = .ok (.iload 4, 2) := by decide +kernel
theorem dX4_byQueue_67 : decode cX4_byQueue 67 = .ok (.sipush 151, 3) := by decide +kernel
theorem dX4_byQueue_70 : decode cX4_byQueue 70 = .ok (.if_icmp .ge 38, 3) := by decide +kernel
theorem dX4_byQueue_73 : decode cX4_byQueue 73 = .ok (.aload_n 0, 1) := by decide +kernel
theorem dX4_byQueue_74 : decode cX4_byQueue 74 = .ok (.getfield 16, 3) := by decide +kernel
theorem dX4_byQueue_77 : decode cX4_byQueue 77 = .ok (.iload 4, 2) := by decide +kernel
theorem dX4_byQueue_79 : decode cX4_byQueue 79 = .ok (.invokevirtual 45, 3) := by decide +kernel
theorem dX4_byQueue_82 : decode cX4_byQueue 82 = .ok (.iconst 1, 1) := by decide +kernel
theorem dX4_byQueue_83 : decode cX4_byQueue 83 = .ok (.if_icmp .ne 19, 3) := by decide +kernel
theorem dX4_byQueue_86 : decode cX4_byQueue 86 = .ok (.aload_n 0, 1) := by decide +kernel
theorem dX4_byQueue_87 : decode cX4_byQueue 87 = .ok (.iload_n 3, 1) := by decide +kernel
theorem dX4_byQueue_88 : decode cX4_byQueue 88 = .ok (.iload 4, 2) := by decide +kernel
theorem dX4_byQueue_90 : decode cX4_byQueue 90 = .ok (.invokevirtual 49, 3) := by decide +kernel
theorem dX4_byQueue_93 : decode cX4_byQueue 93 = .ok (.ifCond .eq 9, 3) := by decide +kernel
theorem dX4_byQueue_96 : decode cX4_byQueue 96 = .ok (.aload_n 0, 1) := by decide +kernel
theorem dX4_byQueue_97 : decode cX4_byQueue 97 = .ok (.iload 4, 2) := by decide +kernel
theorem dX4_byQueue_99 : decode cX4_byQueue 99 = .ok (.invokevirtual 53, 3) := by decide +kernel
theorem dX4_byQueue_102 : decode cX4_byQueue 102 = .ok (.iinc 4 1, 3) := by decide +kernel
theorem dX4_byQueue_105 : decode cX4_byQueue 105 = .ok (.goto (-40), 3) := by decide +kernel
theorem dX4_byQueue_108 : decode cX4_byQueue 108 = .ok (.iinc 2 1, 3) := by decide +kernel
theorem dX4_byQueue_111 : decode cX4_byQueue 111 = .ok (.goto (-103), 3) := by decide +kernel
theorem dX4_byQueue_114 : decode cX4_byQueue 114 = .ok (.aload_n 0, 1) := by decide +kernel
theorem dX4_byQueue_115 : decode cX4_byQueue 115 = .ok (.getfield 20, 3) := by decide +kernel
theorem dX4_byQueue_118 : decode cX4_byQueue 118 = .ok (.iload_n 1, 1) := by decide +kernel
theorem dX4_byQueue_119 : decode cX4_byQueue 119 = .ok (.invokevirtual 45, 3) := by decide +kernel
theorem dX4_byQueue_122 : decode cX4_byQueue 122 = .ok (.ireturn, 1) := by decide +kernel
theorem dX4_byRounds_0 : decode cX4_byRounds 0 = .ok (.aload_n 0, 1) := by decide +kernel
theorem dX4_byRounds_1 : decode cX4_byRounds 1 = .ok (.iload_n 1, 1) := by decide +kernel
theorem dX4_byRounds_2 : decode cX4_byRounds 2 = .ok (.iconst 0, 1) := by decide +kernel
theorem dX4_byRounds_3 : decode cX4_byRounds 3 = .ok (.invokevirtual 34, 3) := by decide +kernel
theorem dX4_byRounds_6 : decode cX4_byRounds 6 = .ok (.iconst (-1), 1) := by decide +kernel
theorem dX4_byRounds_7 : decode cX4_byRounds 7 = .ok (.istore_n 2, 1) := by decide +kernel
theorem dX4_byRounds_8 : decode cX4_byRounds 8 = .ok (.iconst 0, 1) := by decide +kernel
theorem dX4_byRounds_9 : decode cX4_byRounds 9 = .ok (.istore_n 3, 1) := by decide +kernel
theorem dX4_byRounds_10 : decode cX4_byRounds 10 = .ok (.iload_n 3, 1) := by decide +kernel
theorem dX4_byRounds_11 : decode cX4_byRounds 11 = .ok (.sipush 151, 3) := by decide +kernel
theorem dX4_byRounds_14 : decode cX4_byRounds 14 = .ok (.if_icmp .gt 58, 3) := by decide +kernel
theorem dX4_byRounds_17 : decode cX4_byRounds 17 = .ok (.aload_n 0, 1) := by decide +kernel
theorem dX4_byRounds_18 : decode cX4_byRounds 18 = .ok (.getfield 56, 3) := by decide +kernel
theorem dX4_byRounds_21 : decode cX4_byRounds 21 = .ok (.iload_n 2, 1) := by decide +kernel
theorem dX4_byRounds_22 : decode cX4_byRounds 22 = .ok (.if_icmp .eq 50, 3) := by decide +kernel
theorem dX4_byRounds_25 : decode cX4_byRounds 25 = .ok (.aload_n 0, 1) := by decide +kernel
theorem dX4_byRounds_26 : decode cX4_byRounds 26 = .ok (.getfield 56, 3) := by decide +kernel
theorem dX4_byRounds_29 : decode cX4_byRounds 29 = .ok (.istore_n 2, 1) := by decide +kernel
theorem dX4_byRounds_30 : decode cX4_byRounds 30 = .ok (.iconst 0, 1) := by decide +kernel
theorem dX4_byRounds_31 : decode cX4_byRounds 31 = .ok (.istore 4, 2) := by decide +kernel
theorem dX4_byRounds_33 : decode cX4_byRounds 33 = .ok (.iload 4, 2) := by decide +kernel
theorem dX4_byRounds_35 : decode cX4_byRounds 35 = .ok (.sipush 151, 3) := by decide +kernel
theorem dX4_byRounds_38 : decode cX4_byRounds 38 = .ok (.if_icmp .ge 28, 3) := by decide +kernel
theorem dX4_byRounds_41 : decode cX4_byRounds 41 = .ok (.aload_n 0, 1) := by decide +kernel
theorem dX4_byRounds_42 : decode cX4_byRounds 42 = .ok (.getfield 16, 3) := by decide +kernel
theorem dX4_byRounds_45 : decode cX4_byRounds 45 = .ok (.iload 4, 2) := by decide +kernel
theorem dX4_byRounds_47 : decode cX4_byRounds 47 = .ok (.invokevirtual 45, 3) := by decide +kernel
theorem dX4_byRounds_50 : decode cX4_byRounds 50 = .ok (.iconst 1, 1) := by decide +kernel
theorem dX4_byRounds_51 : decode cX4_byRounds 51 = .ok (.if_icmp .ne 9, 3) := by decide +kernel
theorem dX4_byRounds_54 : decode cX4_byRounds 54 = .ok (.aload_n 0, 1) := by decide +kernel
theorem dX4_byRounds_55 : decode cX4_byRounds 55 = .ok (.iload 4, 2) := by decide +kernel
theorem dX4_byRounds_57 : decode cX4_byRounds 57 = .ok (.invokevirtual 53, 3) := by decide +kernel
theorem dX4_byRounds_60 : decode cX4_byRounds 60 = .ok (.iinc 4 1, 3) := by decide +kernel
theorem dX4_byRounds_63 : decode cX4_byRounds 63 = .ok (.goto (-30), 3) := by decide +kernel
theorem dX4_byRounds_66 : decode cX4_byRounds 66 = .ok (.iinc 3 1, 3) := by decide +kernel
theorem dX4_byRounds_69 : decode cX4_byRounds 69 = .ok (.goto (-59), 3) := by decide +kernel
theorem dX4_byRounds_72 : decode cX4_byRounds 72 = .ok (.aload_n 0, 1) := by decide +kernel
theorem dX4_byRounds_73 : decode cX4_byRounds 73 = .ok (.getfield 20, 3) := by decide +kernel
theorem dX4_byRounds_76 : decode cX4_byRounds 76 = .ok (.iload_n 1, 1) := by decide +kernel
theorem dX4_byRounds_77 : decode cX4_byRounds 77 = .ok (.invokevirtual 45, 3) := by decide +kernel
theorem dX4_byRounds_80 : decode cX4_byRounds 80 = .ok (.ireturn, 1) := by decide +kernel
theorem dX4_begin_0 : decode cX4_begin 0 = .ok (.aload_n 0, 1) := by decide +kernel
theorem dX4_begin_1 : decode cX4_begin 1 = .ok (.getfield 26, 3) := by decide +kernel
theorem dX4_begin_4 : decode cX4_begin 4 = .ok (.bipush 70, 2) := by decide +kernel
theorem dX4_begin_6 : decode cX4_begin 6 = .ok (.iconst (-1), 1) := by decide +kernel
theorem dX4_begin_7 : decode cX4_begin 7 = .ok (.iconst (-1), 1) := by decide +kernel
theorem dX4_begin_8 : decode cX4_begin 8 = .ok (.invokevirtual 59, 3) := by decide +kernel
theorem dX4_begin_11 : decode cX4_begin 11 = .ok (.istore_n 3, 1) := by decide +kernel
theorem dX4_begin_12 : decode cX4_begin 12 = .ok (.aload_n 0, 1) := by decide +kernel
theorem dX4_begin_13 : decode cX4_begin 13 = .ok (.iload_n 3, 1) := by decide +kernel
theorem dX4_begin_14 : decode cX4_begin 14 = .ok (.iconst (-1), 1) := by decide +kernel
theorem dX4_begin_15 : decode cX4_begin 15 = .ok (.if_icmp .eq 7, 3) := by decide +kernel
theorem dX4_begin_18 : decode cX4_begin 18 = .ok (.iload_n 3, 1) := by decide +kernel
theorem dX4_begin_19 : decode cX4_begin 19 = .ok (.goto 6, 3) := by decide +kernel
theorem dX4_begin_22 : decode cX4_begin 22 = .ok (.sipush 150, 3) := by decide +kernel
theorem dX4_begin_25 : decode cX4_begin 25 = .ok (.putfield 65, 3) := by decide +kernel
theorem dX4_begin_28 : decode cX4_begin 28 = .ok (.aload_n 0, 1) := by decide +kernel
theorem dX4_begin_29 : decode cX4_begin 29 = .ok (.iload_n 2, 1) := by decide +kernel
theorem dX4_begin_30 : decode cX4_begin 30 = .ok (.putfield 68, 3) := by decide +kernel
theorem dX4_begin_33 : decode cX4_begin 33 = .ok (.aload_n 0, 1) := by decide +kernel
theorem dX4_begin_34 : decode cX4_begin 34 = .ok (.iconst 0, 1) := by decide +kernel
theorem dX4_begin_35 : decode cX4_begin 35 = .ok (.putfield 38, 3) := by decide +kernel
theorem dX4_begin_38 : decode cX4_begin 38 = .ok (.aload_n 0, 1) := by decide +kernel
theorem dX4_begin_39 : decode cX4_begin 39 = .ok (.iconst 0, 1) := by decide +kernel
theorem dX4_begin_40 : decode cX4_begin 40 = .ok (.putfield 42, 3) := by decide +kernel
theorem dX4_begin_43 : decode cX4_begin 43 = .ok (.aload_n 0, 1) := by decide +kernel
theorem dX4_begin_44 : decode cX4_begin 44 = .ok (.iconst 0, 1) := by decide +kernel
theorem dX4_begin_45 : decode cX4_begin 45 = .ok (.putfield 56, 3) := by decide +kernel
theorem dX4_begin_48 : decode cX4_begin 48 = .ok (.aload_n 0, 1) := by decide +kernel
theorem dX4_begin_49 : decode cX4_begin 49 = .ok (.getfield 16, 3) := by decide +kernel
theorem dX4_begin_52 : decode cX4_begin 52 = .ok (.iconst 0, 1) := by decide +kernel
theorem dX4_begin_53 : decode cX4_begin 53 = .ok (.invokevirtual 72, 3) := by decide +kernel
theorem dX4_begin_56 : decode cX4_begin 56 = .ok (.aload_n 0, 1) := by decide +kernel
theorem dX4_begin_57 : decode cX4_begin 57 = .ok (.getfield 20, 3) := by decide +kernel
theorem dX4_begin_60 : decode cX4_begin 60 = .ok (.iconst (-1), 1) := by decide +kernel
theorem dX4_begin_61 : decode cX4_begin 61 = .ok (.invokevirtual 72, 3) := by decide +kernel
theorem dX4_begin_64 : decode cX4_begin 64 = .ok (.aload_n 0, 1) := by decide +kernel
theorem dX4_begin_65 : decode cX4_begin 65 = .ok (.getfield 16, 3) := by decide +kernel
theorem dX4_begin_68 : decode cX4_begin 68 = .ok (.iload_n 1, 1) := by decide +kernel
theorem dX4_begin_69 : decode cX4_begin 69 = .ok (.iconst 1, 1) := by decide +kernel
theorem dX4_begin_70 : decode cX4_begin 70 = .ok (.invokevirtual 75, 3) := by decide +kernel
theorem dX4_begin_73 : decode cX4_begin 73 = .ok (.aload_n 0, 1) := by decide +kernel
theorem dX4_begin_74 : decode cX4_begin 74 = .ok (.getfield 16, 3) := by decide +kernel
theorem dX4_begin_77 : decode cX4_begin 77 = .ok (.aload_n 0, 1) := by decide +kernel
theorem dX4_begin_78 : decode cX4_begin 78 = .ok (.getfield 65, 3) := by decide +kernel
theorem dX4_begin_81 : decode cX4_begin 81 = .ok (.iconst 1, 1) := by decide +kernel
theorem dX4_begin_82 : decode cX4_begin 82 = .ok (.invokevirtual 75, 3) := by decide +kernel
theorem dX4_begin_85 : decode cX4_begin 85 = .ok (.iconst 0, 1) := by decide +kernel
theorem dX4_begin_86 : decode cX4_begin 86 = .ok (.istore 4, 2) := by decide +kernel
theorem dX4_begin_88 : decode cX4_begin 88 = .ok (.iload 4, 2) := by decide +kernel
theorem dX4_begin_90 : decode cX4_begin 90 = .ok (.aload_n 0, 1) := by decide +kernel
theorem dX4_begin_91 : decode cX4_begin 91 = .ok (.getfield 30, 3) := by decide +kernel
theorem dX4_begin_94 : decode cX4_begin 94 = .ok (.getfield 79, 3) := by decide +kernel
theorem dX4_begin_97 : decode cX4_begin 97 = .ok (.if_icmp .ge 52, 3) := by decide +kernel
theorem dX4_begin_100 : decode cX4_begin 100 = .ok (.aload_n 0, 1) := by decide +kernel
theorem dX4_begin_101 : decode cX4_begin 101 = .ok (.getfield 30, 3) := by decide +kernel
theorem dX4_begin_104 : decode cX4_begin 104 = .ok (.iload 4, 2) := by decide +kernel
theorem dX4_begin_106 : decode cX4_begin 106 = .ok (.invokevirtual 84, 3) := by decide +kernel
theorem dX4_begin_109 : decode cX4_begin 109 = .ok (.ifCond .eq 34, 3) := by decide +kernel
theorem dX4_begin_112 : decode cX4_begin 112 = .ok (.aload_n 0, 1) := by decide +kernel
theorem dX4_begin_113 : decode cX4_begin 113 = .ok (.getfield 16, 3) := by decide +kernel
theorem dX4_begin_116 : decode cX4_begin 116 = .ok (.aload_n 0, 1) := by decide +kernel
theorem dX4_begin_117 : decode cX4_begin 117 = .ok (.getfield 30, 3) := by decide +kernel
theorem dX4_begin_120 : decode cX4_begin 120 = .ok (.iload 4, 2) := by decide +kernel
theorem dX4_begin_122 : decode cX4_begin 122 = .ok (.invokevirtual 88, 3) := by decide +kernel
theorem dX4_begin_125 : decode cX4_begin 125 = .ok (.iconst 1, 1) := by decide +kernel
theorem dX4_begin_126 : decode cX4_begin 126 = .ok (.invokevirtual 75, 3) := by decide +kernel
theorem dX4_begin_129 : decode cX4_begin 129 = .ok (.aload_n 0, 1) := by decide +kernel
theorem dX4_begin_130 : decode cX4_begin 130 = .ok (.aload_n 0, 1) := by decide +kernel
theorem dX4_begin_131 : decode cX4_begin 131 = .ok (.getfield 30, 3) := by decide +kernel
theorem dX4_begin_134 : decode cX4_begin 134 = .ok (.iload 4, 2) := by decide +kernel
theorem dX4_begin_136 : decode cX4_begin 136 = .ok (.invokevirtual 88, 3) := by decide +kernel
theorem dX4_begin_139 : decode cX4_begin 139 = .ok (.iconst 0, 1) := by decide +kernel
theorem dX4_begin_140 : decode cX4_begin 140 = .ok (.invokevirtual 91, 3) := by decide +kernel
theorem dX4_begin_143 : decode cX4_begin 143 = .ok (.iinc 4 1, 3) := by decide +kernel
theorem dX4_begin_146 : decode cX4_begin 146 = .ok (.goto (-58), 3) := by decide +kernel
theorem dX4_begin_149 : decode cX4_begin 149 = .ok (.aload_n 0, 1) := by decide +kernel
theorem dX4_begin_150 : decode cX4_begin 150 = .ok (.getfield 26, 3) := by decide +kernel
theorem dX4_begin_153 : decode cX4_begin 153 = .ok (.getfield 94, 3) := by decide +kernel
theorem dX4_begin_156 : decode cX4_begin 156 = .ok (.iconst 1, 1) := by decide +kernel
theorem dX4_begin_157 : decode cX4_begin 157 = .ok (.isub, 1) := by decide +kernel
theorem dX4_begin_158 : decode cX4_begin 158 = .ok (.istore 4, 2) := by decide +kernel
theorem dX4_begin_160 : decode cX4_begin 160 = .ok (.iload 4, 2) := by decide +kernel
theorem dX4_begin_162 : decode cX4_begin 162 = .ok (.ifCond .lt 56, 3) := by decide +kernel
theorem dX4_begin_165 : decode cX4_begin 165 = .ok (.aload_n 0, 1) := by decide +kernel
theorem dX4_begin_166 : decode cX4_begin 166 = .ok (.getfield 16, 3) := by decide +kernel
theorem dX4_begin_169 : decode cX4_begin 169 = .ok (.iload 4, 2) := by decide +kernel
theorem dX4_begin_171 : decode cX4_begin 171 = .ok (.invokevirtual 45, 3) := by decide +kernel
theorem dX4_begin_174 : decode cX4_begin 174 = .ok (.iconst 1, 1) := by decide +kernel
theorem dX4_begin_175 : decode cX4_begin 175 = .ok (.if_icmp .ne 37, 3) := by decide +kernel
theorem dX4_begin_178 : decode cX4_begin 178 = .ok (.aload_n 0, 1) := by decide +kernel
theorem dX4_begin_179 : decode cX4_begin 179 = .ok (.getfield 16, 3) := by decide +kernel
theorem dX4_begin_182 : decode cX4_begin 182 = .ok (.aload_n 0, 1) := by decide +kernel
theorem dX4_begin_183 : decode cX4_begin 183 = .ok (.getfield 26, 3) := by decide +kernel
theorem dX4_begin_186 : decode cX4_begin 186 = .ok (.iload 4, 2) := by decide +kernel
theorem dX4_begin_188 : decode cX4_begin 188 = .ok (.invokevirtual 97, 3) := by decide +kernel
theorem dX4_begin_191 : decode cX4_begin 191 = .ok (.iconst 1, 1) := by decide +kernel
theorem dX4_begin_192 : decode cX4_begin 192 = .ok (.invokevirtual 75, 3) := by decide +kernel
theorem dX4_begin_195 : decode cX4_begin 195 = .ok (.aload_n 0, 1) := by decide +kernel
theorem dX4_begin_196 : decode cX4_begin 196 = .ok (.getfield 16, 3) := by decide +kernel
theorem dX4_begin_199 : decode cX4_begin 199 = .ok (.aload_n 0, 1) := by decide +kernel
theorem dX4_begin_200 : decode cX4_begin 200 = .ok (.getfield 26, 3) := by decide +kernel
theorem dX4_begin_203 : decode cX4_begin 203 = .ok (.iload 4, 2) := by decide +kernel
theorem dX4_begin_205 : decode cX4_begin 205 = .ok (.invokevirtual 100, 3) := by decide +kernel
theorem dX4_begin_208 : decode cX4_begin 208 = .ok (.iconst 1, 1) := by decide +kernel
theorem dX4_begin_209 : decode cX4_begin 209 = .ok (.invokevirtual 75, 3) := by decide +kernel
theorem dX4_begin_212 : decode cX4_begin 212 = .ok (.iinc 4 (-1), 3) := by decide +kernel
theorem dX4_begin_215 : decode cX4_begin 215 = .ok (.goto (-55), 3) := by decide +kernel
theorem dX4_begin_218 : decode cX4_begin 218 = .ok (.return_, 1) := by decide +kernel
theorem dX4_concerns_0 : decode cX4_concerns 0 = .ok (.iload_n 1, 1) := by decide +kernel
theorem dX4_concerns_1 : decode cX4_concerns 1 = .ok (.iload_n 2, 1) := by decide +kernel
theorem dX4_concerns_2 : decode cX4_concerns 2 = .ok (.if_icmp .eq 35, 3) := by decide +kernel
theorem dX4_concerns_5 : decode cX4_concerns 5 = .ok (.iload_n 1, 1) := by decide +kernel
theorem dX4_concerns_6 : decode cX4_concerns 6 = .ok (.aload_n 0, 1) := by decide +kernel
theorem dX4_concerns_7 : decode cX4_concerns 7 = .ok (.getfield 65, 3) := by decide +kernel
theorem dX4_concerns_10 : decode cX4_concerns 10 = .ok (.if_icmp .eq 27, 3) := by decide +kernel
theorem dX4_concerns_13 : decode cX4_concerns 13 = .ok (.iload_n 1, 1) := by decide +kernel
theorem dX4_concerns_14 : decode cX4_concerns 14 = .ok (.aload_n 0, 1) := by decide +kernel
theorem dX4_concerns_15 : decode cX4_concerns 15 = .ok (.getfield 26, 3) := by decide +kernel
theorem dX4_concerns_18 : decode cX4_concerns 18 = .ok (.iload_n 2, 1) := by decide +kernel
theorem dX4_concerns_19 : decode cX4_concerns 19 = .ok (.invokevirtual 97, 3) := by decide +kernel
theorem dX4_concerns_22 : decode cX4_concerns 22 = .ok (.if_icmp .eq 15, 3) := by decide +kernel
theorem dX4_concerns_25 : decode cX4_concerns 25 = .ok (.iload_n 1, 1) := by decide +kernel
theorem dX4_concerns_26 : decode cX4_concerns 26 = .ok (.aload_n 0, 1) := by decide +kernel
theorem dX4_concerns_27 : decode cX4_concerns 27 = .ok (.getfield 26, 3) := by decide +kernel
theorem dX4_concerns_30 : decode cX4_concerns 30 = .ok (.iload_n 2, 1) := by decide +kernel
theorem dX4_concerns_31 : decode cX4_concerns 31 = .ok (.invokevirtual 100, 3) := by decide +kernel
theorem dX4_concerns_34 : decode cX4_concerns 34 = .ok (.if_icmp .ne 7, 3) := by decide +kernel
theorem dX4_concerns_37 : decode cX4_concerns 37 = .ok (.iconst 1, 1) := by decide +kernel
theorem dX4_concerns_38 : decode cX4_concerns 38 = .ok (.goto 4, 3) := by decide +kernel
theorem dX4_concerns_41 : decode cX4_concerns 41 = .ok (.iconst 0, 1) := by decide +kernel
theorem dX4_concerns_42 : decode cX4_concerns 42 = .ok (.ireturn, 1) := by decide +kernel
theorem dX4_applyRules_0 : decode cX4_applyRules 0 = .ok (.aload_n 0, 1) := by decide +kernel
theorem dX4_applyRules_1 : decode cX4_applyRules 1 = .ok (.getfield 26, 3) := by decide +kernel
theorem dX4_applyRules_4 : decode cX4_applyRules 4 = .ok (.iload_n 1, 1) := by decide +kernel
theorem dX4_applyRules_5 : decode cX4_applyRules 5 = .ok (.invokevirtual 97, 3) := by decide +kernel
theorem dX4_applyRules_8 : decode cX4_applyRules 8 = .ok (.istore_n 2, 1) := by decide +kernel
theorem dX4_applyRules_9 : decode cX4_applyRules 9 = .ok (.aload_n 0, 1) := by decide +kernel
theorem dX4_applyRules_10 : decode cX4_applyRules 10 = .ok (.getfield 26, 3) := by decide +kernel
theorem dX4_applyRules_13 : decode cX4_applyRules 13 = .ok (.iload_n 1, 1) := by decide +kernel
theorem dX4_applyRules_14 : decode cX4_applyRules 14 = .ok (.invokevirtual 100, 3) := by decide +kernel
theorem dX4_applyRules_17 : decode cX4_applyRules 17 = .ok (.istore_n 3, 1) := by decide +kernel
theorem dX4_applyRules_18 : decode cX4_applyRules 18 = .ok (.aload_n 0, 1) := by decide +kernel
theorem dX4_applyRules_19 : decode cX4_applyRules 19 = .ok (.getfield 26, 3) := by decide +kernel
theorem dX4_applyRules_22 : decode cX4_applyRules 22 = .ok (.iload_n 1, 1) := by decide +kernel
theorem dX4_applyRules_23 : decode cX4_applyRules 23 = .ok (.invokevirtual 103, 3) := by decide +kernel
theorem dX4_applyRules_26 : decode cX4_applyRules 26 = .ok (.istore 4, 2) := by decide +kernel
theorem dX4_applyRules_28 : decode cX4_applyRules 28 = .ok (.aload_n 0, 1) := by decide +kernel
theorem dX4_applyRules_29 : decode cX4_applyRules 29 = .ok (.iload_n 1, 1) := by decide +kernel
theorem dX4_applyRules_30 : decode cX4_applyRules 30 = .ok (.aload_n 0, 1) := by decide +kernel
theorem dX4_applyRules_31 : decode cX4_applyRules 31 = .ok (.aload_n 0, 1) := by decide +kernel
theorem dX4_applyRules_32 : decode cX4_applyRules 32 = .ok (.getfield 65, 3) := by decide +kernel
theorem dX4_applyRules_35 : decode cX4_applyRules 35 = .ok (.invokevirtual 107, 3) := by decide +kernel
theorem dX4_applyRules_38 : decode cX4_applyRules 38 = .ok (.invokevirtual 91, 3) := by decide +kernel
theorem dX4_applyRules_41 : decode cX4_applyRules 41 = .ok (.iload 4, 2) := by decide +kernel
theorem dX4_applyRules_43 : decode cX4_applyRules 43 = .ok (.bipush 75, 2) := by decide +kernel
theorem dX4_applyRules_45 : decode cX4_applyRules 45 = .ok (.if_icmp .ne 37, 3) := by decide +kernel
theorem dX4_applyRules_48 : decode cX4_applyRules 48 = .ok (.aload_n 0, 1) := by decide +kernel
theorem dX4_applyRules_49 : decode cX4_applyRules 49 = .ok (.iload_n 1, 1) := by decide +kernel
theorem dX4_applyRules_50 : decode cX4_applyRules 50 = .ok (.aload_n 0, 1) := by decide +kernel
theorem dX4_applyRules_51 : decode cX4_applyRules 51 = .ok (.iload_n 2, 1) := by decide +kernel
theorem dX4_applyRules_52 : decode cX4_applyRules 52 = .ok (.iload_n 3, 1) := by decide +kernel
theorem dX4_applyRules_53 : decode cX4_applyRules 53 = .ok (.invokevirtual 110, 3) := by decide +kernel
theorem dX4_applyRules_56 : decode cX4_applyRules 56 = .ok (.invokevirtual 91, 3) := by decide +kernel
theorem dX4_applyRules_59 : decode cX4_applyRules 59 = .ok (.aload_n 0, 1) := by decide +kernel
theorem dX4_applyRules_60 : decode cX4_applyRules 60 = .ok (.iload_n 2, 1) := by decide +kernel
theorem dX4_applyRules_61 : decode cX4_applyRules 61 = .ok (.aload_n 0, 1) := by decide +kernel
theorem dX4_applyRules_62 : decode cX4_applyRules 62 = .ok (.iload_n 1, 1) := by decide +kernel
theorem dX4_applyRules_63 : decode cX4_applyRules 63 = .ok (.invokevirtual 107, 3) := by decide +kernel
theorem dX4_applyRules_66 : decode cX4_applyRules 66 = .ok (.invokevirtual 91, 3) := by decide +kernel
theorem dX4_applyRules_69 : decode cX4_applyRules 69 = .ok (.aload_n 0, 1) := by decide +kernel
theorem dX4_applyRules_70 : decode cX4_applyRules 70 = .ok (.iload_n 3, 1) := by decide +kernel
theorem dX4_applyRules_71 : decode cX4_applyRules 71 = .ok (.aload_n 0, 1) := by decide +kernel
theorem dX4_applyRules_72 : decode cX4_applyRules 72 = .ok (.iload_n 1, 1) := by decide +kernel
theorem dX4_applyRules_73 : decode cX4_applyRules 73 = .ok (.invokevirtual 107, 3) := by decide +kernel
theorem dX4_applyRules_76 : decode cX4_applyRules 76 = .ok (.invokevirtual 91, 3) := by decide +kernel
theorem dX4_applyRules_79 : decode cX4_applyRules 79 = .ok (.goto 105, 3) := by decide +kernel
theorem dX4_applyRules_82 : decode cX4_applyRules 82 = .ok (.iload 4, 2) := by decide +kernel
theorem dX4_applyRules_84 : decode cX4_applyRules 84 = .ok (.bipush 65, 2) := by decide +kernel
theorem dX4_applyRules_86 : decode cX4_applyRules 86 = .ok (.if_icmp .ne 26, 3) := by decide +kernel
theorem dX4_applyRules_89 : decode cX4_applyRules 89 = .ok (.aload_n 0, 1) := by decide +kernel
theorem dX4_applyRules_90 : decode cX4_applyRules 90 = .ok (.iload_n 1, 1) := by decide +kernel
theorem dX4_applyRules_91 : decode cX4_applyRules 91 = .ok (.aload_n 0, 1) := by decide +kernel
theorem dX4_applyRules_92 : decode cX4_applyRules 92 = .ok (.iload_n 2, 1) := by decide +kernel
theorem dX4_applyRules_93 : decode cX4_applyRules 93 = .ok (.invokevirtual 107, 3) := by decide +kernel
theorem dX4_applyRules_96 : decode cX4_applyRules 96 = .ok (.invokevirtual 91, 3) := by decide +kernel
theorem dX4_applyRules_99 : decode cX4_applyRules 99 = .ok (.aload_n 0, 1) := by decide +kernel
theorem dX4_applyRules_100 : decode cX4_applyRules 100 = .ok (.iload_n 1, 1) := by decide +kernel
theorem dX4_applyRules_101 : decode cX4_applyRules 101 = .ok (.aload_n 0, 1) := by decide +kernel
theorem dX4_applyRules_102 : decode cX4_applyRules 102 = .ok (.iload_n 3, 1) := by decide +kernel
theorem dX4_applyRules_103 : decode cX4_applyRules 103 = .ok (.invokevirtual 107, 3) := by decide +kernel
theorem dX4_applyRules_106 : decode cX4_applyRules 106 = .ok (.invokevirtual 91, 3) := by decide +kernel
theorem dX4_applyRules_109 : decode cX4_applyRules 109 = .ok (.goto 75, 3) := by decide +kernel
theorem dX4_applyRules_112 : decode cX4_applyRules 112 = .ok (.iload 4, 2) := by decide +kernel
theorem dX4_applyRules_114 : decode cX4_applyRules 114 = .ok (.bipush 67, 2) := by decide +kernel
theorem dX4_applyRules_116 : decode cX4_applyRules 116 = .ok (.if_icmp .ne 17, 3) := by decide +kernel
theorem dX4_applyRules_119 : decode cX4_applyRules 119 = .ok (.aload_n 0, 1) := by decide +kernel
theorem dX4_applyRules_120 : decode cX4_applyRules 120 = .ok (.iload_n 3, 1) := by decide +kernel
theorem dX4_applyRules_121 : decode cX4_applyRules 121 = .ok (.aload_n 0, 1) := by decide +kernel
theorem dX4_applyRules_122 : decode cX4_applyRules 122 = .ok (.iload_n 1, 1) := by decide +kernel
theorem dX4_applyRules_123 : decode cX4_applyRules 123 = .ok (.iload_n 2, 1) := by decide +kernel
theorem dX4_applyRules_124 : decode cX4_applyRules 124 = .ok (.invokevirtual 110, 3) := by decide +kernel
theorem dX4_applyRules_127 : decode cX4_applyRules 127 = .ok (.invokevirtual 91, 3) := by decide +kernel
theorem dX4_applyRules_130 : decode cX4_applyRules 130 = .ok (.goto 54, 3) := by decide +kernel
theorem dX4_applyRules_133 : decode cX4_applyRules 133 = .ok (.iload 4, 2) := by decide +kernel
theorem dX4_applyRules_135 : decode cX4_applyRules 135 = .ok (.bipush 78, 2) := by decide +kernel
theorem dX4_applyRules_137 : decode cX4_applyRules 137 = .ok (.if_icmp .ne 47, 3) := by decide +kernel
theorem dX4_applyRules_140 : decode cX4_applyRules 140 = .ok (.aload_n 0, 1) := by decide +kernel
theorem dX4_applyRules_141 : decode cX4_applyRules 141 = .ok (.aload_n 0, 1) := by decide +kernel
theorem dX4_applyRules_142 : decode cX4_applyRules 142 = .ok (.getfield 65, 3) := by decide +kernel
theorem dX4_applyRules_145 : decode cX4_applyRules 145 = .ok (.aload_n 0, 1) := by decide +kernel
theorem dX4_applyRules_146 : decode cX4_applyRules 146 = .ok (.iload_n 1, 1) := by decide +kernel
theorem dX4_applyRules_147 : decode cX4_applyRules 147 = .ok (.iload_n 2, 1) := by decide +kernel
theorem dX4_applyRules_148 : decode cX4_applyRules 148 = .ok (.invokevirtual 110, 3) := by decide +kernel
theorem dX4_applyRules_151 : decode cX4_applyRules 151 = .ok (.invokevirtual 91, 3) := by decide +kernel
theorem dX4_applyRules_154 : decode cX4_applyRules 154 = .ok (.aload_n 0, 1) := by decide +kernel
theorem dX4_applyRules_155 : decode cX4_applyRules 155 = .ok (.getfield 26, 3) := by decide +kernel
theorem dX4_applyRules_158 : decode cX4_applyRules 158 = .ok (.iload_n 2, 1) := by decide +kernel
theorem dX4_applyRules_159 : decode cX4_applyRules 159 = .ok (.invokevirtual 103, 3) := by decide +kernel
theorem dX4_applyRules_162 : decode cX4_applyRules 162 = .ok (.bipush 78, 2) := by decide +kernel
theorem dX4_applyRules_164 : decode cX4_applyRules 164 = .ok (.if_icmp .ne 20, 3) := by decide +kernel
theorem dX4_applyRules_167 : decode cX4_applyRules 167 = .ok (.aload_n 0, 1) := by decide +kernel
theorem dX4_applyRules_168 : decode cX4_applyRules 168 = .ok (.aload_n 0, 1) := by decide +kernel
theorem dX4_applyRules_169 : decode cX4_applyRules 169 = .ok (.getfield 26, 3) := by decide +kernel
theorem dX4_applyRules_172 : decode cX4_applyRules 172 = .ok (.iload_n 2, 1) := by decide +kernel
theorem dX4_applyRules_173 : decode cX4_applyRules 173 = .ok (.invokevirtual 97, 3) := by decide +kernel
theorem dX4_applyRules_176 : decode cX4_applyRules 176 = .ok (.aload_n 0, 1) := by decide +kernel
theorem dX4_applyRules_177 : decode cX4_applyRules 177 = .ok (.iload_n 1, 1) := by decide +kernel
theorem dX4_applyRules_178 : decode cX4_applyRules 178 = .ok (.invokevirtual 107, 3) := by decide +kernel
theorem dX4_applyRules_181 : decode cX4_applyRules 181 = .ok (.invokevirtual 91, 3) := by decide +kernel
theorem dX4_applyRules_184 : decode cX4_applyRules 184 = .ok (.return_, 1) := by decide +kernel
theorem dX4_beyond_0 : decode cX4_beyond 0 = .ok (.aload_n 0, 1) := by decide +kernel
theorem dX4_beyond_1 : decode cX4_beyond 1 = .ok (.getfield 20, 3) := by decide +kernel
theorem dX4_beyond_4 : decode cX4_beyond 4 = .ok (.iload_n 1, 1) := by decide +kernel
theorem dX4_beyond_5 : decode cX4_beyond 5 = .ok (.invokevirtual 45, 3) := by decide +kernel
theorem dX4_beyond_8 : decode cX4_beyond 8 = .ok (.istore_n 2, 1) := by decide +kernel
theorem dX4_beyond_9 : decode cX4_beyond 9 = .ok (.iload_n 2, 1) := by decide +kernel
theorem dX4_beyond_10 : decode cX4_beyond 10 = .ok (.iconst (-1), 1) := by decide +kernel
theorem dX4_beyond_11 : decode cX4_beyond 11 = .ok (.if_icmp .ne 7, 3) := by decide +kernel
theorem dX4_beyond_14 : decode cX4_beyond 14 = .ok (.iconst (-1), 1) := by decide +kernel
theorem dX4_beyond_15 : decode cX4_beyond 15 = .ok (.goto 9, 3) := by decide +kernel
theorem dX4_beyond_18 : decode cX4_beyond 18 = .ok (.iconst 1, 1) := by decide +kernel
theorem dX4_beyond_19 : decode cX4_beyond 19 = .ok (.iload_n 2, 1) := by decide +kernel
theorem dX4_beyond_20 : decode cX4_beyond 20 = .ok (.iadd, 1) := by decide +kernel
theorem dX4_beyond_21 : decode cX4_beyond 21 = .ok (.invokestatic 114, 3) := by decide +kernel
theorem dX4_beyond_24 : decode cX4_beyond 24 = .ok (.ireturn, 1) := by decide +kernel
theorem dX4_beyondBoth_0 : decode cX4_beyondBoth 0 = .ok (.aload_n 0, 1) := by decide +kernel
theorem dX4_beyondBoth_1 : decode cX4_beyondBoth 1 = .ok (.getfield 20, 3) := by decide +kernel
theorem dX4_beyondBoth_4 : decode cX4_beyondBoth 4 = .ok (.iload_n 1, 1) := by decide +kernel
theorem dX4_beyondBoth_5 : decode cX4_beyondBoth 5 = .ok (.invokevirtual 45, 3) := by decide +kernel
theorem dX4_beyondBoth_8 : decode cX4_beyondBoth 8 = .ok (.istore_n 3, 1) := by decide +kernel
theorem dX4_beyondBoth_9 : decode cX4_beyondBoth 9 = .ok (.aload_n 0, 1) := by decide +kernel
theorem dX4_beyondBoth_10 : decode cX4_beyondBoth 10 = .ok (.getfield 20, 3) := by decide +kernel
theorem dX4_beyondBoth_13 : decode cX4_beyondBoth 13 = .ok (.iload_n 2, 1) := by decide +kernel
theorem dX4_beyondBoth_14 : decode cX4_beyondBoth 14 = .ok (.invokevirtual 45, 3) := by decide +kernel
theorem dX4_beyondBoth_17 : decode cX4_beyondBoth 17 = .ok (.istore 4, 2) := by decide +kernel
theorem dX4_beyondBoth_19 : decode cX4_beyondBoth 19 = .ok (.iload_n 3, 1) := by decide +kernel
theorem dX4_beyondBoth_20 : decode cX4_beyondBoth 20 = .ok (.iconst (-1), 1) := by decide +kernel
theorem dX4_beyondBoth_21 : decode cX4_beyondBoth 21 = .ok (.if_icmp .eq 9, 3) := by decide +kernel
theorem dX4_beyondBoth_24 : decode cX4_beyondBoth 24 = .ok (.iload 4, 2) := by decide +kernel
theorem dX4_beyondBoth_26 : decode cX4_beyondBoth 26 = .ok (.iconst (-1), 1) := by decide +kernel
theorem dX4_beyondBoth_27 : decode cX4_beyondBoth 27 = .ok (.if_icmp .ne 7, 3) := by decide +kernel
theorem dX4_beyondBoth_30 : decode cX4_beyondBoth 30 = .ok (.iconst (-1), 1) := by decide +kernel
theorem dX4_beyondBoth_31 : decode cX4_beyondBoth 31 = .ok (.goto 12, 3) := by decide +kernel
theorem dX4_beyondBoth_34 : decode cX4_beyondBoth 34 = .ok (.iconst 1, 1) := by decide +kernel
theorem dX4_beyondBoth_35 : decode cX4_beyondBoth 35 = .ok (.iload_n 3, 1) := by decide +kernel
theorem dX4_beyondBoth_36 : decode cX4_beyondBoth 36 = .ok (.iadd, 1) := by decide +kernel
theorem dX4_beyondBoth_37 : decode cX4_beyondBoth 37 = .ok (.iload 4, 2) := by decide +kernel
theorem dX4_beyondBoth_39 : decode cX4_beyondBoth 39 = .ok (.iadd, 1) := by decide +kernel
theorem dX4_beyondBoth_40 : decode cX4_beyondBoth 40 = .ok (.invokestatic 114, 3) := by decide +kernel
theorem dX4_beyondBoth_43 : decode cX4_beyondBoth 43 = .ok (.ireturn, 1) := by decide +kernel
theorem dX4_counting_0 : decode cX4_counting 0 = .ok (.iload_n 0, 1) := by decide +kernel
theorem dX4_counting_1 : decode cX4_counting 1 = .ok (.sipush 9999, 3) := by decide +kernel
theorem dX4_counting_4 : decode cX4_counting 4 = .ok (.if_icmp .le 7, 3) := by decide +kernel
theorem dX4_counting_7 : decode cX4_counting 7 = .ok (.iconst (-1), 1) := by decide +kernel
theorem dX4_counting_8 : decode cX4_counting 8 = .ok (.goto 4, 3) := by decide +kernel
theorem dX4_counting_11 : decode cX4_counting 11 = .ok (.iload_n 0, 1) := by decide +kernel
theorem dX4_counting_12 : decode cX4_counting 12 = .ok (.ireturn, 1) := by decide +kernel
theorem dX4_offer_0 : decode cX4_offer 0 = .ok (.aload_n 0, 1) := by decide +kernel
theorem dX4_offer_1 : decode cX4_offer 1 = .ok (.getfield 20, 3) := by decide +kernel
theorem dX4_offer_4 : decode cX4_offer 4 = .ok (.iload_n 1, 1) := by decide +kernel
theorem dX4_offer_5 : decode cX4_offer 5 = .ok (.invokevirtual 45, 3) := by decide +kernel
theorem dX4_offer_8 : decode cX4_offer 8 = .ok (.istore_n 3, 1) := by decide +kernel
theorem dX4_offer_9 : decode cX4_offer 9 = .ok (.iload_n 2, 1) := by decide +kernel
theorem dX4_offer_10 : decode cX4_offer 10 = .ok (.iconst (-1), 1) := by decide +kernel
theorem dX4_offer_11 : decode cX4_offer 11 = .ok (.if_icmp .eq 54, 3) := by decide +kernel
theorem dX4_offer_14 : decode cX4_offer 14 = .ok (.iload_n 3, 1) := by decide +kernel
theorem dX4_offer_15 : decode cX4_offer 15 = .ok (.iconst (-1), 1) := by decide +kernel
theorem dX4_offer_16 : decode cX4_offer 16 = .ok (.if_icmp .eq 8, 3) := by decide +kernel
theorem dX4_offer_19 : decode cX4_offer 19 = .ok (.iload_n 2, 1) := by decide +kernel
theorem dX4_offer_20 : decode cX4_offer 20 = .ok (.iload_n 3, 1) := by decide +kernel
theorem dX4_offer_21 : decode cX4_offer 21 = .ok (.if_icmp .ge 44, 3) := by decide +kernel
theorem dX4_offer_24 : decode cX4_offer 24 = .ok (.aload_n 0, 1) := by decide +kernel
theorem dX4_offer_25 : decode cX4_offer 25 = .ok (.getfield 20, 3) := by decide +kernel
theorem dX4_offer_28 : decode cX4_offer 28 = .ok (.iload_n 1, 1) := by decide +kernel
theorem dX4_offer_29 : decode cX4_offer 29 = .ok (.iload_n 2, 1) := by decide +kernel
theorem dX4_offer_30 : decode cX4_offer 30 = .ok (.invokevirtual 75, 3) := by decide +kernel
theorem dX4_offer_33 : decode cX4_offer 33 = .ok (.aload_n 0, 1) := by decide +kernel
theorem dX4_offer_34 : decode cX4_offer 34 = .ok (.dup, 1) := by decide +kernel
theorem dX4_offer_35 : decode cX4_offer 35 = .ok (.getfield 56, 3) := by decide +kernel
theorem dX4_offer_38 : decode cX4_offer 38 = .ok (.iconst 1, 1) := by decide +kernel
theorem dX4_offer_39 : decode cX4_offer 39 = .ok (.iadd, 1) := by decide +kernel
theorem dX4_offer_40 : decode cX4_offer 40 = .ok (.putfield 56, 3) := by decide +kernel
theorem dX4_offer_43 : decode cX4_offer 43 = .ok (.aload_n 0, 1) := by decide +kernel
theorem dX4_offer_44 : decode cX4_offer 44 = .ok (.getfield 68, 3) := by decide +kernel
theorem dX4_offer_47 : decode cX4_offer 47 = .ok (.ifCond .eq 18, 3) := by decide +kernel
theorem dX4_offer_50 : decode cX4_offer 50 = .ok (.aload_n 0, 1) := by decide +kernel
theorem dX4_offer_51 : decode cX4_offer 51 = .ok (.iload_n 1, 1) := by decide +kernel
theorem dX4_offer_52 : decode cX4_offer 52 = .ok (.iload_n 3, 1) := by decide +kernel
theorem dX4_offer_53 : decode cX4_offer 53 = .ok (.iconst (-1), 1) := by decide +kernel
theorem dX4_offer_54 : decode cX4_offer 54 = .ok (.if_icmp .ne 7, 3) := by decide +kernel
theorem dX4_offer_57 : decode cX4_offer 57 = .ok (.iconst 1, 1) := by decide +kernel
theorem dX4_offer_58 : decode cX4_offer 58 = .ok (.goto 4, 3) := by decide +kernel
theorem dX4_offer_61 : decode cX4_offer 61 = .ok (.iconst 0, 1) := by decide +kernel
theorem dX4_offer_62 : decode cX4_offer 62 = .ok (.invokevirtual 117, 3) := by decide +kernel
theorem dX4_offer_65 : decode cX4_offer 65 = .ok (.return_, 1) := by decide +kernel
theorem dX4_moveForward_0 : decode cX4_moveForward 0 = .ok (.aload_n 0, 1) := by decide +kernel
theorem dX4_moveForward_1 : decode cX4_moveForward 1 = .ok (.getfield 42, 3) := by decide +kernel
theorem dX4_moveForward_4 : decode cX4_moveForward 4 = .ok (.istore_n 3, 1) := by decide +kernel
theorem dX4_moveForward_5 : decode cX4_moveForward 5 = .ok (.iload_n 2, 1) := by decide +kernel
theorem dX4_moveForward_6 : decode cX4_moveForward 6 = .ok (.ifCond .eq 16, 3) := by decide +kernel
theorem dX4_moveForward_9 : decode cX4_moveForward 9 = .ok (.aload_n 0, 1) := by decide +kernel
theorem dX4_moveForward_10 : decode cX4_moveForward 10 = .ok (.dup, 1) := by decide +kernel
theorem dX4_moveForward_11 : decode cX4_moveForward 11 = .ok (.getfield 42, 3) := by decide +kernel
theorem dX4_moveForward_14 : decode cX4_moveForward 14 = .ok (.iconst 1, 1) := by decide +kernel
theorem dX4_moveForward_15 : decode cX4_moveForward 15 = .ok (.iadd, 1) := by decide +kernel
theorem dX4_moveForward_16 : decode cX4_moveForward 16 = .ok (.putfield 42, 3) := by decide +kernel
theorem dX4_moveForward_19 : decode cX4_moveForward 19 = .ok (.goto 9, 3) := by decide +kernel
theorem dX4_moveForward_22 : decode cX4_moveForward 22 = .ok (.aload_n 0, 1) := by decide +kernel
theorem dX4_moveForward_23 : decode cX4_moveForward 23 = .ok (.iload_n 1, 1) := by decide +kernel
theorem dX4_moveForward_24 : decode cX4_moveForward 24 = .ok (.invokevirtual 120, 3) := by decide +kernel
theorem dX4_moveForward_27 : decode cX4_moveForward 27 = .ok (.istore_n 3, 1) := by decide +kernel
theorem dX4_moveForward_28 : decode cX4_moveForward 28 = .ok (.iload_n 3, 1) := by decide +kernel
theorem dX4_moveForward_29 : decode cX4_moveForward 29 = .ok (.aload_n 0, 1) := by decide +kernel
theorem dX4_moveForward_30 : decode cX4_moveForward 30 = .ok (.getfield 38, 3) := by decide +kernel
theorem dX4_moveForward_33 : decode cX4_moveForward 33 = .ok (.if_icmp .le 55, 3) := by decide +kernel
theorem dX4_moveForward_36 : decode cX4_moveForward 36 = .ok (.aload_n 0, 1) := by decide +kernel
theorem dX4_moveForward_37 : decode cX4_moveForward 37 = .ok (.getfield 20, 3) := by decide +kernel
theorem dX4_moveForward_40 : decode cX4_moveForward 40 = .ok (.aload_n 0, 1) := by decide +kernel
theorem dX4_moveForward_41 : decode cX4_moveForward 41 = .ok (.getfield 23, 3) := by decide +kernel
theorem dX4_moveForward_44 : decode cX4_moveForward 44 = .ok (.iload_n 3, 1) := by decide +kernel
theorem dX4_moveForward_45 : decode cX4_moveForward 45 = .ok (.iconst 1, 1) := by decide +kernel
theorem dX4_moveForward_46 : decode cX4_moveForward 46 = .ok (.isub, 1) := by decide +kernel
theorem dX4_moveForward_47 : decode cX4_moveForward 47 = .ok (.invokevirtual 45, 3) := by decide +kernel
theorem dX4_moveForward_50 : decode cX4_moveForward 50 = .ok (.invokevirtual 45, 3) := by decide +kernel
theorem dX4_moveForward_53 : decode cX4_moveForward 53 = .ok (.aload_n 0, 1) := by decide +kernel
theorem dX4_moveForward_54 : decode cX4_moveForward 54 = .ok (.getfield 20, 3) := by decide +kernel
theorem dX4_moveForward_57 : decode cX4_moveForward 57 = .ok (.iload_n 1, 1) := by decide +kernel
theorem dX4_moveForward_58 : decode cX4_moveForward 58 = .ok (.invokevirtual 45, 3) := by decide +kernel
theorem dX4_moveForward_61 : decode cX4_moveForward 61 = .ok (.if_icmp .le 27, 3) := by decide +kernel
theorem dX4_moveForward_64 : decode cX4_moveForward 64 = .ok (.aload_n 0, 1) := by decide +kernel
theorem dX4_moveForward_65 : decode cX4_moveForward 65 = .ok (.getfield 23, 3) := by decide +kernel
theorem dX4_moveForward_68 : decode cX4_moveForward 68 = .ok (.iload_n 3, 1) := by decide +kernel
theorem dX4_moveForward_69 : decode cX4_moveForward 69 = .ok (.aload_n 0, 1) := by decide +kernel
theorem dX4_moveForward_70 : decode cX4_moveForward 70 = .ok (.getfield 23, 3) := by decide +kernel
theorem dX4_moveForward_73 : decode cX4_moveForward 73 = .ok (.iload_n 3, 1) := by decide +kernel
theorem dX4_moveForward_74 : decode cX4_moveForward 74 = .ok (.iconst 1, 1) := by decide +kernel
theorem dX4_moveForward_75 : decode cX4_moveForward 75 = .ok (.isub, 1) := by decide +kernel
theorem dX4_moveForward_76 : decode cX4_moveForward 76 = .ok (.invokevirtual 45, 3) := by decide +kernel
theorem dX4_moveForward_79 : decode cX4_moveForward 79 = .ok (.invokevirtual 75, 3) := by decide +kernel
theorem dX4_moveForward_82 : decode cX4_moveForward 82 = .ok (.iinc 3 (-1), 3) := by decide +kernel
theorem dX4_moveForward_85 : decode cX4_moveForward 85 = .ok (.goto (-57), 3) := by decide +kernel
theorem dX4_moveForward_88 : decode cX4_moveForward 88 = .ok (.aload_n 0, 1) := by decide +kernel
theorem dX4_moveForward_89 : decode cX4_moveForward 89 = .ok (.getfield 23, 3) := by decide +kernel
theorem dX4_moveForward_92 : decode cX4_moveForward 92 = .ok (.iload_n 3, 1) := by decide +kernel
theorem dX4_moveForward_93 : decode cX4_moveForward 93 = .ok (.iload_n 1, 1) := by decide +kernel
theorem dX4_moveForward_94 : decode cX4_moveForward 94 = .ok (.invokevirtual 75, 3) := by decide +kernel
theorem dX4_moveForward_97 : decode cX4_moveForward 97 = .ok (.return_, 1) := by decide +kernel
theorem dX4_placeInQueue_0 : decode cX4_placeInQueue 0 = .ok (.aload_n 0, 1) := by decide +kernel
theorem dX4_placeInQueue_1 : decode cX4_placeInQueue 1 = .ok (.getfield 38, 3) := by decide +kernel
theorem dX4_placeInQueue_4 : decode cX4_placeInQueue 4 = .ok (.istore_n 2, 1) := by decide +kernel
theorem dX4_placeInQueue_5 : decode cX4_placeInQueue 5 = .ok (.iload_n 2, 1) := by decide +kernel
theorem dX4_placeInQueue_6 : decode cX4_placeInQueue 6 = .ok (.aload_n 0, 1) := by decide +kernel
theorem dX4_placeInQueue_7 : decode cX4_placeInQueue 7 = .ok (.getfield 42, 3) := by decide +kernel
theorem dX4_placeInQueue_10 : decode cX4_placeInQueue 10 = .ok (.if_icmp .ge 21, 3) := by decide +kernel
theorem dX4_placeInQueue_13 : decode cX4_placeInQueue 13 = .ok (.aload_n 0, 1) := by decide +kernel
theorem dX4_placeInQueue_14 : decode cX4_placeInQueue 14 = .ok (.getfield 23, 3) := by decide +kernel
theorem dX4_placeInQueue_17 : decode cX4_placeInQueue 17 = .ok (.iload_n 2, 1) := by decide +kernel
theorem dX4_placeInQueue_18 : decode cX4_placeInQueue 18 = .ok (.invokevirtual 45, 3) := by decide +kernel
theorem dX4_placeInQueue_21 : decode cX4_placeInQueue 21 = .ok (.iload_n 1, 1) := by decide +kernel
theorem dX4_placeInQueue_22 : decode cX4_placeInQueue 22 = .ok (.if_icmp .eq 9, 3) := by decide +kernel
theorem dX4_placeInQueue_25 : decode cX4_placeInQueue 25 = .ok (.iinc 2 1, 3) := by decide +kernel
theorem dX4_placeInQueue_28 : decode cX4_placeInQueue 28 = .ok (.goto (-23), 3) := by decide +kernel
theorem dX4_placeInQueue_31 : decode cX4_placeInQueue 31 = .ok (.iload_n 2, 1) := by decide +kernel
theorem dX4_placeInQueue_32 : decode cX4_placeInQueue 32 = .ok (.ireturn, 1) := by decide +kernel
theorem dX5_init_0 : decode cX5_init 0 = .ok (.aload_n 0, 1) := by decide +kernel
theorem dX5_init_1 : decode cX5_init 1 = .ok (.invokespecial 3, 3) := by decide +kernel
theorem dX5_init_4 : decode cX5_init 4 = .ok (.aload_n 0, 1) := by decide +kernel
theorem dX5_init_5 : decode cX5_init 5 = .ok (.new 9, 3) := by decide +kernel
theorem dX5_init_8 : decode cX5_init 8 = .ok (.dup, 1) := by decide +kernel
theorem dX5_init_9 : decode cX5_init 9 = .ok (.bipush 64, 2) := by decide +kernel
theorem dX5_init_11 : decode cX5_init 11 = .ok (.invokespecial 13, 3) := by decide +kernel
theorem dX5_init_14 : decode cX5_init 14 = .ok (.putfield 16, 3) := by decide +kernel
theorem dX5_init_17 : decode cX5_init 17 = .ok (.return_, 1) := by decide +kernel
theorem dX5_clear_0 : decode cX5_clear 0 = .ok (.aload_n 0, 1) := by decide +kernel
theorem dX5_clear_1 : decode cX5_clear 1 = .ok (.iconst 0, 1) := by decide +kernel
theorem dX5_clear_2 : decode cX5_clear 2 = .ok (.putfield 20, 3) := by decide +kernel
theorem dX5_clear_5 : decode cX5_clear 5 = .ok (.return_, 1) := by decide +kernel
theorem dX5_at_0 : decode cX5_at 0 = .ok (.iload_n 1, 1) := by decide +kernel
theorem dX5_at_1 : decode cX5_at 1 = .ok (.aload_n 0, 1) := by decide +kernel
theorem dX5_at_2 : decode cX5_at 2 = .ok (.getfield 20, 3) := by decide +kernel
theorem dX5_at_5 : decode cX5_at 5 = .ok (.if_icmp .ge 15, 3) := by decide +kernel
theorem dX5_at_8 : decode cX5_at 8 = .ok (.aload_n 0, 1) := by decide +kernel
theorem dX5_at_9 : decode cX5_at 9 = .ok (.getfield 16, 3) := by decide +kernel
theorem dX5_at_12 : decode cX5_at 12 = .ok (.iload_n 1, 1) := by decide +kernel
theorem dX5_at_13 : decode cX5_at 13 = .ok (.invokevirtual 24, 3) := by decide +kernel
theorem dX5_at_16 : decode cX5_at 16 = .ok (.i2c, 1) := by decide +kernel
theorem dX5_at_17 : decode cX5_at 17 = .ok (.goto 4, 3) := by decide +kernel
theorem dX5_at_20 : decode cX5_at 20 = .ok (.iconst 0, 1) := by decide +kernel
theorem dX5_at_21 : decode cX5_at 21 = .ok (.ireturn, 1) := by decide +kernel
theorem dX5_append_0 : decode cX5_append 0 = .ok (.aload_n 0, 1) := by decide +kernel
theorem dX5_append_1 : decode cX5_append 1 = .ok (.aload_n 0, 1) := by decide +kernel
theorem dX5_append_2 : decode cX5_append 2 = .ok (.getfield 20, 3) := by decide +kernel
theorem dX5_append_5 : decode cX5_append 5 = .ok (.iload_n 1, 1) := by decide +kernel
theorem dX5_append_6 : decode cX5_append 6 = .ok (.invokevirtual 28, 3) := by decide +kernel
theorem dX5_append_9 : decode cX5_append 9 = .ok (.return_, 1) := by decide +kernel
theorem dX5_appendFormula_0 : decode cX5_appendFormula 0 = .ok (.aload_n 1, 1) := by decide +kernel
theorem dX5_appendFormula_1 : decode cX5_appendFormula 1 = .ok (.iload_n 2, 1) := by decide +kernel
theorem dX5_appendFormula_2 : decode cX5_appendFormula 2 = .ok (.invokevirtual 32, 3) := by decide +kernel
theorem dX5_appendFormula_5 : decode cX5_appendFormula 5 = .ok (.istore_n 3, 1) := by decide +kernel
theorem dX5_appendFormula_6 : decode cX5_appendFormula 6 = .ok (.iconst 0, 1) := by decide +kernel
theorem dX5_appendFormula_7 : decode cX5_appendFormula 7 = .ok (.istore 4, 2) := by decide +kernel
theorem dX5_appendFormula_9 : decode cX5_appendFormula 9 = .ok (.iload 4, 2) := by decide +kernel
theorem dX5_appendFormula_11 : decode cX5_appendFormula 11 = .ok (.iload_n 3, 1) := by decide +kernel
theorem dX5_appendFormula_12 : decode cX5_appendFormula 12 = .ok (.if_icmp .ge 20, 3) := by decide +kernel
theorem dX5_appendFormula_15 : decode cX5_appendFormula 15 = .ok (.aload_n 0, 1) := by decide +kernel
theorem dX5_appendFormula_16 : decode cX5_appendFormula 16 = .ok (.aload_n 1, 1) := by decide +kernel
theorem dX5_appendFormula_17 : decode cX5_appendFormula 17 = .ok (.iload_n 2, 1) := by decide +kernel
theorem dX5_appendFormula_18 : decode cX5_appendFormula 18 = .ok (.iload 4, 2) := by decide +kernel
theorem dX5_appendFormula_20 : decode cX5_appendFormula 20 = .ok (.invokevirtual 37, 3) := by decide +kernel
theorem dX5_appendFormula_23 : decode cX5_appendFormula 23 = .ok (.invokevirtual 41, 3) := by decide +kernel
theorem dX5_appendFormula_26 : decode cX5_appendFormula 26 = .ok (.iinc 4 1, 3) := by decide +kernel
theorem dX5_appendFormula_29 : decode cX5_appendFormula 29 = .ok (.goto (-20), 3) := by decide +kernel
theorem dX5_appendFormula_32 : decode cX5_appendFormula 32 = .ok (.return_, 1) := by decide +kernel
theorem dX5_copy_0 : decode cX5_copy 0 = .ok (.aload_n 0, 1) := by decide +kernel
theorem dX5_copy_1 : decode cX5_copy 1 = .ok (.invokevirtual 45, 3) := by decide +kernel
theorem dX5_copy_4 : decode cX5_copy 4 = .ok (.aload_n 0, 1) := by decide +kernel
theorem dX5_copy_5 : decode cX5_copy 5 = .ok (.aload_n 1, 1) := by decide +kernel
theorem dX5_copy_6 : decode cX5_copy 6 = .ok (.iload_n 2, 1) := by decide +kernel
theorem dX5_copy_7 : decode cX5_copy 7 = .ok (.invokevirtual 48, 3) := by decide +kernel
theorem dX5_copy_10 : decode cX5_copy 10 = .ok (.return_, 1) := by decide +kernel
theorem dX5_step_0 : decode cX5_step 0 = .ok (.iconst 0, 1) := by decide +kernel
theorem dX5_step_1 : decode cX5_step 1 = .ok (.istore_n 1, 1) := by decide +kernel
theorem dX5_step_2 : decode cX5_step 2 = .ok (.iload_n 1, 1) := by decide +kernel
theorem dX5_step_3 : decode cX5_step 3 = .ok (.aload_n 0, 1) := by decide +kernel
theorem dX5_step_4 : decode cX5_step 4 = .ok (.getfield 20, 3) := by decide +kernel
theorem dX5_step_7 : decode cX5_step 7 = .ok (.if_icmp .ge 99, 3) := by decide +kernel
theorem dX5_step_10 : decode cX5_step 10 = .ok (.aload_n 0, 1) := by decide +kernel
theorem dX5_step_11 : decode cX5_step 11 = .ok (.iload_n 1, 1) := by decide +kernel
theorem dX5_step_12 : decode cX5_step 12 = .ok (.invokevirtual 52, 3) := by decide +kernel
theorem dX5_step_15 : decode cX5_step 15 = .ok (.istore_n 2, 1) := by decide +kernel
theorem dX5_step_16 : decode cX5_step 16 = .ok (.aload_n 0, 1) := by decide +kernel
theorem dX5_step_17 : decode cX5_step 17 = .ok (.iload_n 1, 1) := by decide +kernel
theorem dX5_step_18 : decode cX5_step 18 = .ok (.iconst 1, 1) := by decide +kernel
theorem dX5_step_19 : decode cX5_step 19 = .ok (.iadd, 1) := by decide +kernel
theorem dX5_step_20 : decode cX5_step 20 = .ok (.invokevirtual 52, 3) := by decide +kernel
theorem dX5_step_23 : decode cX5_step 23 = .ok (.istore_n 3, 1) := by decide +kernel
theorem dX5_step_24 : decode cX5_step 24 = .ok (.iload_n 2, 1) := by decide +kernel
theorem dX5_step_25 : decode cX5_step 25 = .ok (.bipush 67, 2) := by decide +kernel
theorem dX5_step_27 : decode cX5_step 27 = .ok (.if_icmp .ne 24, 3) := by decide +kernel
theorem dX5_step_30 : decode cX5_step 30 = .ok (.aload_n 0, 1) := by decide +kernel
theorem dX5_step_31 : decode cX5_step 31 = .ok (.getfield 16, 3) := by decide +kernel
theorem dX5_step_34 : decode cX5_step 34 = .ok (.iload_n 1, 1) := by decide +kernel
theorem dX5_step_35 : decode cX5_step 35 = .ok (.bipush 65, 2) := by decide +kernel
theorem dX5_step_37 : decode cX5_step 37 = .ok (.invokevirtual 55, 3) := by decide +kernel
theorem dX5_step_40 : decode cX5_step 40 = .ok (.aload_n 0, 1) := by decide +kernel
theorem dX5_step_41 : decode cX5_step 41 = .ok (.iload_n 1, 1) := by decide +kernel
theorem dX5_step_42 : decode cX5_step 42 = .ok (.iconst 1, 1) := by decide +kernel
theorem dX5_step_43 : decode cX5_step 43 = .ok (.iadd, 1) := by decide +kernel
theorem dX5_step_44 : decode cX5_step 44 = .ok (.bipush 78, 2) := by decide +kernel
theorem dX5_step_46 : decode cX5_step 46 = .ok (.invokevirtual 28, 3) := by decide +kernel
theorem dX5_step_49 : decode cX5_step 49 = .ok (.iconst 1, 1) := by decide +kernel
theorem dX5_step_50 : decode cX5_step 50 = .ok (.ireturn, 1) := by decide +kernel
theorem dX5_step_51 : decode cX5_step 51 = .ok (.iload_n 2, 1) := by decide +kernel
theorem dX5_step_52 : decode cX5_step 52 = .ok (.bipush 78, 2) := by decide +kernel
theorem dX5_step_54 : decode cX5_step 54 = .ok (.if_icmp .ne 21, 3) := by decide +kernel
theorem dX5_step_57 : decode cX5_step 57 = .ok (.iload_n 3, 1) := by decide +kernel
theorem dX5_step_58 : decode cX5_step 58 = .ok (.bipush 78, 2) := by decide +kernel
theorem dX5_step_60 : decode cX5_step 60 = .ok (.if_icmp .ne 15, 3) := by decide +kernel
theorem dX5_step_63 : decode cX5_step 63 = .ok (.aload_n 0, 1) := by decide +kernel
theorem dX5_step_64 : decode cX5_step 64 = .ok (.iload_n 1, 1) := by decide +kernel
theorem dX5_step_65 : decode cX5_step 65 = .ok (.invokevirtual 59, 3) := by decide +kernel
theorem dX5_step_68 : decode cX5_step 68 = .ok (.aload_n 0, 1) := by decide +kernel
theorem dX5_step_69 : decode cX5_step 69 = .ok (.iload_n 1, 1) := by decide +kernel
theorem dX5_step_70 : decode cX5_step 70 = .ok (.invokevirtual 59, 3) := by decide +kernel
theorem dX5_step_73 : decode cX5_step 73 = .ok (.iconst 1, 1) := by decide +kernel
theorem dX5_step_74 : decode cX5_step 74 = .ok (.ireturn, 1) := by decide +kernel
theorem dX5_step_75 : decode cX5_step 75 = .ok (.iload_n 2, 1) := by decide +kernel
theorem dX5_step_76 : decode cX5_step 76 = .ok (.bipush 78, 2) := by decide +kernel
theorem dX5_step_78 : decode cX5_step 78 = .ok (.if_icmp .ne 22, 3) := by decide +kernel
theorem dX5_step_81 : decode cX5_step 81 = .ok (.iload_n 3, 1) := by decide +kernel
theorem dX5_step_82 : decode cX5_step 82 = .ok (.bipush 75, 2) := by decide +kernel
theorem dX5_step_84 : decode cX5_step 84 = .ok (.if_icmp .eq 9, 3) := by decide +kernel
theorem dX5_step_87 : decode cX5_step 87 = .ok (.iload_n 3, 1) := by decide +kernel
theorem dX5_step_88 : decode cX5_step 88 = .ok (.bipush 65, 2) := by decide +kernel
theorem dX5_step_90 : decode cX5_step 90 = .ok (.if_icmp .ne 10, 3) := by decide +kernel
theorem dX5_step_93 : decode cX5_step 93 = .ok (.aload_n 0, 1) := by decide +kernel
theorem dX5_step_94 : decode cX5_step 94 = .ok (.iload_n 1, 1) := by decide +kernel
theorem dX5_step_95 : decode cX5_step 95 = .ok (.invokevirtual 62, 3) := by decide +kernel
theorem dX5_step_98 : decode cX5_step 98 = .ok (.iconst 1, 1) := by decide +kernel
theorem dX5_step_99 : decode cX5_step 99 = .ok (.ireturn, 1) := by decide +kernel
theorem dX5_step_100 : decode cX5_step 100 = .ok (.iinc 1 1, 3) := by decide +kernel
theorem dX5_step_103 : decode cX5_step 103 = .ok (.goto (-101), 3) := by decide +kernel
theorem dX5_step_106 : decode cX5_step 106 = .ok (.iconst 0, 1) := by decide +kernel
theorem dX5_step_107 : decode cX5_step 107 = .ok (.ireturn, 1) := by decide +kernel
theorem dX5_stepToEnd_0 : decode cX5_stepToEnd 0 = .ok (.iconst 0, 1) := by decide +kernel
theorem dX5_stepToEnd_1 : decode cX5_stepToEnd 1 = .ok (.istore_n 1, 1) := by decide +kernel
theorem dX5_stepToEnd_2 : decode cX5_stepToEnd 2 = .ok (.iload_n 1, 1) := by decide +kernel
theorem dX5_stepToEnd_3 : decode cX5_stepToEnd 3 = .ok (.sipush 1000, 3) := by decide +kernel
theorem dX5_stepToEnd_6 : decode cX5_stepToEnd 6 = .ok (.if_icmp .ge 16, 3) := by decide +kernel
theorem dX5_stepToEnd_9 : decode cX5_stepToEnd 9 = .ok (.aload_n 0, 1) := by decide +kernel
theorem dX5_stepToEnd_10 : decode cX5_stepToEnd 10 = .ok (.invokevirtual 65, 3) := by decide +kernel
theorem dX5_stepToEnd_13 : decode cX5_stepToEnd 13 = .ok (.ifCond .eq 9, 3) := by decide +kernel
theorem dX5_stepToEnd_16 : decode cX5_stepToEnd 16 = .ok (.iinc 1 1, 3) := by decide +kernel
theorem dX5_stepToEnd_19 : decode cX5_stepToEnd 19 = .ok (.goto (-17), 3) := by decide +kernel
theorem dX5_stepToEnd_22 : decode cX5_stepToEnd 22 = .ok (.iload_n 1, 1) := by decide +kernel
theorem dX5_stepToEnd_23 : decode cX5_stepToEnd 23 = .ok (.ireturn, 1) := by decide +kernel
theorem dX5_moveNegationInward_0 : decode cX5_moveNegationInward 0 = .ok (.aload_n 0, 1) := by decide +kernel
theorem dX5_moveNegationInward_1 : decode cX5_moveNegationInward 1 = .ok (.getfield 16, 3) := by decide +kernel
theorem dX5_moveNegationInward_4 : decode cX5_moveNegationInward 4 = .ok (.iload_n 1, 1) := by decide +kernel
theorem dX5_moveNegationInward_5 : decode cX5_moveNegationInward 5 = .ok (.aload_n 0, 1) := by decide +kernel
theorem dX5_moveNegationInward_6 : decode cX5_moveNegationInward 6 = .ok (.iload_n 1, 1) := by decide +kernel
theorem dX5_moveNegationInward_7 : decode cX5_moveNegationInward 7 = .ok (.iconst 1, 1) := by decide +kernel
theorem dX5_moveNegationInward_8 : decode cX5_moveNegationInward 8 = .ok (.iadd, 1) := by decide +kernel
theorem dX5_moveNegationInward_9 : decode cX5_moveNegationInward 9 = .ok (.invokevirtual 52, 3) := by decide +kernel
theorem dX5_moveNegationInward_12 : decode cX5_moveNegationInward 12 = .ok (.bipush 75, 2) := by decide +kernel
theorem dX5_moveNegationInward_14 : decode cX5_moveNegationInward 14 = .ok (.if_icmp .ne 8, 3) := by decide +kernel
theorem dX5_moveNegationInward_17 : decode cX5_moveNegationInward 17 = .ok (.bipush 65, 2) := by decide +kernel
theorem dX5_moveNegationInward_19 : decode cX5_moveNegationInward 19 = .ok (.goto 5, 3) := by decide +kernel
theorem dX5_moveNegationInward_22 : decode cX5_moveNegationInward 22 = .ok (.bipush 75, 2) := by decide +kernel
theorem dX5_moveNegationInward_24 : decode cX5_moveNegationInward 24 = .ok (.invokevirtual 55, 3) := by decide +kernel
theorem dX5_moveNegationInward_27 : decode cX5_moveNegationInward 27 = .ok (.aload_n 0, 1) := by decide +kernel
theorem dX5_moveNegationInward_28 : decode cX5_moveNegationInward 28 = .ok (.getfield 16, 3) := by decide +kernel
theorem dX5_moveNegationInward_31 : decode cX5_moveNegationInward 31 = .ok (.iload_n 1, 1) := by decide +kernel
theorem dX5_moveNegationInward_32 : decode cX5_moveNegationInward 32 = .ok (.iconst 1, 1) := by decide +kernel
theorem dX5_moveNegationInward_33 : decode cX5_moveNegationInward 33 = .ok (.iadd, 1) := by decide +kernel
theorem dX5_moveNegationInward_34 : decode cX5_moveNegationInward 34 = .ok (.bipush 78, 2) := by decide +kernel
theorem dX5_moveNegationInward_36 : decode cX5_moveNegationInward 36 = .ok (.invokevirtual 55, 3) := by decide +kernel
theorem dX5_moveNegationInward_39 : decode cX5_moveNegationInward 39 = .ok (.aload_n 0, 1) := by decide +kernel
theorem dX5_moveNegationInward_40 : decode cX5_moveNegationInward 40 = .ok (.aload_n 0, 1) := by decide +kernel
theorem dX5_moveNegationInward_41 : decode cX5_moveNegationInward 41 = .ok (.iload_n 1, 1) := by decide +kernel
theorem dX5_moveNegationInward_42 : decode cX5_moveNegationInward 42 = .ok (.iconst 2, 1) := by decide +kernel
theorem dX5_moveNegationInward_43 : decode cX5_moveNegationInward 43 = .ok (.iadd, 1) := by decide +kernel
theorem dX5_moveNegationInward_44 : decode cX5_moveNegationInward 44 = .ok (.invokevirtual 69, 3) := by decide +kernel
theorem dX5_moveNegationInward_47 : decode cX5_moveNegationInward 47 = .ok (.bipush 78, 2) := by decide +kernel
theorem dX5_moveNegationInward_49 : decode cX5_moveNegationInward 49 = .ok (.invokevirtual 28, 3) := by decide +kernel
theorem dX5_moveNegationInward_52 : decode cX5_moveNegationInward 52 = .ok (.return_, 1) := by decide +kernel
theorem dX5_endOf_0 : decode cX5_endOf 0 = .ok (.iconst 1, 1) := by decide +kernel
theorem dX5_endOf_1 : decode cX5_endOf 1 = .ok (.istore_n 2, 1) := by decide +kernel
theorem dX5_endOf_2 : decode cX5_endOf 2 = .ok (.iload_n 1, 1) := by decide +kernel
theorem dX5_endOf_3 : decode cX5_endOf 3 = .ok (.istore_n 3, 1) := by decide +kernel
theorem dX5_endOf_4 : decode cX5_endOf 4 = .ok (.iload_n 2, 1) := by decide +kernel
theorem dX5_endOf_5 : decode cX5_endOf 5 = .ok (.ifCond .le 48, 3) := by decide +kernel
theorem dX5_endOf_8 : decode cX5_endOf 8 = .ok (.iload_n 3, 1) := by decide +kernel
theorem dX5_endOf_9 : decode cX5_endOf 9 = .ok (.aload_n 0, 1) := by decide +kernel
theorem dX5_endOf_10 : decode cX5_endOf 10 = .ok (.getfield 20, 3) := by decide +kernel
theorem dX5_endOf_13 : decode cX5_endOf 13 = .ok (.if_icmp .ge 40, 3) := by decide +kernel
theorem dX5_endOf_16 : decode cX5_endOf 16 = .ok (.aload_n 0, 1) := by decide +kernel
theorem dX5_endOf_17 : decode cX5_endOf 17 = .ok (.iload_n 3, 1) := by decide +kernel
theorem dX5_endOf_18 : decode cX5_endOf 18 = .ok (.invokevirtual 52, 3) := by decide +kernel
theorem dX5_endOf_21 : decode cX5_endOf 21 = .ok (.istore 4, 2) := by decide +kernel
theorem dX5_endOf_23 : decode cX5_endOf 23 = .ok (.iload 4, 2) := by decide +kernel
theorem dX5_endOf_25 : decode cX5_endOf 25 = .ok (.invokestatic 72, 3) := by decide +kernel
theorem dX5_endOf_28 : decode cX5_endOf 28 = .ok (.ifCond .eq 9, 3) := by decide +kernel
theorem dX5_endOf_31 : decode cX5_endOf 31 = .ok (.iinc 2 (-1), 3) := by decide +kernel
theorem dX5_endOf_34 : decode cX5_endOf 34 = .ok (.goto 13, 3) := by decide +kernel
theorem dX5_endOf_37 : decode cX5_endOf 37 = .ok (.iload 4, 2) := by decide +kernel
theorem dX5_endOf_39 : decode cX5_endOf 39 = .ok (.bipush 78, 2) := by decide +kernel
theorem dX5_endOf_41 : decode cX5_endOf 41 = .ok (.if_icmp .eq 6, 3) := by decide +kernel
theorem dX5_endOf_44 : decode cX5_endOf 44 = .ok (.iinc 2 1, 3) := by decide +kernel
theorem dX5_endOf_47 : decode cX5_endOf 47 = .ok (.iinc 3 1, 3) := by decide +kernel
theorem dX5_endOf_50 : decode cX5_endOf 50 = .ok (.goto (-46), 3) := by decide +kernel
theorem dX5_endOf_53 : decode cX5_endOf 53 = .ok (.iload_n 3, 1) := by decide +kernel
theorem dX5_endOf_54 : decode cX5_endOf 54 = .ok (.ireturn, 1) := by decide +kernel
theorem dX5_insert_0 : decode cX5_insert 0 = .ok (.aload_n 0, 1) := by decide +kernel
theorem dX5_insert_1 : decode cX5_insert 1 = .ok (.getfield 20, 3) := by decide +kernel
theorem dX5_insert_4 : decode cX5_insert 4 = .ok (.bipush 64, 2) := by decide +kernel
theorem dX5_insert_6 : decode cX5_insert 6 = .ok (.if_icmp .ge 56, 3) := by decide +kernel
theorem dX5_insert_9 : decode cX5_insert 9 = .ok (.aload_n 0, 1) := by decide +kernel
theorem dX5_insert_10 : decode cX5_insert 10 = .ok (.getfield 20, 3) := by decide +kernel
theorem dX5_insert_13 : decode cX5_insert 13 = .ok (.istore_n 3, 1) := by decide +kernel
theorem dX5_insert_14 : decode cX5_insert 14 = .ok (.iload_n 3, 1) := by decide +kernel
theorem dX5_insert_15 : decode cX5_insert 15 = .ok (.iload_n 1, 1) := by decide +kernel
theorem dX5_insert_16 : decode cX5_insert 16 = .ok (.if_icmp .le 27, 3) := by decide +kernel
theorem dX5_insert_19 : decode cX5_insert 19 = .ok (.aload_n 0, 1) := by decide +kernel
theorem dX5_insert_20 : decode cX5_insert 20 = .ok (.getfield 16, 3) := by decide +kernel
theorem dX5_insert_23 : decode cX5_insert 23 = .ok (.iload_n 3, 1) := by decide +kernel
theorem dX5_insert_24 : decode cX5_insert 24 = .ok (.aload_n 0, 1) := by decide +kernel
theorem dX5_insert_25 : decode cX5_insert 25 = .ok (.getfield 16, 3) := by decide +kernel
theorem dX5_insert_28 : decode cX5_insert 28 = .ok (.iload_n 3, 1) := by decide +kernel
theorem dX5_insert_29 : decode cX5_insert 29 = .ok (.iconst 1, 1) := by decide +kernel
theorem dX5_insert_30 : decode cX5_insert 30 = .ok (.isub, 1) := by decide +kernel
theorem dX5_insert_31 : decode cX5_insert 31 = .ok (.invokevirtual 24, 3) := by decide +kernel
theorem dX5_insert_34 : decode cX5_insert 34 = .ok (.invokevirtual 55, 3) := by decide +kernel
theorem dX5_insert_37 : decode cX5_insert 37 = .ok (.iinc 3 (-1), 3) := by decide +kernel
theorem dX5_insert_40 : decode cX5_insert 40 = .ok (.goto (-26), 3) := by decide +kernel
theorem dX5_insert_43 : decode cX5_insert 43 = .ok (.aload_n 0, 1) := by decide +kernel
theorem dX5_insert_44 : decode cX5_insert 44 = .ok (.getfield 16, 3) := by decide +kernel
theorem dX5_insert_47 : decode cX5_insert 47 = .ok (.iload_n 1, 1) := by decide +kernel
theorem dX5_insert_48 : decode cX5_insert 48 = .ok (.iload_n 2, 1) := by decide +kernel
theorem dX5_insert_49 : decode cX5_insert 49 = .ok (.invokevirtual 55, 3) := by decide +kernel
theorem dX5_insert_52 : decode cX5_insert 52 = .ok (.aload_n 0, 1) := by decide +kernel
theorem dX5_insert_53 : decode cX5_insert 53 = .ok (.dup, 1) := by decide +kernel
theorem dX5_insert_54 : decode cX5_insert 54 = .ok (.getfield 20, 3) := by decide +kernel
theorem dX5_insert_57 : decode cX5_insert 57 = .ok (.iconst 1, 1) := by decide +kernel
theorem dX5_insert_58 : decode cX5_insert 58 = .ok (.iadd, 1) := by decide +kernel
theorem dX5_insert_59 : decode cX5_insert 59 = .ok (.putfield 20, 3) := by decide +kernel
theorem dX5_insert_62 : decode cX5_insert 62 = .ok (.return_, 1) := by decide +kernel
theorem dX5_remove_0 : decode cX5_remove 0 = .ok (.iload_n 1, 1) := by decide +kernel
theorem dX5_remove_1 : decode cX5_remove 1 = .ok (.istore_n 2, 1) := by decide +kernel
theorem dX5_remove_2 : decode cX5_remove 2 = .ok (.iload_n 2, 1) := by decide +kernel
theorem dX5_remove_3 : decode cX5_remove 3 = .ok (.aload_n 0, 1) := by decide +kernel
theorem dX5_remove_4 : decode cX5_remove 4 = .ok (.getfield 20, 3) := by decide +kernel
theorem dX5_remove_7 : decode cX5_remove 7 = .ok (.iconst 1, 1) := by decide +kernel
theorem dX5_remove_8 : decode cX5_remove 8 = .ok (.isub, 1) := by decide +kernel
theorem dX5_remove_9 : decode cX5_remove 9 = .ok (.if_icmp .ge 27, 3) := by decide +kernel
theorem dX5_remove_12 : decode cX5_remove 12 = .ok (.aload_n 0, 1) := by decide +kernel
theorem dX5_remove_13 : decode cX5_remove 13 = .ok (.getfield 16, 3) := by decide +kernel
theorem dX5_remove_16 : decode cX5_remove 16 = .ok (.iload_n 2, 1) := by decide +kernel
theorem dX5_remove_17 : decode cX5_remove 17 = .ok (.aload_n 0, 1) := by decide +kernel
theorem dX5_remove_18 : decode cX5_remove 18 = .ok (.getfield 16, 3) := by decide +kernel
theorem dX5_remove_21 : decode cX5_remove 21 = .ok (.iload_n 2, 1) := by decide +kernel
theorem dX5_remove_22 : decode cX5_remove 22 = .ok (.iconst 1, 1) := by decide +kernel
theorem dX5_remove_23 : decode cX5_remove 23 = .ok (.iadd, 1) := by decide +kernel
theorem dX5_remove_24 : decode cX5_remove 24 = .ok (.invokevirtual 24, 3) := by decide +kernel
theorem dX5_remove_27 : decode cX5_remove 27 = .ok (.invokevirtual 55, 3) := by decide +kernel
theorem dX5_remove_30 : decode cX5_remove 30 = .ok (.iinc 2 1, 3) := by decide +kernel
theorem dX5_remove_33 : decode cX5_remove 33 = .ok (.goto (-31), 3) := by decide +kernel
theorem dX5_remove_36 : decode cX5_remove 36 = .ok (.aload_n 0, 1) := by decide +kernel
theorem dX5_remove_37 : decode cX5_remove 37 = .ok (.dup, 1) := by decide +kernel
theorem dX5_remove_38 : decode cX5_remove 38 = .ok (.getfield 20, 3) := by decide +kernel
theorem dX5_remove_41 : decode cX5_remove 41 = .ok (.iconst 1, 1) := by decide +kernel
theorem dX5_remove_42 : decode cX5_remove 42 = .ok (.isub, 1) := by decide +kernel
theorem dX5_remove_43 : decode cX5_remove 43 = .ok (.putfield 20, 3) := by decide +kernel
theorem dX5_remove_46 : decode cX5_remove 46 = .ok (.return_, 1) := by decide +kernel
theorem dX5_isLetter_0 : decode cX5_isLetter 0 = .ok (.iload_n 0, 1) := by decide +kernel
theorem dX5_isLetter_1 : decode cX5_isLetter 1 = .ok (.bipush 97, 2) := by decide +kernel
theorem dX5_isLetter_3 : decode cX5_isLetter 3 = .ok (.if_icmp .lt 13, 3) := by decide +kernel
theorem dX5_isLetter_6 : decode cX5_isLetter 6 = .ok (.iload_n 0, 1) := by decide +kernel
theorem dX5_isLetter_7 : decode cX5_isLetter 7 = .ok (.bipush 102, 2) := by decide +kernel
theorem dX5_isLetter_9 : decode cX5_isLetter 9 = .ok (.if_icmp .ge 7, 3) := by decide +kernel
theorem dX5_isLetter_12 : decode cX5_isLetter 12 = .ok (.iconst 1, 1) := by decide +kernel
theorem dX5_isLetter_13 : decode cX5_isLetter 13 = .ok (.goto 4, 3) := by decide +kernel
theorem dX5_isLetter_16 : decode cX5_isLetter 16 = .ok (.iconst 0, 1) := by decide +kernel
theorem dX5_isLetter_17 : decode cX5_isLetter 17 = .ok (.ireturn, 1) := by decide +kernel
theorem dX5_isLeaf_0 : decode cX5_isLeaf 0 = .ok (.iload_n 0, 1) := by decide +kernel
theorem dX5_isLeaf_1 : decode cX5_isLeaf 1 = .ok (.bipush 70, 2) := by decide +kernel
theorem dX5_isLeaf_3 : decode cX5_isLeaf 3 = .ok (.if_icmp .eq 10, 3) := by decide +kernel
theorem dX5_isLeaf_6 : decode cX5_isLeaf 6 = .ok (.iload_n 0, 1) := by decide +kernel
theorem dX5_isLeaf_7 : decode cX5_isLeaf 7 = .ok (.invokestatic 76, 3) := by decide +kernel
theorem dX5_isLeaf_10 : decode cX5_isLeaf 10 = .ok (.ifCond .eq 7, 3) := by decide +kernel
theorem dX5_isLeaf_13 : decode cX5_isLeaf 13 = .ok (.iconst 1, 1) := by decide +kernel
theorem dX5_isLeaf_14 : decode cX5_isLeaf 14 = .ok (.goto 4, 3) := by decide +kernel
theorem dX5_isLeaf_17 : decode cX5_isLeaf 17 = .ok (.iconst 0, 1) := by decide +kernel
theorem dX5_isLeaf_18 : decode cX5_isLeaf 18 = .ok (.ireturn, 1) := by decide +kernel
theorem dX6_init_0 : decode cX6_init 0 = .ok (.aload_n 0, 1) := by decide +kernel
theorem dX6_init_1 : decode cX6_init 1 = .ok (.invokespecial 1, 3) := by decide +kernel
theorem dX6_init_4 : decode cX6_init 4 = .ok (.new 7, 3) := by decide +kernel
theorem dX6_init_7 : decode cX6_init 7 = .ok (.dup, 1) := by decide +kernel
theorem dX6_init_8 : decode cX6_init 8 = .ok (.invokespecial 9, 3) := by decide +kernel
theorem dX6_init_11 : decode cX6_init 11 = .ok (.astore_n 1, 1) := by decide +kernel
theorem dX6_init_12 : decode cX6_init 12 = .ok (.new 10, 3) := by decide +kernel
theorem dX6_init_15 : decode cX6_init 15 = .ok (.dup, 1) := by decide +kernel
theorem dX6_init_16 : decode cX6_init 16 = .ok (.aload_n 1, 1) := by decide +kernel
theorem dX6_init_17 : decode cX6_init 17 = .ok (.invokespecial 12, 3) := by decide +kernel
theorem dX6_init_20 : decode cX6_init 20 = .ok (.astore_n 2, 1) := by decide +kernel
theorem dX6_init_21 : decode cX6_init 21 = .ok (.aload_n 0, 1) := by decide +kernel
theorem dX6_init_22 : decode cX6_init 22 = .ok (.aload_n 1, 1) := by decide +kernel
theorem dX6_init_23 : decode cX6_init 23 = .ok (.putfield 15, 3) := by decide +kernel
theorem dX6_init_26 : decode cX6_init 26 = .ok (.aload_n 0, 1) := by decide +kernel
theorem dX6_init_27 : decode cX6_init 27 = .ok (.aload_n 2, 1) := by decide +kernel
theorem dX6_init_28 : decode cX6_init 28 = .ok (.putfield 21, 3) := by decide +kernel
theorem dX6_init_31 : decode cX6_init 31 = .ok (.aload_n 0, 1) := by decide +kernel
theorem dX6_init_32 : decode cX6_init 32 = .ok (.new 25, 3) := by decide +kernel
theorem dX6_init_35 : decode cX6_init 35 = .ok (.dup, 1) := by decide +kernel
theorem dX6_init_36 : decode cX6_init 36 = .ok (.aload_n 1, 1) := by decide +kernel
theorem dX6_init_37 : decode cX6_init 37 = .ok (.invokespecial 27, 3) := by decide +kernel
theorem dX6_init_40 : decode cX6_init 40 = .ok (.putfield 28, 3) := by decide +kernel
theorem dX6_init_43 : decode cX6_init 43 = .ok (.aload_n 0, 1) := by decide +kernel
theorem dX6_init_44 : decode cX6_init 44 = .ok (.new 32, 3) := by decide +kernel
theorem dX6_init_47 : decode cX6_init 47 = .ok (.dup, 1) := by decide +kernel
theorem dX6_init_48 : decode cX6_init 48 = .ok (.aload_n 1, 1) := by decide +kernel
theorem dX6_init_49 : decode cX6_init 49 = .ok (.aload_n 2, 1) := by decide +kernel
theorem dX6_init_50 : decode cX6_init 50 = .ok (.invokespecial 34, 3) := by decide +kernel
theorem dX6_init_53 : decode cX6_init 53 = .ok (.putfield 37, 3) := by decide +kernel
theorem dX6_init_56 : decode cX6_init 56 = .ok (.aload_n 0, 1) := by decide +kernel
theorem dX6_init_57 : decode cX6_init 57 = .ok (.new 41, 3) := by decide +kernel
theorem dX6_init_60 : decode cX6_init 60 = .ok (.dup, 1) := by decide +kernel
theorem dX6_init_61 : decode cX6_init 61 = .ok (.invokespecial 43, 3) := by decide +kernel
theorem dX6_init_64 : decode cX6_init 64 = .ok (.putfield 44, 3) := by decide +kernel
theorem dX6_init_67 : decode cX6_init 67 = .ok (.return_, 1) := by decide +kernel
theorem dX6_letter_0 : decode cX6_letter 0 = .ok (.aload_n 0, 1) := by decide +kernel
theorem dX6_letter_1 : decode cX6_letter 1 = .ok (.iload_n 1, 1) := by decide +kernel
theorem dX6_letter_2 : decode cX6_letter 2 = .ok (.invokevirtual 48, 3) := by decide +kernel
theorem dX6_letter_5 : decode cX6_letter 5 = .ok (.aload_n 0, 1) := by decide +kernel
theorem dX6_letter_6 : decode cX6_letter 6 = .ok (.getfield 15, 3) := by decide +kernel
theorem dX6_letter_9 : decode cX6_letter 9 = .ok (.bipush 97, 2) := by decide +kernel
theorem dX6_letter_11 : decode cX6_letter 11 = .ok (.iload_n 1, 1) := by decide +kernel
theorem dX6_letter_12 : decode cX6_letter 12 = .ok (.iadd, 1) := by decide +kernel
theorem dX6_letter_13 : decode cX6_letter 13 = .ok (.i2c, 1) := by decide +kernel
theorem dX6_letter_14 : decode cX6_letter 14 = .ok (.iconst (-1), 1) := by decide +kernel
theorem dX6_letter_15 : decode cX6_letter 15 = .ok (.iconst (-1), 1) := by decide +kernel
theorem dX6_letter_16 : decode cX6_letter 16 = .ok (.invokevirtual 52, 3) := by decide +kernel
theorem dX6_letter_19 : decode cX6_letter 19 = .ok (.invokestatic 56, 3) := by decide +kernel
theorem dX6_letter_22 : decode cX6_letter 22 = .ok (.ireturn, 1) := by decide +kernel
theorem dX6_falsum_0 : decode cX6_falsum 0 = .ok (.aload_n 0, 1) := by decide +kernel
theorem dX6_falsum_1 : decode cX6_falsum 1 = .ok (.getfield 15, 3) := by decide +kernel
theorem dX6_falsum_4 : decode cX6_falsum 4 = .ok (.bipush 70, 2) := by decide +kernel
theorem dX6_falsum_6 : decode cX6_falsum 6 = .ok (.iconst (-1), 1) := by decide +kernel
theorem dX6_falsum_7 : decode cX6_falsum 7 = .ok (.iconst (-1), 1) := by decide +kernel
theorem dX6_falsum_8 : decode cX6_falsum 8 = .ok (.invokevirtual 52, 3) := by decide +kernel
theorem dX6_falsum_11 : decode cX6_falsum 11 = .ok (.invokestatic 56, 3) := by decide +kernel
theorem dX6_falsum_14 : decode cX6_falsum 14 = .ok (.ireturn, 1) := by decide +kernel
theorem dX6_negation_0 : decode cX6_negation 0 = .ok (.aload_n 0, 1) := by decide +kernel
theorem dX6_negation_1 : decode cX6_negation 1 = .ok (.iload_n 1, 1) := by decide +kernel
theorem dX6_negation_2 : decode cX6_negation 2 = .ok (.invokevirtual 60, 3) := by decide +kernel
theorem dX6_negation_5 : decode cX6_negation 5 = .ok (.aload_n 0, 1) := by decide +kernel
theorem dX6_negation_6 : decode cX6_negation 6 = .ok (.getfield 15, 3) := by decide +kernel
theorem dX6_negation_9 : decode cX6_negation 9 = .ok (.bipush 78, 2) := by decide +kernel
theorem dX6_negation_11 : decode cX6_negation 11 = .ok (.iload_n 1, 1) := by decide +kernel
theorem dX6_negation_12 : decode cX6_negation 12 = .ok (.iconst (-1), 1) := by decide +kernel
theorem dX6_negation_13 : decode cX6_negation 13 = .ok (.invokevirtual 52, 3) := by decide +kernel
theorem dX6_negation_16 : decode cX6_negation 16 = .ok (.invokestatic 56, 3) := by decide +kernel
theorem dX6_negation_19 : decode cX6_negation 19 = .ok (.ireturn, 1) := by decide +kernel
theorem dX6_conjunction_0 : decode cX6_conjunction 0 = .ok (.aload_n 0, 1) := by decide +kernel
theorem dX6_conjunction_1 : decode cX6_conjunction 1 = .ok (.bipush 75, 2) := by decide +kernel
theorem dX6_conjunction_3 : decode cX6_conjunction 3 = .ok (.iload_n 1, 1) := by decide +kernel
theorem dX6_conjunction_4 : decode cX6_conjunction 4 = .ok (.iload_n 2, 1) := by decide +kernel
theorem dX6_conjunction_5 : decode cX6_conjunction 5 = .ok (.invokevirtual 63, 3) := by decide +kernel
theorem dX6_conjunction_8 : decode cX6_conjunction 8 = .ok (.ireturn, 1) := by decide +kernel
theorem dX6_disjunction_0 : decode cX6_disjunction 0 = .ok (.aload_n 0, 1) := by decide +kernel
theorem dX6_disjunction_1 : decode cX6_disjunction 1 = .ok (.bipush 65, 2) := by decide +kernel
theorem dX6_disjunction_3 : decode cX6_disjunction 3 = .ok (.iload_n 1, 1) := by decide +kernel
theorem dX6_disjunction_4 : decode cX6_disjunction 4 = .ok (.iload_n 2, 1) := by decide +kernel
theorem dX6_disjunction_5 : decode cX6_disjunction 5 = .ok (.invokevirtual 63, 3) := by decide +kernel
theorem dX6_disjunction_8 : decode cX6_disjunction 8 = .ok (.ireturn, 1) := by decide +kernel
theorem dX6_implication_0 : decode cX6_implication 0 = .ok (.aload_n 0, 1) := by decide +kernel
theorem dX6_implication_1 : decode cX6_implication 1 = .ok (.bipush 67, 2) := by decide +kernel
theorem dX6_implication_3 : decode cX6_implication 3 = .ok (.iload_n 1, 1) := by decide +kernel
theorem dX6_implication_4 : decode cX6_implication 4 = .ok (.iload_n 2, 1) := by decide +kernel
theorem dX6_implication_5 : decode cX6_implication 5 = .ok (.invokevirtual 63, 3) := by decide +kernel
theorem dX6_implication_8 : decode cX6_implication 8 = .ok (.ireturn, 1) := by decide +kernel
theorem dX6_formulas_0 : decode cX6_formulas 0 = .ok (.aload_n 0, 1) := by decide +kernel
theorem dX6_formulas_1 : decode cX6_formulas 1 = .ok (.getfield 15, 3) := by decide +kernel
theorem dX6_formulas_4 : decode cX6_formulas 4 = .ok (.getfield 66, 3) := by decide +kernel
theorem dX6_formulas_7 : decode cX6_formulas 7 = .ok (.ireturn, 1) := by decide +kernel
theorem dX6_sizeOf_0 : decode cX6_sizeOf 0 = .ok (.aload_n 0, 1) := by decide +kernel
theorem dX6_sizeOf_1 : decode cX6_sizeOf 1 = .ok (.iload_n 1, 1) := by decide +kernel
theorem dX6_sizeOf_2 : decode cX6_sizeOf 2 = .ok (.invokevirtual 60, 3) := by decide +kernel
theorem dX6_sizeOf_5 : decode cX6_sizeOf 5 = .ok (.aload_n 0, 1) := by decide +kernel
theorem dX6_sizeOf_6 : decode cX6_sizeOf 6 = .ok (.getfield 15, 3) := by decide +kernel
theorem dX6_sizeOf_9 : decode cX6_sizeOf 9 = .ok (.iload_n 1, 1) := by decide +kernel
theorem dX6_sizeOf_10 : decode cX6_sizeOf 10 = .ok (.invokevirtual 70, 3) := by decide +kernel
theorem dX6_sizeOf_13 : decode cX6_sizeOf 13 = .ok (.ireturn, 1) := by decide +kernel
theorem dX6_symbolAt_0 : decode cX6_symbolAt 0 = .ok (.aload_n 0, 1) := by decide +kernel
theorem dX6_symbolAt_1 : decode cX6_symbolAt 1 = .ok (.iload_n 1, 1) := by decide +kernel
theorem dX6_symbolAt_2 : decode cX6_symbolAt 2 = .ok (.invokevirtual 60, 3) := by decide +kernel
theorem dX6_symbolAt_5 : decode cX6_symbolAt 5 = .ok (.iload_n 2, 1) := by decide +kernel
theorem dX6_symbolAt_6 : decode cX6_symbolAt 6 = .ok (.ifCond .lt 15, 3) := by decide +kernel
theorem dX6_symbolAt_9 : decode cX6_symbolAt 9 = .ok (.iload_n 2, 1) := by decide +kernel
theorem dX6_symbolAt_10 : decode cX6_symbolAt 10 = .ok (.aload_n 0, 1) := by decide +kernel
theorem dX6_symbolAt_11 : decode cX6_symbolAt 11 = .ok (.getfield 15, 3) := by decide +kernel
theorem dX6_symbolAt_14 : decode cX6_symbolAt 14 = .ok (.iload_n 1, 1) := by decide +kernel
theorem dX6_symbolAt_15 : decode cX6_symbolAt 15 = .ok (.invokevirtual 70, 3) := by decide +kernel
theorem dX6_symbolAt_18 : decode cX6_symbolAt 18 = .ok (.if_icmp .lt 13, 3) := by decide +kernel
theorem dX6_symbolAt_21 : decode cX6_symbolAt 21 = .ok (.new 73, 3) := by decide +kernel
theorem dX6_symbolAt_24 : decode cX6_symbolAt 24 = .ok (.dup, 1) := by decide +kernel
theorem dX6_symbolAt_25 : decode cX6_symbolAt 25 = .ok (.ldc 75, 2) := by decide +kernel
theorem dX6_symbolAt_27 : decode cX6_symbolAt 27 = .ok (.invokespecial 77, 3) := by decide +kernel
theorem dX6_symbolAt_30 : decode cX6_symbolAt 30 = .ok (.athrow, 1) := by decide +kernel
theorem dX6_symbolAt_31 : decode cX6_symbolAt 31 = .ok (.aload_n 0, 1) := by decide +kernel
theorem dX6_symbolAt_32 : decode cX6_symbolAt 32 = .ok (.getfield 15, 3) := by decide +kernel
theorem dX6_symbolAt_35 : decode cX6_symbolAt 35 = .ok (.iload_n 1, 1) := by decide +kernel
theorem dX6_symbolAt_36 : decode cX6_symbolAt 36 = .ok (.iload_n 2, 1) := by decide +kernel
theorem dX6_symbolAt_37 : decode cX6_symbolAt 37 = .ok (.invokevirtual 80, 3) := by decide +kernel
theorem dX6_symbolAt_40 : decode cX6_symbolAt 40 = .ok (.ireturn, 1) := by decide +kernel
theorem dX6_bind_0 : decode cX6_bind 0 = .ok (.aload_n 0, 1) := by decide +kernel
theorem dX6_bind_1 : decode cX6_bind 1 = .ok (.iload_n 1, 1) := by decide +kernel
theorem dX6_bind_2 : decode cX6_bind 2 = .ok (.invokevirtual 48, 3) := by decide +kernel
theorem dX6_bind_5 : decode cX6_bind 5 = .ok (.aload_n 0, 1) := by decide +kernel
theorem dX6_bind_6 : decode cX6_bind 6 = .ok (.iload_n 2, 1) := by decide +kernel
theorem dX6_bind_7 : decode cX6_bind 7 = .ok (.invokevirtual 60, 3) := by decide +kernel
theorem dX6_bind_10 : decode cX6_bind 10 = .ok (.aload_n 0, 1) := by decide +kernel
theorem dX6_bind_11 : decode cX6_bind 11 = .ok (.getfield 28, 3) := by decide +kernel
theorem dX6_bind_14 : decode cX6_bind 14 = .ok (.getfield 84, 3) := by decide +kernel
theorem dX6_bind_17 : decode cX6_bind 17 = .ok (.iload_n 1, 1) := by decide +kernel
theorem dX6_bind_18 : decode cX6_bind 18 = .ok (.invokevirtual 88, 3) := by decide +kernel
theorem dX6_bind_21 : decode cX6_bind 21 = .ok (.istore_n 3, 1) := by decide +kernel
theorem dX6_bind_22 : decode cX6_bind 22 = .ok (.aload_n 0, 1) := by decide +kernel
theorem dX6_bind_23 : decode cX6_bind 23 = .ok (.getfield 28, 3) := by decide +kernel
theorem dX6_bind_26 : decode cX6_bind 26 = .ok (.getfield 84, 3) := by decide +kernel
theorem dX6_bind_29 : decode cX6_bind 29 = .ok (.iload_n 1, 1) := by decide +kernel
theorem dX6_bind_30 : decode cX6_bind 30 = .ok (.iload_n 2, 1) := by decide +kernel
theorem dX6_bind_31 : decode cX6_bind 31 = .ok (.invokevirtual 93, 3) := by decide +kernel
theorem dX6_bind_34 : decode cX6_bind 34 = .ok (.iload_n 3, 1) := by decide +kernel
theorem dX6_bind_35 : decode cX6_bind 35 = .ok (.ireturn, 1) := by decide +kernel
theorem dX6_premise_0 : decode cX6_premise 0 = .ok (.aload_n 0, 1) := by decide +kernel
theorem dX6_premise_1 : decode cX6_premise 1 = .ok (.iload_n 1, 1) := by decide +kernel
theorem dX6_premise_2 : decode cX6_premise 2 = .ok (.invokevirtual 60, 3) := by decide +kernel
theorem dX6_premise_5 : decode cX6_premise 5 = .ok (.aload_n 0, 1) := by decide +kernel
theorem dX6_premise_6 : decode cX6_premise 6 = .ok (.aload_n 0, 1) := by decide +kernel
theorem dX6_premise_7 : decode cX6_premise 7 = .ok (.getfield 21, 3) := by decide +kernel
theorem dX6_premise_10 : decode cX6_premise 10 = .ok (.getfield 97, 3) := by decide +kernel
theorem dX6_premise_13 : decode cX6_premise 13 = .ok (.iconst (-1), 1) := by decide +kernel
theorem dX6_premise_14 : decode cX6_premise 14 = .ok (.if_icmp .ne 7, 3) := by decide +kernel
theorem dX6_premise_17 : decode cX6_premise 17 = .ok (.iconst 1, 1) := by decide +kernel
theorem dX6_premise_18 : decode cX6_premise 18 = .ok (.goto 4, 3) := by decide +kernel
theorem dX6_premise_21 : decode cX6_premise 21 = .ok (.iconst 0, 1) := by decide +kernel
theorem dX6_premise_22 : decode cX6_premise 22 = .ok (.invokevirtual 100, 3) := by decide +kernel
theorem dX6_premise_25 : decode cX6_premise 25 = .ok (.aload_n 0, 1) := by decide +kernel
theorem dX6_premise_26 : decode cX6_premise 26 = .ok (.invokevirtual 104, 3) := by decide +kernel
theorem dX6_premise_29 : decode cX6_premise 29 = .ok (.aload_n 0, 1) := by decide +kernel
theorem dX6_premise_30 : decode cX6_premise 30 = .ok (.getfield 21, 3) := by decide +kernel
theorem dX6_premise_33 : decode cX6_premise 33 = .ok (.iload_n 1, 1) := by decide +kernel
theorem dX6_premise_34 : decode cX6_premise 34 = .ok (.bipush 80, 2) := by decide +kernel
theorem dX6_premise_36 : decode cX6_premise 36 = .ok (.invokevirtual 107, 3) := by decide +kernel
theorem dX6_premise_39 : decode cX6_premise 39 = .ok (.ireturn, 1) := by decide +kernel
theorem dX6_assume_0 : decode cX6_assume 0 = .ok (.aload_n 0, 1) := by decide +kernel
theorem dX6_assume_1 : decode cX6_assume 1 = .ok (.iload_n 1, 1) := by decide +kernel
theorem dX6_assume_2 : decode cX6_assume 2 = .ok (.invokevirtual 60, 3) := by decide +kernel
theorem dX6_assume_5 : decode cX6_assume 5 = .ok (.aload_n 0, 1) := by decide +kernel
theorem dX6_assume_6 : decode cX6_assume 6 = .ok (.invokevirtual 104, 3) := by decide +kernel
theorem dX6_assume_9 : decode cX6_assume 9 = .ok (.aload_n 0, 1) := by decide +kernel
theorem dX6_assume_10 : decode cX6_assume 10 = .ok (.getfield 21, 3) := by decide +kernel
theorem dX6_assume_13 : decode cX6_assume 13 = .ok (.iload_n 1, 1) := by decide +kernel
theorem dX6_assume_14 : decode cX6_assume 14 = .ok (.invokevirtual 110, 3) := by decide +kernel
theorem dX6_assume_17 : decode cX6_assume 17 = .ok (.ireturn, 1) := by decide +kernel
theorem dX6_closeBox_0 : decode cX6_closeBox 0 = .ok (.aload_n 0, 1) := by decide +kernel
theorem dX6_closeBox_1 : decode cX6_closeBox 1 = .ok (.getfield 21, 3) := by decide +kernel
theorem dX6_closeBox_4 : decode cX6_closeBox 4 = .ok (.getfield 97, 3) := by decide +kernel
theorem dX6_closeBox_7 : decode cX6_closeBox 7 = .ok (.iconst (-1), 1) := by decide +kernel
theorem dX6_closeBox_8 : decode cX6_closeBox 8 = .ok (.if_icmp .ne 13, 3) := by decide +kernel
theorem dX6_closeBox_11 : decode cX6_closeBox 11 = .ok (.new 113, 3) := by decide +kernel
theorem dX6_closeBox_14 : decode cX6_closeBox 14 = .ok (.dup, 1) := by decide +kernel
theorem dX6_closeBox_15 : decode cX6_closeBox 15 = .ok (.ldc 115, 2) := by decide +kernel
theorem dX6_closeBox_17 : decode cX6_closeBox 17 = .ok (.invokespecial 117, 3) := by decide +kernel
theorem dX6_closeBox_20 : decode cX6_closeBox 20 = .ok (.athrow, 1) := by decide +kernel
theorem dX6_closeBox_21 : decode cX6_closeBox 21 = .ok (.aload_n 0, 1) := by decide +kernel
theorem dX6_closeBox_22 : decode cX6_closeBox 22 = .ok (.getfield 21, 3) := by decide +kernel
theorem dX6_closeBox_25 : decode cX6_closeBox 25 = .ok (.invokevirtual 118, 3) := by decide +kernel
theorem dX6_closeBox_28 : decode cX6_closeBox 28 = .ok (.ireturn, 1) := by decide +kernel
theorem dX6_repeat_0 : decode cX6_repeat 0 = .ok (.aload_n 0, 1) := by decide +kernel
theorem dX6_repeat_1 : decode cX6_repeat 1 = .ok (.iload_n 1, 1) := by decide +kernel
theorem dX6_repeat_2 : decode cX6_repeat 2 = .ok (.invokevirtual 122, 3) := by decide +kernel
theorem dX6_repeat_5 : decode cX6_repeat 5 = .ok (.aload_n 0, 1) := by decide +kernel
theorem dX6_repeat_6 : decode cX6_repeat 6 = .ok (.iload_n 1, 1) := by decide +kernel
theorem dX6_repeat_7 : decode cX6_repeat 7 = .ok (.invokevirtual 125, 3) := by decide +kernel
theorem dX6_repeat_10 : decode cX6_repeat 10 = .ok (.aload_n 0, 1) := by decide +kernel
theorem dX6_repeat_11 : decode cX6_repeat 11 = .ok (.invokevirtual 104, 3) := by decide +kernel
theorem dX6_repeat_14 : decode cX6_repeat 14 = .ok (.aload_n 0, 1) := by decide +kernel
theorem dX6_repeat_15 : decode cX6_repeat 15 = .ok (.getfield 21, 3) := by decide +kernel
theorem dX6_repeat_18 : decode cX6_repeat 18 = .ok (.aload_n 0, 1) := by decide +kernel
theorem dX6_repeat_19 : decode cX6_repeat 19 = .ok (.getfield 21, 3) := by decide +kernel
theorem dX6_repeat_22 : decode cX6_repeat 22 = .ok (.iload_n 1, 1) := by decide +kernel
theorem dX6_repeat_23 : decode cX6_repeat 23 = .ok (.invokevirtual 128, 3) := by decide +kernel
theorem dX6_repeat_26 : decode cX6_repeat 26 = .ok (.bipush 82, 2) := by decide +kernel
theorem dX6_repeat_28 : decode cX6_repeat 28 = .ok (.iload_n 1, 1) := by decide +kernel
theorem dX6_repeat_29 : decode cX6_repeat 29 = .ok (.iconst (-1), 1) := by decide +kernel
theorem dX6_repeat_30 : decode cX6_repeat 30 = .ok (.invokevirtual 131, 3) := by decide +kernel
theorem dX6_repeat_33 : decode cX6_repeat 33 = .ok (.ireturn, 1) := by decide +kernel
theorem dX6_makeConjunction_0 : decode cX6_makeConjunction 0 = .ok (.aload_n 0, 1) := by decide +kernel
theorem dX6_makeConjunction_1 : decode cX6_makeConjunction 1 = .ok (.iload_n 1, 1) := by decide +kernel
theorem dX6_makeConjunction_2 : decode cX6_makeConjunction 2 = .ok (.iload_n 2, 1) := by decide +kernel
theorem dX6_makeConjunction_3 : decode cX6_makeConjunction 3 = .ok (.invokevirtual 135, 3) := by decide +kernel
theorem dX6_makeConjunction_6 : decode cX6_makeConjunction 6 = .ok (.aload_n 0, 1) := by decide +kernel
theorem dX6_makeConjunction_7 : decode cX6_makeConjunction 7 = .ok (.invokevirtual 104, 3) := by decide +kernel
theorem dX6_makeConjunction_10 : decode cX6_makeConjunction 10 = .ok (.aload_n 0, 1) := by decide +kernel
theorem dX6_makeConjunction_11 : decode cX6_makeConjunction 11 = .ok (.getfield 15, 3) := by decide +kernel
theorem dX6_makeConjunction_14 : decode cX6_makeConjunction 14 = .ok (.bipush 75, 2) := by decide +kernel
theorem dX6_makeConjunction_16 : decode cX6_makeConjunction 16 = .ok (.aload_n 0, 1) := by decide +kernel
theorem dX6_makeConjunction_17 : decode cX6_makeConjunction 17 = .ok (.getfield 21, 3) := by decide +kernel
theorem dX6_makeConjunction_20 : decode cX6_makeConjunction 20 = .ok (.iload_n 1, 1) := by decide +kernel
theorem dX6_makeConjunction_21 : decode cX6_makeConjunction 21 = .ok (.invokevirtual 128, 3) := by decide +kernel
theorem dX6_makeConjunction_24 : decode cX6_makeConjunction 24 = .ok (.aload_n 0, 1) := by decide +kernel
theorem dX6_makeConjunction_25 : decode cX6_makeConjunction 25 = .ok (.getfield 21, 3) := by decide +kernel
theorem dX6_makeConjunction_28 : decode cX6_makeConjunction 28 = .ok (.iload_n 2, 1) := by decide +kernel
theorem dX6_makeConjunction_29 : decode cX6_makeConjunction 29 = .ok (.invokevirtual 128, 3) := by decide +kernel
theorem dX6_makeConjunction_32 : decode cX6_makeConjunction 32 = .ok (.invokevirtual 52, 3) := by decide +kernel
theorem dX6_makeConjunction_35 : decode cX6_makeConjunction 35 = .ok (.invokestatic 56, 3) := by decide +kernel
theorem dX6_makeConjunction_38 : decode cX6_makeConjunction 38 = .ok (.istore_n 3, 1) := by decide +kernel
theorem dX6_makeConjunction_39 : decode cX6_makeConjunction 39 = .ok (.aload_n 0, 1) := by decide +kernel
theorem dX6_makeConjunction_40 : decode cX6_makeConjunction 40 = .ok (.getfield 21, 3) := by decide +kernel
theorem dX6_makeConjunction_43 : decode cX6_makeConjunction 43 = .ok (.iload_n 3, 1) := by decide +kernel
theorem dX6_makeConjunction_44 : decode cX6_makeConjunction 44 = .ok (.bipush 107, 2) := by decide +kernel
theorem dX6_makeConjunction_46 : decode cX6_makeConjunction 46 = .ok (.iload_n 1, 1) := by decide +kernel
theorem dX6_makeConjunction_47 : decode cX6_makeConjunction 47 = .ok (.iload_n 2, 1) := by decide +kernel
theorem dX6_makeConjunction_48 : decode cX6_makeConjunction 48 = .ok (.invokevirtual 131, 3) := by decide +kernel
theorem dX6_makeConjunction_51 : decode cX6_makeConjunction 51 = .ok (.ireturn, 1) := by decide +kernel
theorem dX6_useConjunction_0 : decode cX6_useConjunction 0 = .ok (.aload_n 0, 1) := by decide +kernel
theorem dX6_useConjunction_1 : decode cX6_useConjunction 1 = .ok (.iload_n 1, 1) := by decide +kernel
theorem dX6_useConjunction_2 : decode cX6_useConjunction 2 = .ok (.invokevirtual 122, 3) := by decide +kernel
theorem dX6_useConjunction_5 : decode cX6_useConjunction 5 = .ok (.aload_n 0, 1) := by decide +kernel
theorem dX6_useConjunction_6 : decode cX6_useConjunction 6 = .ok (.iload_n 1, 1) := by decide +kernel
theorem dX6_useConjunction_7 : decode cX6_useConjunction 7 = .ok (.invokevirtual 125, 3) := by decide +kernel
theorem dX6_useConjunction_10 : decode cX6_useConjunction 10 = .ok (.aload_n 0, 1) := by decide +kernel
theorem dX6_useConjunction_11 : decode cX6_useConjunction 11 = .ok (.getfield 21, 3) := by decide +kernel
theorem dX6_useConjunction_14 : decode cX6_useConjunction 14 = .ok (.iload_n 1, 1) := by decide +kernel
theorem dX6_useConjunction_15 : decode cX6_useConjunction 15 = .ok (.invokevirtual 128, 3) := by decide +kernel
theorem dX6_useConjunction_18 : decode cX6_useConjunction 18 = .ok (.istore_n 3, 1) := by decide +kernel
theorem dX6_useConjunction_19 : decode cX6_useConjunction 19 = .ok (.aload_n 0, 1) := by decide +kernel
theorem dX6_useConjunction_20 : decode cX6_useConjunction 20 = .ok (.aload_n 0, 1) := by decide +kernel
theorem dX6_useConjunction_21 : decode cX6_useConjunction 21 = .ok (.getfield 15, 3) := by decide +kernel
theorem dX6_useConjunction_24 : decode cX6_useConjunction 24 = .ok (.iload_n 3, 1) := by decide +kernel
theorem dX6_useConjunction_25 : decode cX6_useConjunction 25 = .ok (.invokevirtual 138, 3) := by decide +kernel
theorem dX6_useConjunction_28 : decode cX6_useConjunction 28 = .ok (.bipush 75, 2) := by decide +kernel
theorem dX6_useConjunction_30 : decode cX6_useConjunction 30 = .ok (.if_icmp .ne 7, 3) := by decide +kernel
theorem dX6_useConjunction_33 : decode cX6_useConjunction 33 = .ok (.iconst 1, 1) := by decide +kernel
theorem dX6_useConjunction_34 : decode cX6_useConjunction 34 = .ok (.goto 4, 3) := by decide +kernel
theorem dX6_useConjunction_37 : decode cX6_useConjunction 37 = .ok (.iconst 0, 1) := by decide +kernel
theorem dX6_useConjunction_38 : decode cX6_useConjunction 38 = .ok (.invokevirtual 100, 3) := by decide +kernel
theorem dX6_useConjunction_41 : decode cX6_useConjunction 41 = .ok (.aload_n 0, 1) := by decide +kernel
theorem dX6_useConjunction_42 : decode cX6_useConjunction 42 = .ok (.invokevirtual 104, 3) := by decide +kernel
theorem dX6_useConjunction_45 : decode cX6_useConjunction 45 = .ok (.iload_n 2, 1) := by decide +kernel
theorem dX6_useConjunction_46 : decode cX6_useConjunction 46 = .ok (.ifCond .eq 25, 3) := by decide +kernel
theorem dX6_useConjunction_49 : decode cX6_useConjunction 49 = .ok (.aload_n 0, 1) := by decide +kernel
theorem dX6_useConjunction_50 : decode cX6_useConjunction 50 = .ok (.getfield 21, 3) := by decide +kernel
theorem dX6_useConjunction_53 : decode cX6_useConjunction 53 = .ok (.aload_n 0, 1) := by decide +kernel
theorem dX6_useConjunction_54 : decode cX6_useConjunction 54 = .ok (.getfield 15, 3) := by decide +kernel
theorem dX6_useConjunction_57 : decode cX6_useConjunction 57 = .ok (.iload_n 3, 1) := by decide +kernel
theorem dX6_useConjunction_58 : decode cX6_useConjunction 58 = .ok (.invokevirtual 142, 3) := by decide +kernel
theorem dX6_useConjunction_61 : decode cX6_useConjunction 61 = .ok (.bipush 114, 2) := by decide +kernel
theorem dX6_useConjunction_63 : decode cX6_useConjunction 63 = .ok (.iload_n 1, 1) := by decide +kernel
theorem dX6_useConjunction_64 : decode cX6_useConjunction 64 = .ok (.iconst (-1), 1) := by decide +kernel
theorem dX6_useConjunction_65 : decode cX6_useConjunction 65 = .ok (.invokevirtual 131, 3) := by decide +kernel
theorem dX6_useConjunction_68 : decode cX6_useConjunction 68 = .ok (.goto 22, 3) := by decide +kernel
theorem dX6_useConjunction_71 : decode cX6_useConjunction 71 = .ok (.aload_n 0, 1) := by decide +kernel
theorem dX6_useConjunction_72 : decode cX6_useConjunction 72 = .ok (.getfield 21, 3) := by decide +kernel
theorem dX6_useConjunction_75 : decode cX6_useConjunction 75 = .ok (.aload_n 0, 1) := by decide +kernel
theorem dX6_useConjunction_76 : decode cX6_useConjunction 76 = .ok (.getfield 15, 3) := by decide +kernel
theorem dX6_useConjunction_79 : decode cX6_useConjunction 79 = .ok (.iload_n 3, 1) := by decide +kernel
theorem dX6_useConjunction_80 : decode cX6_useConjunction 80 = .ok (.invokevirtual 145, 3) := by decide +kernel
theorem dX6_useConjunction_83 : decode cX6_useConjunction 83 = .ok (.bipush 108, 2) := by decide +kernel
theorem dX6_useConjunction_85 : decode cX6_useConjunction 85 = .ok (.iload_n 1, 1) := by decide +kernel
theorem dX6_useConjunction_86 : decode cX6_useConjunction 86 = .ok (.iconst (-1), 1) := by decide +kernel
theorem dX6_useConjunction_87 : decode cX6_useConjunction 87 = .ok (.invokevirtual 131, 3) := by decide +kernel
theorem dX6_useConjunction_90 : decode cX6_useConjunction 90 = .ok (.ireturn, 1) := by decide +kernel
theorem dX6_makeDisjunction_0 : decode cX6_makeDisjunction 0 = .ok (.aload_n 0, 1) := by decide +kernel
theorem dX6_makeDisjunction_1 : decode cX6_makeDisjunction 1 = .ok (.iload_n 1, 1) := by decide +kernel
theorem dX6_makeDisjunction_2 : decode cX6_makeDisjunction 2 = .ok (.invokevirtual 122, 3) := by decide +kernel
theorem dX6_makeDisjunction_5 : decode cX6_makeDisjunction 5 = .ok (.aload_n 0, 1) := by decide +kernel
theorem dX6_makeDisjunction_6 : decode cX6_makeDisjunction 6 = .ok (.iload_n 2, 1) := by decide +kernel
theorem dX6_makeDisjunction_7 : decode cX6_makeDisjunction 7 = .ok (.invokevirtual 60, 3) := by decide +kernel
theorem dX6_makeDisjunction_10 : decode cX6_makeDisjunction 10 = .ok (.aload_n 0, 1) := by decide +kernel
theorem dX6_makeDisjunction_11 : decode cX6_makeDisjunction 11 = .ok (.iload_n 1, 1) := by decide +kernel
theorem dX6_makeDisjunction_12 : decode cX6_makeDisjunction 12 = .ok (.invokevirtual 125, 3) := by decide +kernel
theorem dX6_makeDisjunction_15 : decode cX6_makeDisjunction 15 = .ok (.aload_n 0, 1) := by decide +kernel
theorem dX6_makeDisjunction_16 : decode cX6_makeDisjunction 16 = .ok (.invokevirtual 104, 3) := by decide +kernel
theorem dX6_makeDisjunction_19 : decode cX6_makeDisjunction 19 = .ok (.aload_n 0, 1) := by decide +kernel
theorem dX6_makeDisjunction_20 : decode cX6_makeDisjunction 20 = .ok (.getfield 21, 3) := by decide +kernel
theorem dX6_makeDisjunction_23 : decode cX6_makeDisjunction 23 = .ok (.iload_n 1, 1) := by decide +kernel
theorem dX6_makeDisjunction_24 : decode cX6_makeDisjunction 24 = .ok (.invokevirtual 128, 3) := by decide +kernel
theorem dX6_makeDisjunction_27 : decode cX6_makeDisjunction 27 = .ok (.istore 4, 2) := by decide +kernel
theorem dX6_makeDisjunction_29 : decode cX6_makeDisjunction 29 = .ok (.iload_n 3, 1) := by decide +kernel
theorem dX6_makeDisjunction_30 : decode cX6_makeDisjunction 30 = .ok (.ifCond .eq 18, 3) := by decide +kernel
theorem dX6_makeDisjunction_33 : decode cX6_makeDisjunction 33 = .ok (.aload_n 0, 1) := by decide +kernel
theorem dX6_makeDisjunction_34 : decode cX6_makeDisjunction 34 = .ok (.getfield 15, 3) := by decide +kernel
theorem dX6_makeDisjunction_37 : decode cX6_makeDisjunction 37 = .ok (.bipush 65, 2) := by decide +kernel
theorem dX6_makeDisjunction_39 : decode cX6_makeDisjunction 39 = .ok (.iload_n 2, 1) := by decide +kernel
theorem dX6_makeDisjunction_40 : decode cX6_makeDisjunction 40 = .ok (.iload 4, 2) := by decide +kernel
theorem dX6_makeDisjunction_42 : decode cX6_makeDisjunction 42 = .ok (.invokevirtual 52, 3) := by decide +kernel
theorem dX6_makeDisjunction_45 : decode cX6_makeDisjunction 45 = .ok (.goto 15, 3) := by decide +kernel
theorem dX6_makeDisjunction_48 : decode cX6_makeDisjunction 48 = .ok (.aload_n 0, 1) := by decide +kernel
theorem dX6_makeDisjunction_49 : decode cX6_makeDisjunction 49 = .ok (.getfield 15, 3) := by decide +kernel
theorem dX6_makeDisjunction_52 : decode cX6_makeDisjunction 52 = .ok (.bipush 65, 2) := by decide +kernel
theorem dX6_makeDisjunction_54 : decode cX6_makeDisjunction 54 = .ok (.iload 4, 2) := by decide +kernel
theorem dX6_makeDisjunction_56 : decode cX6_makeDisjunction 56 = .ok (.iload_n 2, 1) := by decide +kernel
theorem dX6_makeDisjunction_57 : decode cX6_makeDisjunction 57 = .ok (.invokevirtual 52, 3) := by decide +kernel
theorem dX6_makeDisjunction_60 : decode cX6_makeDisjunction 60 = .ok (.invokestatic 56, 3) := by decide +kernel
theorem dX6_makeDisjunction_63 : decode cX6_makeDisjunction 63 = .ok (.istore 5, 2) := by decide +kernel
theorem dX6_makeDisjunction_65 : decode cX6_makeDisjunction 65 = .ok (.aload_n 0, 1) := by decide +kernel
theorem dX6_makeDisjunction_66 : decode cX6_makeDisjunction 66 = .ok (.getfield 21, 3) := by decide +kernel
theorem dX6_makeDisjunction_69 : decode cX6_makeDisjunction 69 = .ok (.iload 5, 2) := by decide +kernel
theorem dX6_makeDisjunction_71 : decode cX6_makeDisjunction 71 = .ok (.iload_n 3, 1) := by decide +kernel
theorem dX6_makeDisjunction_72 : decode cX6_makeDisjunction 72 = .ok (.ifCond .eq 8, 3) := by decide +kernel
theorem dX6_makeDisjunction_75 : decode cX6_makeDisjunction 75 = .ok (.bipush 98, 2) := by decide +kernel
theorem dX6_makeDisjunction_77 : decode cX6_makeDisjunction 77 = .ok (.goto 5, 3) := by decide +kernel
theorem dX6_makeDisjunction_80 : decode cX6_makeDisjunction 80 = .ok (.bipush 97, 2) := by decide +kernel
theorem dX6_makeDisjunction_82 : decode cX6_makeDisjunction 82 = .ok (.iload_n 1, 1) := by decide +kernel
theorem dX6_makeDisjunction_83 : decode cX6_makeDisjunction 83 = .ok (.iconst (-1), 1) := by decide +kernel
theorem dX6_makeDisjunction_84 : decode cX6_makeDisjunction 84 = .ok (.invokevirtual 131, 3) := by decide +kernel
theorem dX6_makeDisjunction_87 : decode cX6_makeDisjunction 87 = .ok (.ireturn, 1) := by decide +kernel
theorem dX6_useDisjunction_0 : decode cX6_useDisjunction 0 = .ok (.aload_n 0, 1) := by decide +kernel
theorem dX6_useDisjunction_1 : decode cX6_useDisjunction 1 = .ok (.iload_n 1, 1) := by decide +kernel
theorem dX6_useDisjunction_2 : decode cX6_useDisjunction 2 = .ok (.invokevirtual 122, 3) := by decide +kernel
theorem dX6_useDisjunction_5 : decode cX6_useDisjunction 5 = .ok (.aload_n 0, 1) := by decide +kernel
theorem dX6_useDisjunction_6 : decode cX6_useDisjunction 6 = .ok (.iload_n 2, 1) := by decide +kernel
theorem dX6_useDisjunction_7 : decode cX6_useDisjunction 7 = .ok (.invokevirtual 148, 3) := by decide +kernel
theorem dX6_useDisjunction_10 : decode cX6_useDisjunction 10 = .ok (.aload_n 0, 1) := by decide +kernel
theorem dX6_useDisjunction_11 : decode cX6_useDisjunction 11 = .ok (.iload_n 3, 1) := by decide +kernel
theorem dX6_useDisjunction_12 : decode cX6_useDisjunction 12 = .ok (.invokevirtual 148, 3) := by decide +kernel
theorem dX6_useDisjunction_15 : decode cX6_useDisjunction 15 = .ok (.aload_n 0, 1) := by decide +kernel
theorem dX6_useDisjunction_16 : decode cX6_useDisjunction 16 = .ok (.iload_n 1, 1) := by decide +kernel
theorem dX6_useDisjunction_17 : decode cX6_useDisjunction 17 = .ok (.invokevirtual 125, 3) := by decide +kernel
theorem dX6_useDisjunction_20 : decode cX6_useDisjunction 20 = .ok (.aload_n 0, 1) := by decide +kernel
theorem dX6_useDisjunction_21 : decode cX6_useDisjunction 21 = .ok (.iload_n 2, 1) := by decide +kernel
theorem dX6_useDisjunction_22 : decode cX6_useDisjunction 22 = .ok (.invokevirtual 151, 3) := by decide +kernel
theorem dX6_useDisjunction_25 : decode cX6_useDisjunction 25 = .ok (.aload_n 0, 1) := by decide +kernel
theorem dX6_useDisjunction_26 : decode cX6_useDisjunction 26 = .ok (.iload_n 3, 1) := by decide +kernel
theorem dX6_useDisjunction_27 : decode cX6_useDisjunction 27 = .ok (.invokevirtual 151, 3) := by decide +kernel
theorem dX6_useDisjunction_30 : decode cX6_useDisjunction 30 = .ok (.aload_n 0, 1) := by decide +kernel
theorem dX6_useDisjunction_31 : decode cX6_useDisjunction 31 = .ok (.getfield 21, 3) := by decide +kernel
theorem dX6_useDisjunction_34 : decode cX6_useDisjunction 34 = .ok (.iload_n 1, 1) := by decide +kernel
theorem dX6_useDisjunction_35 : decode cX6_useDisjunction 35 = .ok (.invokevirtual 128, 3) := by decide +kernel
theorem dX6_useDisjunction_38 : decode cX6_useDisjunction 38 = .ok (.istore 4, 2) := by decide +kernel
theorem dX6_useDisjunction_40 : decode cX6_useDisjunction 40 = .ok (.aload_n 0, 1) := by decide +kernel
theorem dX6_useDisjunction_41 : decode cX6_useDisjunction 41 = .ok (.aload_n 0, 1) := by decide +kernel
theorem dX6_useDisjunction_42 : decode cX6_useDisjunction 42 = .ok (.getfield 15, 3) := by decide +kernel
theorem dX6_useDisjunction_45 : decode cX6_useDisjunction 45 = .ok (.iload 4, 2) := by decide +kernel
theorem dX6_useDisjunction_47 : decode cX6_useDisjunction 47 = .ok (.invokevirtual 138, 3) := by decide +kernel
theorem dX6_useDisjunction_50 : decode cX6_useDisjunction 50 = .ok (.bipush 65, 2) := by decide +kernel
theorem dX6_useDisjunction_52 : decode cX6_useDisjunction 52 = .ok (.if_icmp .ne 7, 3) := by decide +kernel
theorem dX6_useDisjunction_55 : decode cX6_useDisjunction 55 = .ok (.iconst 1, 1) := by decide +kernel
theorem dX6_useDisjunction_56 : decode cX6_useDisjunction 56 = .ok (.goto 4, 3) := by decide +kernel
theorem dX6_useDisjunction_59 : decode cX6_useDisjunction 59 = .ok (.iconst 0, 1) := by decide +kernel
theorem dX6_useDisjunction_60 : decode cX6_useDisjunction 60 = .ok (.invokevirtual 100, 3) := by decide +kernel
theorem dX6_useDisjunction_63 : decode cX6_useDisjunction 63 = .ok (.aload_n 0, 1) := by decide +kernel
theorem dX6_useDisjunction_64 : decode cX6_useDisjunction 64 = .ok (.aload_n 0, 1) := by decide +kernel
theorem dX6_useDisjunction_65 : decode cX6_useDisjunction 65 = .ok (.getfield 21, 3) := by decide +kernel
theorem dX6_useDisjunction_68 : decode cX6_useDisjunction 68 = .ok (.iload_n 2, 1) := by decide +kernel
theorem dX6_useDisjunction_69 : decode cX6_useDisjunction 69 = .ok (.invokevirtual 154, 3) := by decide +kernel
theorem dX6_useDisjunction_72 : decode cX6_useDisjunction 72 = .ok (.aload_n 0, 1) := by decide +kernel
theorem dX6_useDisjunction_73 : decode cX6_useDisjunction 73 = .ok (.getfield 15, 3) := by decide +kernel
theorem dX6_useDisjunction_76 : decode cX6_useDisjunction 76 = .ok (.iload 4, 2) := by decide +kernel
theorem dX6_useDisjunction_78 : decode cX6_useDisjunction 78 = .ok (.invokevirtual 145, 3) := by decide +kernel
theorem dX6_useDisjunction_81 : decode cX6_useDisjunction 81 = .ok (.if_icmp .ne 27, 3) := by decide +kernel
theorem dX6_useDisjunction_84 : decode cX6_useDisjunction 84 = .ok (.aload_n 0, 1) := by decide +kernel
theorem dX6_useDisjunction_85 : decode cX6_useDisjunction 85 = .ok (.getfield 21, 3) := by decide +kernel
theorem dX6_useDisjunction_88 : decode cX6_useDisjunction 88 = .ok (.iload_n 3, 1) := by decide +kernel
theorem dX6_useDisjunction_89 : decode cX6_useDisjunction 89 = .ok (.invokevirtual 154, 3) := by decide +kernel
theorem dX6_useDisjunction_92 : decode cX6_useDisjunction 92 = .ok (.aload_n 0, 1) := by decide +kernel
theorem dX6_useDisjunction_93 : decode cX6_useDisjunction 93 = .ok (.getfield 15, 3) := by decide +kernel
theorem dX6_useDisjunction_96 : decode cX6_useDisjunction 96 = .ok (.iload 4, 2) := by decide +kernel
theorem dX6_useDisjunction_98 : decode cX6_useDisjunction 98 = .ok (.invokevirtual 142, 3) := by decide +kernel
theorem dX6_useDisjunction_101 : decode cX6_useDisjunction 101 = .ok (.if_icmp .ne 7, 3) := by decide +kernel
theorem dX6_useDisjunction_104 : decode cX6_useDisjunction 104 = .ok (.iconst 1, 1) := by decide +kernel
theorem dX6_useDisjunction_105 : decode cX6_useDisjunction 105 = .ok (.goto 4, 3) := by decide +kernel
theorem dX6_useDisjunction_108 : decode cX6_useDisjunction 108 = .ok (.iconst 0, 1) := by decide +kernel
theorem dX6_useDisjunction_109 : decode cX6_useDisjunction 109 = .ok (.invokevirtual 100, 3) := by decide +kernel
theorem dX6_useDisjunction_112 : decode cX6_useDisjunction 112 = .ok (.aload_n 0, 1) := by decide +kernel
theorem dX6_useDisjunction_113 : decode cX6_useDisjunction 113 = .ok (.aload_n 0, 1) := by decide +kernel
theorem dX6_useDisjunction_114 : decode cX6_useDisjunction 114 = .ok (.getfield 21, 3) := by decide +kernel
theorem dX6_useDisjunction_117 : decode cX6_useDisjunction 117 = .ok (.iload_n 2, 1) := by decide +kernel
theorem dX6_useDisjunction_118 : decode cX6_useDisjunction 118 = .ok (.invokevirtual 157, 3) := by decide +kernel
theorem dX6_useDisjunction_121 : decode cX6_useDisjunction 121 = .ok (.aload_n 0, 1) := by decide +kernel
theorem dX6_useDisjunction_122 : decode cX6_useDisjunction 122 = .ok (.getfield 21, 3) := by decide +kernel
theorem dX6_useDisjunction_125 : decode cX6_useDisjunction 125 = .ok (.iload_n 3, 1) := by decide +kernel
theorem dX6_useDisjunction_126 : decode cX6_useDisjunction 126 = .ok (.invokevirtual 157, 3) := by decide +kernel
theorem dX6_useDisjunction_129 : decode cX6_useDisjunction 129 = .ok (.if_icmp .ne 7, 3) := by decide +kernel
theorem dX6_useDisjunction_132 : decode cX6_useDisjunction 132 = .ok (.iconst 1, 1) := by decide +kernel
theorem dX6_useDisjunction_133 : decode cX6_useDisjunction 133 = .ok (.goto 4, 3) := by decide +kernel
theorem dX6_useDisjunction_136 : decode cX6_useDisjunction 136 = .ok (.iconst 0, 1) := by decide +kernel
theorem dX6_useDisjunction_137 : decode cX6_useDisjunction 137 = .ok (.invokevirtual 100, 3) := by decide +kernel
theorem dX6_useDisjunction_140 : decode cX6_useDisjunction 140 = .ok (.aload_n 0, 1) := by decide +kernel
theorem dX6_useDisjunction_141 : decode cX6_useDisjunction 141 = .ok (.invokevirtual 104, 3) := by decide +kernel
theorem dX6_useDisjunction_144 : decode cX6_useDisjunction 144 = .ok (.aload_n 0, 1) := by decide +kernel
theorem dX6_useDisjunction_145 : decode cX6_useDisjunction 145 = .ok (.getfield 21, 3) := by decide +kernel
theorem dX6_useDisjunction_148 : decode cX6_useDisjunction 148 = .ok (.aload_n 0, 1) := by decide +kernel
theorem dX6_useDisjunction_149 : decode cX6_useDisjunction 149 = .ok (.getfield 21, 3) := by decide +kernel
theorem dX6_useDisjunction_152 : decode cX6_useDisjunction 152 = .ok (.iload_n 2, 1) := by decide +kernel
theorem dX6_useDisjunction_153 : decode cX6_useDisjunction 153 = .ok (.invokevirtual 157, 3) := by decide +kernel
theorem dX6_useDisjunction_156 : decode cX6_useDisjunction 156 = .ok (.bipush 118, 2) := by decide +kernel
theorem dX6_useDisjunction_158 : decode cX6_useDisjunction 158 = .ok (.iload_n 1, 1) := by decide +kernel
theorem dX6_useDisjunction_159 : decode cX6_useDisjunction 159 = .ok (.iconst (-1), 1) := by decide +kernel
theorem dX6_useDisjunction_160 : decode cX6_useDisjunction 160 = .ok (.invokevirtual 131, 3) := by decide +kernel
theorem dX6_useDisjunction_163 : decode cX6_useDisjunction 163 = .ok (.istore 5, 2) := by decide +kernel
theorem dX6_useDisjunction_165 : decode cX6_useDisjunction 165 = .ok (.aload_n 0, 1) := by decide +kernel
theorem dX6_useDisjunction_166 : decode cX6_useDisjunction 166 = .ok (.getfield 21, 3) := by decide +kernel
theorem dX6_useDisjunction_169 : decode cX6_useDisjunction 169 = .ok (.iload 5, 2) := by decide +kernel
theorem dX6_useDisjunction_171 : decode cX6_useDisjunction 171 = .ok (.iload_n 2, 1) := by decide +kernel
theorem dX6_useDisjunction_172 : decode cX6_useDisjunction 172 = .ok (.iload_n 3, 1) := by decide +kernel
theorem dX6_useDisjunction_173 : decode cX6_useDisjunction 173 = .ok (.invokevirtual 160, 3) := by decide +kernel
theorem dX6_useDisjunction_176 : decode cX6_useDisjunction 176 = .ok (.iload 5, 2) := by decide +kernel
theorem dX6_useDisjunction_178 : decode cX6_useDisjunction 178 = .ok (.ireturn, 1) := by decide +kernel
theorem dX6_makeImplication_0 : decode cX6_makeImplication 0 = .ok (.aload_n 0, 1) := by decide +kernel
theorem dX6_makeImplication_1 : decode cX6_makeImplication 1 = .ok (.iload_n 1, 1) := by decide +kernel
theorem dX6_makeImplication_2 : decode cX6_makeImplication 2 = .ok (.invokevirtual 148, 3) := by decide +kernel
theorem dX6_makeImplication_5 : decode cX6_makeImplication 5 = .ok (.aload_n 0, 1) := by decide +kernel
theorem dX6_makeImplication_6 : decode cX6_makeImplication 6 = .ok (.iload_n 1, 1) := by decide +kernel
theorem dX6_makeImplication_7 : decode cX6_makeImplication 7 = .ok (.invokevirtual 151, 3) := by decide +kernel
theorem dX6_makeImplication_10 : decode cX6_makeImplication 10 = .ok (.aload_n 0, 1) := by decide +kernel
theorem dX6_makeImplication_11 : decode cX6_makeImplication 11 = .ok (.invokevirtual 104, 3) := by decide +kernel
theorem dX6_makeImplication_14 : decode cX6_makeImplication 14 = .ok (.aload_n 0, 1) := by decide +kernel
theorem dX6_makeImplication_15 : decode cX6_makeImplication 15 = .ok (.getfield 15, 3) := by decide +kernel
theorem dX6_makeImplication_18 : decode cX6_makeImplication 18 = .ok (.bipush 67, 2) := by decide +kernel
theorem dX6_makeImplication_20 : decode cX6_makeImplication 20 = .ok (.aload_n 0, 1) := by decide +kernel
theorem dX6_makeImplication_21 : decode cX6_makeImplication 21 = .ok (.getfield 21, 3) := by decide +kernel
theorem dX6_makeImplication_24 : decode cX6_makeImplication 24 = .ok (.iload_n 1, 1) := by decide +kernel
theorem dX6_makeImplication_25 : decode cX6_makeImplication 25 = .ok (.invokevirtual 154, 3) := by decide +kernel
theorem dX6_makeImplication_28 : decode cX6_makeImplication 28 = .ok (.aload_n 0, 1) := by decide +kernel
theorem dX6_makeImplication_29 : decode cX6_makeImplication 29 = .ok (.getfield 21, 3) := by decide +kernel
theorem dX6_makeImplication_32 : decode cX6_makeImplication 32 = .ok (.iload_n 1, 1) := by decide +kernel
theorem dX6_makeImplication_33 : decode cX6_makeImplication 33 = .ok (.invokevirtual 157, 3) := by decide +kernel
theorem dX6_makeImplication_36 : decode cX6_makeImplication 36 = .ok (.invokevirtual 52, 3) := by decide +kernel
theorem dX6_makeImplication_39 : decode cX6_makeImplication 39 = .ok (.invokestatic 56, 3) := by decide +kernel
theorem dX6_makeImplication_42 : decode cX6_makeImplication 42 = .ok (.istore_n 2, 1) := by decide +kernel
theorem dX6_makeImplication_43 : decode cX6_makeImplication 43 = .ok (.aload_n 0, 1) := by decide +kernel
theorem dX6_makeImplication_44 : decode cX6_makeImplication 44 = .ok (.getfield 21, 3) := by decide +kernel
theorem dX6_makeImplication_47 : decode cX6_makeImplication 47 = .ok (.iload_n 2, 1) := by decide +kernel
theorem dX6_makeImplication_48 : decode cX6_makeImplication 48 = .ok (.bipush 99, 2) := by decide +kernel
theorem dX6_makeImplication_50 : decode cX6_makeImplication 50 = .ok (.invokevirtual 107, 3) := by decide +kernel
theorem dX6_makeImplication_53 : decode cX6_makeImplication 53 = .ok (.istore_n 3, 1) := by decide +kernel
theorem dX6_makeImplication_54 : decode cX6_makeImplication 54 = .ok (.aload_n 0, 1) := by decide +kernel
theorem dX6_makeImplication_55 : decode cX6_makeImplication 55 = .ok (.getfield 21, 3) := by decide +kernel
theorem dX6_makeImplication_58 : decode cX6_makeImplication 58 = .ok (.iload_n 3, 1) := by decide +kernel
theorem dX6_makeImplication_59 : decode cX6_makeImplication 59 = .ok (.iload_n 1, 1) := by decide +kernel
theorem dX6_makeImplication_60 : decode cX6_makeImplication 60 = .ok (.iconst (-1), 1) := by decide +kernel
theorem dX6_makeImplication_61 : decode cX6_makeImplication 61 = .ok (.invokevirtual 160, 3) := by decide +kernel
theorem dX6_makeImplication_64 : decode cX6_makeImplication 64 = .ok (.iload_n 3, 1) := by decide +kernel
theorem dX6_makeImplication_65 : decode cX6_makeImplication 65 = .ok (.ireturn, 1) := by decide +kernel
theorem dX6_useImplication_0 : decode cX6_useImplication 0 = .ok (.aload_n 0, 1) := by decide +kernel
theorem dX6_useImplication_1 : decode cX6_useImplication 1 = .ok (.iload_n 1, 1) := by decide +kernel
theorem dX6_useImplication_2 : decode cX6_useImplication 2 = .ok (.iload_n 2, 1) := by decide +kernel
theorem dX6_useImplication_3 : decode cX6_useImplication 3 = .ok (.invokevirtual 135, 3) := by decide +kernel
theorem dX6_useImplication_6 : decode cX6_useImplication 6 = .ok (.aload_n 0, 1) := by decide +kernel
theorem dX6_useImplication_7 : decode cX6_useImplication 7 = .ok (.getfield 21, 3) := by decide +kernel
theorem dX6_useImplication_10 : decode cX6_useImplication 10 = .ok (.iload_n 1, 1) := by decide +kernel
theorem dX6_useImplication_11 : decode cX6_useImplication 11 = .ok (.invokevirtual 128, 3) := by decide +kernel
theorem dX6_useImplication_14 : decode cX6_useImplication 14 = .ok (.istore_n 3, 1) := by decide +kernel
theorem dX6_useImplication_15 : decode cX6_useImplication 15 = .ok (.aload_n 0, 1) := by decide +kernel
theorem dX6_useImplication_16 : decode cX6_useImplication 16 = .ok (.aload_n 0, 1) := by decide +kernel
theorem dX6_useImplication_17 : decode cX6_useImplication 17 = .ok (.getfield 15, 3) := by decide +kernel
theorem dX6_useImplication_20 : decode cX6_useImplication 20 = .ok (.iload_n 3, 1) := by decide +kernel
theorem dX6_useImplication_21 : decode cX6_useImplication 21 = .ok (.invokevirtual 138, 3) := by decide +kernel
theorem dX6_useImplication_24 : decode cX6_useImplication 24 = .ok (.bipush 67, 2) := by decide +kernel
theorem dX6_useImplication_26 : decode cX6_useImplication 26 = .ok (.if_icmp .ne 26, 3) := by decide +kernel
theorem dX6_useImplication_29 : decode cX6_useImplication 29 = .ok (.aload_n 0, 1) := by decide +kernel
theorem dX6_useImplication_30 : decode cX6_useImplication 30 = .ok (.getfield 21, 3) := by decide +kernel
theorem dX6_useImplication_33 : decode cX6_useImplication 33 = .ok (.iload_n 2, 1) := by decide +kernel
theorem dX6_useImplication_34 : decode cX6_useImplication 34 = .ok (.invokevirtual 128, 3) := by decide +kernel
theorem dX6_useImplication_37 : decode cX6_useImplication 37 = .ok (.aload_n 0, 1) := by decide +kernel
theorem dX6_useImplication_38 : decode cX6_useImplication 38 = .ok (.getfield 15, 3) := by decide +kernel
theorem dX6_useImplication_41 : decode cX6_useImplication 41 = .ok (.iload_n 3, 1) := by decide +kernel
theorem dX6_useImplication_42 : decode cX6_useImplication 42 = .ok (.invokevirtual 145, 3) := by decide +kernel
theorem dX6_useImplication_45 : decode cX6_useImplication 45 = .ok (.if_icmp .ne 7, 3) := by decide +kernel
theorem dX6_useImplication_48 : decode cX6_useImplication 48 = .ok (.iconst 1, 1) := by decide +kernel
theorem dX6_useImplication_49 : decode cX6_useImplication 49 = .ok (.goto 4, 3) := by decide +kernel
theorem dX6_useImplication_52 : decode cX6_useImplication 52 = .ok (.iconst 0, 1) := by decide +kernel
theorem dX6_useImplication_53 : decode cX6_useImplication 53 = .ok (.invokevirtual 100, 3) := by decide +kernel
theorem dX6_useImplication_56 : decode cX6_useImplication 56 = .ok (.aload_n 0, 1) := by decide +kernel
theorem dX6_useImplication_57 : decode cX6_useImplication 57 = .ok (.invokevirtual 104, 3) := by decide +kernel
theorem dX6_useImplication_60 : decode cX6_useImplication 60 = .ok (.aload_n 0, 1) := by decide +kernel
theorem dX6_useImplication_61 : decode cX6_useImplication 61 = .ok (.getfield 21, 3) := by decide +kernel
theorem dX6_useImplication_64 : decode cX6_useImplication 64 = .ok (.aload_n 0, 1) := by decide +kernel
theorem dX6_useImplication_65 : decode cX6_useImplication 65 = .ok (.getfield 15, 3) := by decide +kernel
theorem dX6_useImplication_68 : decode cX6_useImplication 68 = .ok (.iload_n 3, 1) := by decide +kernel
theorem dX6_useImplication_69 : decode cX6_useImplication 69 = .ok (.invokevirtual 142, 3) := by decide +kernel
theorem dX6_useImplication_72 : decode cX6_useImplication 72 = .ok (.bipush 109, 2) := by decide +kernel
theorem dX6_useImplication_74 : decode cX6_useImplication 74 = .ok (.iload_n 1, 1) := by decide +kernel
theorem dX6_useImplication_75 : decode cX6_useImplication 75 = .ok (.iload_n 2, 1) := by decide +kernel
theorem dX6_useImplication_76 : decode cX6_useImplication 76 = .ok (.invokevirtual 131, 3) := by decide +kernel
theorem dX6_useImplication_79 : decode cX6_useImplication 79 = .ok (.ireturn, 1) := by decide +kernel
theorem dX6_makeNegation_0 : decode cX6_makeNegation 0 = .ok (.aload_n 0, 1) := by decide +kernel
theorem dX6_makeNegation_1 : decode cX6_makeNegation 1 = .ok (.iload_n 1, 1) := by decide +kernel
theorem dX6_makeNegation_2 : decode cX6_makeNegation 2 = .ok (.invokevirtual 148, 3) := by decide +kernel
theorem dX6_makeNegation_5 : decode cX6_makeNegation 5 = .ok (.aload_n 0, 1) := by decide +kernel
theorem dX6_makeNegation_6 : decode cX6_makeNegation 6 = .ok (.iload_n 1, 1) := by decide +kernel
theorem dX6_makeNegation_7 : decode cX6_makeNegation 7 = .ok (.invokevirtual 151, 3) := by decide +kernel
theorem dX6_makeNegation_10 : decode cX6_makeNegation 10 = .ok (.aload_n 0, 1) := by decide +kernel
theorem dX6_makeNegation_11 : decode cX6_makeNegation 11 = .ok (.aload_n 0, 1) := by decide +kernel
theorem dX6_makeNegation_12 : decode cX6_makeNegation 12 = .ok (.getfield 15, 3) := by decide +kernel
theorem dX6_makeNegation_15 : decode cX6_makeNegation 15 = .ok (.aload_n 0, 1) := by decide +kernel
theorem dX6_makeNegation_16 : decode cX6_makeNegation 16 = .ok (.getfield 21, 3) := by decide +kernel
theorem dX6_makeNegation_19 : decode cX6_makeNegation 19 = .ok (.iload_n 1, 1) := by decide +kernel
theorem dX6_makeNegation_20 : decode cX6_makeNegation 20 = .ok (.invokevirtual 157, 3) := by decide +kernel
theorem dX6_makeNegation_23 : decode cX6_makeNegation 23 = .ok (.invokevirtual 138, 3) := by decide +kernel
theorem dX6_makeNegation_26 : decode cX6_makeNegation 26 = .ok (.bipush 70, 2) := by decide +kernel
theorem dX6_makeNegation_28 : decode cX6_makeNegation 28 = .ok (.if_icmp .ne 7, 3) := by decide +kernel
theorem dX6_makeNegation_31 : decode cX6_makeNegation 31 = .ok (.iconst 1, 1) := by decide +kernel
theorem dX6_makeNegation_32 : decode cX6_makeNegation 32 = .ok (.goto 4, 3) := by decide +kernel
theorem dX6_makeNegation_35 : decode cX6_makeNegation 35 = .ok (.iconst 0, 1) := by decide +kernel
theorem dX6_makeNegation_36 : decode cX6_makeNegation 36 = .ok (.invokevirtual 100, 3) := by decide +kernel
theorem dX6_makeNegation_39 : decode cX6_makeNegation 39 = .ok (.aload_n 0, 1) := by decide +kernel
theorem dX6_makeNegation_40 : decode cX6_makeNegation 40 = .ok (.invokevirtual 104, 3) := by decide +kernel
theorem dX6_makeNegation_43 : decode cX6_makeNegation 43 = .ok (.aload_n 0, 1) := by decide +kernel
theorem dX6_makeNegation_44 : decode cX6_makeNegation 44 = .ok (.getfield 15, 3) := by decide +kernel
theorem dX6_makeNegation_47 : decode cX6_makeNegation 47 = .ok (.bipush 78, 2) := by decide +kernel
theorem dX6_makeNegation_49 : decode cX6_makeNegation 49 = .ok (.aload_n 0, 1) := by decide +kernel
theorem dX6_makeNegation_50 : decode cX6_makeNegation 50 = .ok (.getfield 21, 3) := by decide +kernel
theorem dX6_makeNegation_53 : decode cX6_makeNegation 53 = .ok (.iload_n 1, 1) := by decide +kernel
theorem dX6_makeNegation_54 : decode cX6_makeNegation 54 = .ok (.invokevirtual 154, 3) := by decide +kernel
theorem dX6_makeNegation_57 : decode cX6_makeNegation 57 = .ok (.iconst (-1), 1) := by decide +kernel
theorem dX6_makeNegation_58 : decode cX6_makeNegation 58 = .ok (.invokevirtual 52, 3) := by decide +kernel
theorem dX6_makeNegation_61 : decode cX6_makeNegation 61 = .ok (.invokestatic 56, 3) := by decide +kernel
theorem dX6_makeNegation_64 : decode cX6_makeNegation 64 = .ok (.istore_n 2, 1) := by decide +kernel
theorem dX6_makeNegation_65 : decode cX6_makeNegation 65 = .ok (.aload_n 0, 1) := by decide +kernel
theorem dX6_makeNegation_66 : decode cX6_makeNegation 66 = .ok (.getfield 21, 3) := by decide +kernel
theorem dX6_makeNegation_69 : decode cX6_makeNegation 69 = .ok (.iload_n 2, 1) := by decide +kernel
theorem dX6_makeNegation_70 : decode cX6_makeNegation 70 = .ok (.bipush 105, 2) := by decide +kernel
theorem dX6_makeNegation_72 : decode cX6_makeNegation 72 = .ok (.invokevirtual 107, 3) := by decide +kernel
theorem dX6_makeNegation_75 : decode cX6_makeNegation 75 = .ok (.istore_n 3, 1) := by decide +kernel
theorem dX6_makeNegation_76 : decode cX6_makeNegation 76 = .ok (.aload_n 0, 1) := by decide +kernel
theorem dX6_makeNegation_77 : decode cX6_makeNegation 77 = .ok (.getfield 21, 3) := by decide +kernel
theorem dX6_makeNegation_80 : decode cX6_makeNegation 80 = .ok (.iload_n 3, 1) := by decide +kernel
theorem dX6_makeNegation_81 : decode cX6_makeNegation 81 = .ok (.iload_n 1, 1) := by decide +kernel
theorem dX6_makeNegation_82 : decode cX6_makeNegation 82 = .ok (.iconst (-1), 1) := by decide +kernel
theorem dX6_makeNegation_83 : decode cX6_makeNegation 83 = .ok (.invokevirtual 160, 3) := by decide +kernel
theorem dX6_makeNegation_86 : decode cX6_makeNegation 86 = .ok (.iload_n 3, 1) := by decide +kernel
theorem dX6_makeNegation_87 : decode cX6_makeNegation 87 = .ok (.ireturn, 1) := by decide +kernel
theorem dX6_useNegation_0 : decode cX6_useNegation 0 = .ok (.aload_n 0, 1) := by decide +kernel
theorem dX6_useNegation_1 : decode cX6_useNegation 1 = .ok (.iload_n 1, 1) := by decide +kernel
theorem dX6_useNegation_2 : decode cX6_useNegation 2 = .ok (.iload_n 2, 1) := by decide +kernel
theorem dX6_useNegation_3 : decode cX6_useNegation 3 = .ok (.invokevirtual 135, 3) := by decide +kernel
theorem dX6_useNegation_6 : decode cX6_useNegation 6 = .ok (.aload_n 0, 1) := by decide +kernel
theorem dX6_useNegation_7 : decode cX6_useNegation 7 = .ok (.getfield 21, 3) := by decide +kernel
theorem dX6_useNegation_10 : decode cX6_useNegation 10 = .ok (.iload_n 1, 1) := by decide +kernel
theorem dX6_useNegation_11 : decode cX6_useNegation 11 = .ok (.invokevirtual 128, 3) := by decide +kernel
theorem dX6_useNegation_14 : decode cX6_useNegation 14 = .ok (.istore_n 3, 1) := by decide +kernel
theorem dX6_useNegation_15 : decode cX6_useNegation 15 = .ok (.aload_n 0, 1) := by decide +kernel
theorem dX6_useNegation_16 : decode cX6_useNegation 16 = .ok (.aload_n 0, 1) := by decide +kernel
theorem dX6_useNegation_17 : decode cX6_useNegation 17 = .ok (.getfield 15, 3) := by decide +kernel
theorem dX6_useNegation_20 : decode cX6_useNegation 20 = .ok (.iload_n 3, 1) := by decide +kernel
theorem dX6_useNegation_21 : decode cX6_useNegation 21 = .ok (.invokevirtual 138, 3) := by decide +kernel
theorem dX6_useNegation_24 : decode cX6_useNegation 24 = .ok (.bipush 78, 2) := by decide +kernel
theorem dX6_useNegation_26 : decode cX6_useNegation 26 = .ok (.if_icmp .ne 26, 3) := by decide +kernel
theorem dX6_useNegation_29 : decode cX6_useNegation 29 = .ok (.aload_n 0, 1) := by decide +kernel
theorem dX6_useNegation_30 : decode cX6_useNegation 30 = .ok (.getfield 21, 3) := by decide +kernel
theorem dX6_useNegation_33 : decode cX6_useNegation 33 = .ok (.iload_n 2, 1) := by decide +kernel
theorem dX6_useNegation_34 : decode cX6_useNegation 34 = .ok (.invokevirtual 128, 3) := by decide +kernel
theorem dX6_useNegation_37 : decode cX6_useNegation 37 = .ok (.aload_n 0, 1) := by decide +kernel
theorem dX6_useNegation_38 : decode cX6_useNegation 38 = .ok (.getfield 15, 3) := by decide +kernel
theorem dX6_useNegation_41 : decode cX6_useNegation 41 = .ok (.iload_n 3, 1) := by decide +kernel
theorem dX6_useNegation_42 : decode cX6_useNegation 42 = .ok (.invokevirtual 145, 3) := by decide +kernel
theorem dX6_useNegation_45 : decode cX6_useNegation 45 = .ok (.if_icmp .ne 7, 3) := by decide +kernel
theorem dX6_useNegation_48 : decode cX6_useNegation 48 = .ok (.iconst 1, 1) := by decide +kernel
theorem dX6_useNegation_49 : decode cX6_useNegation 49 = .ok (.goto 4, 3) := by decide +kernel
theorem dX6_useNegation_52 : decode cX6_useNegation 52 = .ok (.iconst 0, 1) := by decide +kernel
theorem dX6_useNegation_53 : decode cX6_useNegation 53 = .ok (.invokevirtual 100, 3) := by decide +kernel
theorem dX6_useNegation_56 : decode cX6_useNegation 56 = .ok (.aload_n 0, 1) := by decide +kernel
theorem dX6_useNegation_57 : decode cX6_useNegation 57 = .ok (.invokevirtual 104, 3) := by decide +kernel
theorem dX6_useNegation_60 : decode cX6_useNegation 60 = .ok (.aload_n 0, 1) := by decide +kernel
theorem dX6_useNegation_61 : decode cX6_useNegation 61 = .ok (.getfield 15, 3) := by decide +kernel
theorem dX6_useNegation_64 : decode cX6_useNegation 64 = .ok (.bipush 70, 2) := by decide +kernel
theorem dX6_useNegation_66 : decode cX6_useNegation 66 = .ok (.iconst (-1), 1) := by decide +kernel
theorem dX6_useNegation_67 : decode cX6_useNegation 67 = .ok (.iconst (-1), 1) := by decide +kernel
theorem dX6_useNegation_68 : decode cX6_useNegation 68 = .ok (.invokevirtual 52, 3) := by decide +kernel
theorem dX6_useNegation_71 : decode cX6_useNegation 71 = .ok (.invokestatic 56, 3) := by decide +kernel
theorem dX6_useNegation_74 : decode cX6_useNegation 74 = .ok (.istore 4, 2) := by decide +kernel
theorem dX6_useNegation_76 : decode cX6_useNegation 76 = .ok (.aload_n 0, 1) := by decide +kernel
theorem dX6_useNegation_77 : decode cX6_useNegation 77 = .ok (.getfield 21, 3) := by decide +kernel
theorem dX6_useNegation_80 : decode cX6_useNegation 80 = .ok (.iload 4, 2) := by decide +kernel
theorem dX6_useNegation_82 : decode cX6_useNegation 82 = .ok (.bipush 110, 2) := by decide +kernel
theorem dX6_useNegation_84 : decode cX6_useNegation 84 = .ok (.iload_n 1, 1) := by decide +kernel
theorem dX6_useNegation_85 : decode cX6_useNegation 85 = .ok (.iload_n 2, 1) := by decide +kernel
theorem dX6_useNegation_86 : decode cX6_useNegation 86 = .ok (.invokevirtual 131, 3) := by decide +kernel
theorem dX6_useNegation_89 : decode cX6_useNegation 89 = .ok (.ireturn, 1) := by decide +kernel
theorem dX6_fromFalsum_0 : decode cX6_fromFalsum 0 = .ok (.aload_n 0, 1) := by decide +kernel
theorem dX6_fromFalsum_1 : decode cX6_fromFalsum 1 = .ok (.iload_n 1, 1) := by decide +kernel
theorem dX6_fromFalsum_2 : decode cX6_fromFalsum 2 = .ok (.invokevirtual 122, 3) := by decide +kernel
theorem dX6_fromFalsum_5 : decode cX6_fromFalsum 5 = .ok (.aload_n 0, 1) := by decide +kernel
theorem dX6_fromFalsum_6 : decode cX6_fromFalsum 6 = .ok (.iload_n 2, 1) := by decide +kernel
theorem dX6_fromFalsum_7 : decode cX6_fromFalsum 7 = .ok (.invokevirtual 60, 3) := by decide +kernel
theorem dX6_fromFalsum_10 : decode cX6_fromFalsum 10 = .ok (.aload_n 0, 1) := by decide +kernel
theorem dX6_fromFalsum_11 : decode cX6_fromFalsum 11 = .ok (.iload_n 1, 1) := by decide +kernel
theorem dX6_fromFalsum_12 : decode cX6_fromFalsum 12 = .ok (.invokevirtual 125, 3) := by decide +kernel
theorem dX6_fromFalsum_15 : decode cX6_fromFalsum 15 = .ok (.aload_n 0, 1) := by decide +kernel
theorem dX6_fromFalsum_16 : decode cX6_fromFalsum 16 = .ok (.aload_n 0, 1) := by decide +kernel
