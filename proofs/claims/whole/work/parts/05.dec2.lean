theorem dX8_init_0 : decode cX8_init 0 = .ok (.aload_n 0, 1) := by decide +kernel
theorem dX8_init_1 : decode cX8_init 1 = .ok (.invokespecial 1, 3) := by decide +kernel
theorem dX8_init_4 : decode cX8_init 4 = .ok (.aload_n 0, 1) := by decide +kernel
theorem dX8_init_5 : decode cX8_init 5 = .ok (.new 7, 3) := by decide +kernel
theorem dX8_init_8 : decode cX8_init 8 = .ok (.dup, 1) := by decide +kernel
theorem dX8_init_9 : decode cX8_init 9 = .ok (.invokespecial 9, 3) := by decide +kernel
theorem dX8_init_12 : decode cX8_init 12 = .ok (.putfield 10, 3) := by decide +kernel
theorem dX8_init_15 : decode cX8_init 15 = .ok (.aload_n 0, 1) := by decide +kernel
theorem dX8_init_16 : decode cX8_init 16 = .ok (.new 7, 3) := by decide +kernel
theorem dX8_init_19 : decode cX8_init 19 = .ok (.dup, 1) := by decide +kernel
theorem dX8_init_20 : decode cX8_init 20 = .ok (.invokespecial 9, 3) := by decide +kernel
theorem dX8_init_23 : decode cX8_init 23 = .ok (.putfield 16, 3) := by decide +kernel
theorem dX8_init_26 : decode cX8_init 26 = .ok (.aload_n 0, 1) := by decide +kernel
theorem dX8_init_27 : decode cX8_init 27 = .ok (.new 7, 3) := by decide +kernel
theorem dX8_init_30 : decode cX8_init 30 = .ok (.dup, 1) := by decide +kernel
theorem dX8_init_31 : decode cX8_init 31 = .ok (.invokespecial 9, 3) := by decide +kernel
theorem dX8_init_34 : decode cX8_init 34 = .ok (.putfield 19, 3) := by decide +kernel
theorem dX8_init_37 : decode cX8_init 37 = .ok (.aload_n 0, 1) := by decide +kernel
theorem dX8_init_38 : decode cX8_init 38 = .ok (.new 22, 3) := by decide +kernel
theorem dX8_init_41 : decode cX8_init 41 = .ok (.dup, 1) := by decide +kernel
theorem dX8_init_42 : decode cX8_init 42 = .ok (.invokespecial 24, 3) := by decide +kernel
theorem dX8_init_45 : decode cX8_init 45 = .ok (.putfield 25, 3) := by decide +kernel
theorem dX8_init_48 : decode cX8_init 48 = .ok (.aload_n 0, 1) := by decide +kernel
theorem dX8_init_49 : decode cX8_init 49 = .ok (.new 29, 3) := by decide +kernel
theorem dX8_init_52 : decode cX8_init 52 = .ok (.dup, 1) := by decide +kernel
theorem dX8_init_53 : decode cX8_init 53 = .ok (.invokespecial 31, 3) := by decide +kernel
theorem dX8_init_56 : decode cX8_init 56 = .ok (.putfield 32, 3) := by decide +kernel
theorem dX8_init_59 : decode cX8_init 59 = .ok (.aload_n 0, 1) := by decide +kernel
theorem dX8_init_60 : decode cX8_init 60 = .ok (.new 36, 3) := by decide +kernel
theorem dX8_init_63 : decode cX8_init 63 = .ok (.dup, 1) := by decide +kernel
theorem dX8_init_64 : decode cX8_init 64 = .ok (.invokespecial 38, 3) := by decide +kernel
theorem dX8_init_67 : decode cX8_init 67 = .ok (.putfield 39, 3) := by decide +kernel
theorem dX8_init_70 : decode cX8_init 70 = .ok (.aload_n 0, 1) := by decide +kernel
theorem dX8_init_71 : decode cX8_init 71 = .ok (.bipush 60, 2) := by decide +kernel
theorem dX8_init_73 : decode cX8_init 73 = .ok (.newarray .int, 2) := by decide +kernel
theorem dX8_init_75 : decode cX8_init 75 = .ok (.putfield 43, 3) := by decide +kernel
theorem dX8_init_78 : decode cX8_init 78 = .ok (.return_, 1) := by decide +kernel
theorem dX8_ship_0 : decode cX8_ship 0 = .ok (.iload_n 1, 1) := by decide +kernel
theorem dX8_ship_1 : decode cX8_ship 1 = .ok (.invokestatic 47, 3) := by decide +kernel
theorem dX8_ship_4 : decode cX8_ship 4 = .ok (.ifCond .eq 22, 3) := by decide +kernel
theorem dX8_ship_7 : decode cX8_ship 7 = .ok (.iload_n 2, 1) := by decide +kernel
theorem dX8_ship_8 : decode cX8_ship 8 = .ok (.aload_n 0, 1) := by decide +kernel
theorem dX8_ship_9 : decode cX8_ship 9 = .ok (.getfield 10, 3) := by decide +kernel
theorem dX8_ship_12 : decode cX8_ship 12 = .ok (.getfield 51, 3) := by decide +kernel
theorem dX8_ship_15 : decode cX8_ship 15 = .ok (.iconst 1, 1) := by decide +kernel
theorem dX8_ship_16 : decode cX8_ship 16 = .ok (.iadd, 1) := by decide +kernel
theorem dX8_ship_17 : decode cX8_ship 17 = .ok (.sipush 1999, 3) := by decide +kernel
theorem dX8_ship_20 : decode cX8_ship 20 = .ok (.invokestatic 55, 3) := by decide +kernel
theorem dX8_ship_23 : decode cX8_ship 23 = .ok (.ifCond .ne 6, 3) := by decide +kernel
theorem dX8_ship_26 : decode cX8_ship 26 = .ok (.ldc 59, 2) := by decide +kernel
theorem dX8_ship_28 : decode cX8_ship 28 = .ok (.ireturn, 1) := by decide +kernel
theorem dX8_ship_29 : decode cX8_ship 29 = .ok (.aload_n 0, 1) := by decide +kernel
theorem dX8_ship_30 : decode cX8_ship 30 = .ok (.getfield 10, 3) := by decide +kernel
theorem dX8_ship_33 : decode cX8_ship 33 = .ok (.getfield 60, 3) := by decide +kernel
theorem dX8_ship_36 : decode cX8_ship 36 = .ok (.iload_n 1, 1) := by decide +kernel
theorem dX8_ship_37 : decode cX8_ship 37 = .ok (.iload_n 2, 1) := by decide +kernel
theorem dX8_ship_38 : decode cX8_ship 38 = .ok (.iconst 0, 1) := by decide +kernel
theorem dX8_ship_39 : decode cX8_ship 39 = .ok (.iconst 0, 1) := by decide +kernel
theorem dX8_ship_40 : decode cX8_ship 40 = .ok (.invokevirtual 64, 3) := by decide +kernel
theorem dX8_ship_43 : decode cX8_ship 43 = .ok (.ireturn, 1) := by decide +kernel
theorem dX8_man_0 : decode cX8_man 0 = .ok (.aload_n 0, 1) := by decide +kernel
theorem dX8_man_1 : decode cX8_man 1 = .ok (.getfield 10, 3) := by decide +kernel
theorem dX8_man_4 : decode cX8_man 4 = .ok (.getfield 60, 3) := by decide +kernel
theorem dX8_man_7 : decode cX8_man 7 = .ok (.iload_n 1, 1) := by decide +kernel
theorem dX8_man_8 : decode cX8_man 8 = .ok (.invokevirtual 70, 3) := by decide +kernel
theorem dX8_man_11 : decode cX8_man 11 = .ok (.ifCond .eq 25, 3) := by decide +kernel
theorem dX8_man_14 : decode cX8_man 14 = .ok (.aload_n 0, 1) := by decide +kernel
theorem dX8_man_15 : decode cX8_man 15 = .ok (.getfield 10, 3) := by decide +kernel
theorem dX8_man_18 : decode cX8_man 18 = .ok (.getfield 60, 3) := by decide +kernel
theorem dX8_man_21 : decode cX8_man 21 = .ok (.iload_n 1, 1) := by decide +kernel
theorem dX8_man_22 : decode cX8_man 22 = .ok (.iconst 1, 1) := by decide +kernel
theorem dX8_man_23 : decode cX8_man 23 = .ok (.invokevirtual 73, 3) := by decide +kernel
theorem dX8_man_26 : decode cX8_man 26 = .ok (.aload_n 0, 1) := by decide +kernel
theorem dX8_man_27 : decode cX8_man 27 = .ok (.getfield 10, 3) := by decide +kernel
theorem dX8_man_30 : decode cX8_man 30 = .ok (.getfield 51, 3) := by decide +kernel
theorem dX8_man_33 : decode cX8_man 33 = .ok (.if_icmp .ge 6, 3) := by decide +kernel
theorem dX8_man_36 : decode cX8_man 36 = .ok (.ldc 59, 2) := by decide +kernel
theorem dX8_man_38 : decode cX8_man 38 = .ok (.ireturn, 1) := by decide +kernel
theorem dX8_man_39 : decode cX8_man 39 = .ok (.iload_n 2, 1) := by decide +kernel
theorem dX8_man_40 : decode cX8_man 40 = .ok (.iconst 0, 1) := by decide +kernel
theorem dX8_man_41 : decode cX8_man 41 = .ok (.bipush 7, 2) := by decide +kernel
theorem dX8_man_43 : decode cX8_man 43 = .ok (.invokestatic 55, 3) := by decide +kernel
theorem dX8_man_46 : decode cX8_man 46 = .ok (.ifCond .eq 12, 3) := by decide +kernel
theorem dX8_man_49 : decode cX8_man 49 = .ok (.iload_n 3, 1) := by decide +kernel
theorem dX8_man_50 : decode cX8_man 50 = .ok (.iconst 0, 1) := by decide +kernel
theorem dX8_man_51 : decode cX8_man 51 = .ok (.iconst 5, 1) := by decide +kernel
theorem dX8_man_52 : decode cX8_man 52 = .ok (.invokestatic 55, 3) := by decide +kernel
theorem dX8_man_55 : decode cX8_man 55 = .ok (.ifCond .ne 6, 3) := by decide +kernel
theorem dX8_man_58 : decode cX8_man 58 = .ok (.ldc 59, 2) := by decide +kernel
theorem dX8_man_60 : decode cX8_man 60 = .ok (.ireturn, 1) := by decide +kernel
theorem dX8_man_61 : decode cX8_man 61 = .ok (.iload 4, 2) := by decide +kernel
theorem dX8_man_63 : decode cX8_man 63 = .ok (.bipush 10, 2) := by decide +kernel
theorem dX8_man_65 : decode cX8_man 65 = .ok (.bipush 70, 2) := by decide +kernel
theorem dX8_man_67 : decode cX8_man 67 = .ok (.invokestatic 55, 3) := by decide +kernel
theorem dX8_man_70 : decode cX8_man 70 = .ok (.ifCond .eq 15, 3) := by decide +kernel
theorem dX8_man_73 : decode cX8_man 73 = .ok (.iload 5, 2) := by decide +kernel
theorem dX8_man_75 : decode cX8_man 75 = .ok (.iconst 0, 1) := by decide +kernel
theorem dX8_man_76 : decode cX8_man 76 = .ok (.sipush 255, 3) := by decide +kernel
theorem dX8_man_79 : decode cX8_man 79 = .ok (.invokestatic 55, 3) := by decide +kernel
theorem dX8_man_82 : decode cX8_man 82 = .ok (.ifCond .ne 6, 3) := by decide +kernel
theorem dX8_man_85 : decode cX8_man 85 = .ok (.ldc 59, 2) := by decide +kernel
theorem dX8_man_87 : decode cX8_man 87 = .ok (.ireturn, 1) := by decide +kernel
theorem dX8_man_88 : decode cX8_man 88 = .ok (.aload_n 0, 1) := by decide +kernel
theorem dX8_man_89 : decode cX8_man 89 = .ok (.getfield 10, 3) := by decide +kernel
theorem dX8_man_92 : decode cX8_man 92 = .ok (.getfield 77, 3) := by decide +kernel
theorem dX8_man_95 : decode cX8_man 95 = .ok (.iload_n 2, 1) := by decide +kernel
theorem dX8_man_96 : decode cX8_man 96 = .ok (.iload_n 3, 1) := by decide +kernel
theorem dX8_man_97 : decode cX8_man 97 = .ok (.iload 4, 2) := by decide +kernel
theorem dX8_man_99 : decode cX8_man 99 = .ok (.iload 5, 2) := by decide +kernel
theorem dX8_man_101 : decode cX8_man 101 = .ok (.invokevirtual 64, 3) := by decide +kernel
theorem dX8_man_104 : decode cX8_man 104 = .ok (.istore 6, 2) := by decide +kernel
theorem dX8_man_106 : decode cX8_man 106 = .ok (.iload 6, 2) := by decide +kernel
theorem dX8_man_108 : decode cX8_man 108 = .ok (.ldc 80, 2) := by decide +kernel
theorem dX8_man_110 : decode cX8_man 110 = .ok (.if_icmp .eq 13, 3) := by decide +kernel
theorem dX8_man_113 : decode cX8_man 113 = .ok (.aload_n 0, 1) := by decide +kernel
theorem dX8_man_114 : decode cX8_man 114 = .ok (.getfield 10, 3) := by decide +kernel
theorem dX8_man_117 : decode cX8_man 117 = .ok (.iload 6, 2) := by decide +kernel
theorem dX8_man_119 : decode cX8_man 119 = .ok (.iload_n 1, 1) := by decide +kernel
theorem dX8_man_120 : decode cX8_man 120 = .ok (.invokevirtual 81, 3) := by decide +kernel
theorem dX8_man_123 : decode cX8_man 123 = .ok (.iload 6, 2) := by decide +kernel
theorem dX8_man_125 : decode cX8_man 125 = .ok (.ireturn, 1) := by decide +kernel
theorem dX8_term_0 : decode cX8_term 0 = .ok (.aload_n 0, 1) := by decide +kernel
theorem dX8_term_1 : decode cX8_term 1 = .ok (.getfield 10, 3) := by decide +kernel
theorem dX8_term_4 : decode cX8_term 4 = .ok (.getfield 77, 3) := by decide +kernel
theorem dX8_term_7 : decode cX8_term 7 = .ok (.iload_n 1, 1) := by decide +kernel
theorem dX8_term_8 : decode cX8_term 8 = .ok (.invokevirtual 70, 3) := by decide +kernel
theorem dX8_term_11 : decode cX8_term 11 = .ok (.ifCond .eq 14, 3) := by decide +kernel
theorem dX8_term_14 : decode cX8_term 14 = .ok (.iload_n 2, 1) := by decide +kernel
theorem dX8_term_15 : decode cX8_term 15 = .ok (.iconst 1, 1) := by decide +kernel
theorem dX8_term_16 : decode cX8_term 16 = .ok (.sipush 999, 3) := by decide +kernel
theorem dX8_term_19 : decode cX8_term 19 = .ok (.invokestatic 55, 3) := by decide +kernel
theorem dX8_term_22 : decode cX8_term 22 = .ok (.ifCond .ne 6, 3) := by decide +kernel
theorem dX8_term_25 : decode cX8_term 25 = .ok (.ldc 59, 2) := by decide +kernel
theorem dX8_term_27 : decode cX8_term 27 = .ok (.ireturn, 1) := by decide +kernel
theorem dX8_term_28 : decode cX8_term 28 = .ok (.aload_n 0, 1) := by decide +kernel
theorem dX8_term_29 : decode cX8_term 29 = .ok (.getfield 10, 3) := by decide +kernel
theorem dX8_term_32 : decode cX8_term 32 = .ok (.iload_n 1, 1) := by decide +kernel
theorem dX8_term_33 : decode cX8_term 33 = .ok (.invokevirtual 85, 3) := by decide +kernel
theorem dX8_term_36 : decode cX8_term 36 = .ok (.ifCond .eq 6, 3) := by decide +kernel
theorem dX8_term_39 : decode cX8_term 39 = .ok (.ldc 88, 2) := by decide +kernel
theorem dX8_term_41 : decode cX8_term 41 = .ok (.ireturn, 1) := by decide +kernel
theorem dX8_term_42 : decode cX8_term 42 = .ok (.aload_n 0, 1) := by decide +kernel
theorem dX8_term_43 : decode cX8_term 43 = .ok (.getfield 10, 3) := by decide +kernel
theorem dX8_term_46 : decode cX8_term 46 = .ok (.getfield 77, 3) := by decide +kernel
theorem dX8_term_49 : decode cX8_term 49 = .ok (.iload_n 1, 1) := by decide +kernel
theorem dX8_term_50 : decode cX8_term 50 = .ok (.bipush 13, 2) := by decide +kernel
theorem dX8_term_52 : decode cX8_term 52 = .ok (.iload_n 2, 1) := by decide +kernel
theorem dX8_term_53 : decode cX8_term 53 = .ok (.invokevirtual 89, 3) := by decide +kernel
theorem dX8_term_56 : decode cX8_term 56 = .ok (.ireturn, 1) := by decide +kernel
theorem dX8_told_0 : decode cX8_told 0 = .ok (.aload_n 0, 1) := by decide +kernel
theorem dX8_told_1 : decode cX8_told 1 = .ok (.getfield 10, 3) := by decide +kernel
theorem dX8_told_4 : decode cX8_told 4 = .ok (.getfield 77, 3) := by decide +kernel
theorem dX8_told_7 : decode cX8_told 7 = .ok (.iload_n 1, 1) := by decide +kernel
theorem dX8_told_8 : decode cX8_told 8 = .ok (.invokevirtual 70, 3) := by decide +kernel
theorem dX8_told_11 : decode cX8_told 11 = .ok (.ifCond .eq 13, 3) := by decide +kernel
theorem dX8_told_14 : decode cX8_told 14 = .ok (.iload_n 2, 1) := by decide +kernel
theorem dX8_told_15 : decode cX8_told 15 = .ok (.iconst 0, 1) := by decide +kernel
theorem dX8_told_16 : decode cX8_told 16 = .ok (.bipush 11, 2) := by decide +kernel
theorem dX8_told_18 : decode cX8_told 18 = .ok (.invokestatic 55, 3) := by decide +kernel
theorem dX8_told_21 : decode cX8_told 21 = .ok (.ifCond .ne 6, 3) := by decide +kernel
theorem dX8_told_24 : decode cX8_told 24 = .ok (.ldc 59, 2) := by decide +kernel
theorem dX8_told_26 : decode cX8_told 26 = .ok (.ireturn, 1) := by decide +kernel
theorem dX8_told_27 : decode cX8_told 27 = .ok (.iload_n 2, 1) := by decide +kernel
theorem dX8_told_28 : decode cX8_told 28 = .ok (.bipush 8, 2) := by decide +kernel
theorem dX8_told_30 : decode cX8_told 30 = .ok (.if_icmp .ne 14, 3) := by decide +kernel
theorem dX8_told_33 : decode cX8_told 33 = .ok (.aload_n 0, 1) := by decide +kernel
theorem dX8_told_34 : decode cX8_told 34 = .ok (.getfield 10, 3) := by decide +kernel
theorem dX8_told_37 : decode cX8_told 37 = .ok (.iload_n 1, 1) := by decide +kernel
theorem dX8_told_38 : decode cX8_told 38 = .ok (.invokevirtual 93, 3) := by decide +kernel
theorem dX8_told_41 : decode cX8_told 41 = .ok (.goto 15, 3) := by decide +kernel
theorem dX8_told_44 : decode cX8_told 44 = .ok (.aload_n 0, 1) := by decide +kernel
theorem dX8_told_45 : decode cX8_told 45 = .ok (.getfield 10, 3) := by decide +kernel
theorem dX8_told_48 : decode cX8_told 48 = .ok (.getfield 77, 3) := by decide +kernel
theorem dX8_told_51 : decode cX8_told 51 = .ok (.iload_n 1, 1) := by decide +kernel
theorem dX8_told_52 : decode cX8_told 52 = .ok (.iload_n 2, 1) := by decide +kernel
theorem dX8_told_53 : decode cX8_told 53 = .ok (.invokevirtual 73, 3) := by decide +kernel
theorem dX8_told_56 : decode cX8_told 56 = .ok (.ireturn, 1) := by decide +kernel
theorem dX8_as_0 : decode cX8_as 0 = .ok (.aload_n 0, 1) := by decide +kernel
theorem dX8_as_1 : decode cX8_as 1 = .ok (.getfield 10, 3) := by decide +kernel
theorem dX8_as_4 : decode cX8_as 4 = .ok (.getfield 77, 3) := by decide +kernel
theorem dX8_as_7 : decode cX8_as 7 = .ok (.iload_n 1, 1) := by decide +kernel
theorem dX8_as_8 : decode cX8_as 8 = .ok (.invokevirtual 70, 3) := by decide +kernel
theorem dX8_as_11 : decode cX8_as 11 = .ok (.ifCond .eq 13, 3) := by decide +kernel
theorem dX8_as_14 : decode cX8_as 14 = .ok (.iload_n 2, 1) := by decide +kernel
theorem dX8_as_15 : decode cX8_as 15 = .ok (.iconst 0, 1) := by decide +kernel
theorem dX8_as_16 : decode cX8_as 16 = .ok (.bipush 7, 2) := by decide +kernel
theorem dX8_as_18 : decode cX8_as 18 = .ok (.invokestatic 55, 3) := by decide +kernel
theorem dX8_as_21 : decode cX8_as 21 = .ok (.ifCond .ne 6, 3) := by decide +kernel
theorem dX8_as_24 : decode cX8_as 24 = .ok (.ldc 59, 2) := by decide +kernel
theorem dX8_as_26 : decode cX8_as 26 = .ok (.ireturn, 1) := by decide +kernel
theorem dX8_as_27 : decode cX8_as 27 = .ok (.aload_n 0, 1) := by decide +kernel
theorem dX8_as_28 : decode cX8_as 28 = .ok (.getfield 10, 3) := by decide +kernel
theorem dX8_as_31 : decode cX8_as 31 = .ok (.getfield 77, 3) := by decide +kernel
theorem dX8_as_34 : decode cX8_as 34 = .ok (.iload_n 1, 1) := by decide +kernel
theorem dX8_as_35 : decode cX8_as 35 = .ok (.iconst 5, 1) := by decide +kernel
theorem dX8_as_36 : decode cX8_as 36 = .ok (.invokevirtual 73, 3) := by decide +kernel
theorem dX8_as_39 : decode cX8_as 39 = .ok (.iload_n 2, 1) := by decide +kernel
theorem dX8_as_40 : decode cX8_as 40 = .ok (.invokestatic 97, 3) := by decide +kernel
theorem dX8_as_43 : decode cX8_as 43 = .ok (.ifCond .ne 6, 3) := by decide +kernel
theorem dX8_as_46 : decode cX8_as 46 = .ok (.ldc 101, 2) := by decide +kernel
theorem dX8_as_48 : decode cX8_as 48 = .ok (.ireturn, 1) := by decide +kernel
theorem dX8_as_49 : decode cX8_as 49 = .ok (.aload_n 0, 1) := by decide +kernel
theorem dX8_as_50 : decode cX8_as 50 = .ok (.getfield 10, 3) := by decide +kernel
theorem dX8_as_53 : decode cX8_as 53 = .ok (.getfield 77, 3) := by decide +kernel
theorem dX8_as_56 : decode cX8_as 56 = .ok (.iload_n 1, 1) := by decide +kernel
theorem dX8_as_57 : decode cX8_as 57 = .ok (.bipush 6, 2) := by decide +kernel
theorem dX8_as_59 : decode cX8_as 59 = .ok (.invokevirtual 73, 3) := by decide +kernel
theorem dX8_as_62 : decode cX8_as 62 = .ok (.ireturn, 1) := by decide +kernel
theorem dX8_dies_0 : decode cX8_dies 0 = .ok (.aload_n 0, 1) := by decide +kernel
theorem dX8_dies_1 : decode cX8_dies 1 = .ok (.getfield 10, 3) := by decide +kernel
theorem dX8_dies_4 : decode cX8_dies 4 = .ok (.getfield 77, 3) := by decide +kernel
theorem dX8_dies_7 : decode cX8_dies 7 = .ok (.iload_n 1, 1) := by decide +kernel
theorem dX8_dies_8 : decode cX8_dies 8 = .ok (.invokevirtual 70, 3) := by decide +kernel
theorem dX8_dies_11 : decode cX8_dies 11 = .ok (.ifCond .ne 6, 3) := by decide +kernel
theorem dX8_dies_14 : decode cX8_dies 14 = .ok (.ldc 59, 2) := by decide +kernel
theorem dX8_dies_16 : decode cX8_dies 16 = .ok (.ireturn, 1) := by decide +kernel
theorem dX8_dies_17 : decode cX8_dies 17 = .ok (.aload_n 0, 1) := by decide +kernel
theorem dX8_dies_18 : decode cX8_dies 18 = .ok (.getfield 10, 3) := by decide +kernel
theorem dX8_dies_21 : decode cX8_dies 21 = .ok (.iload_n 1, 1) := by decide +kernel
theorem dX8_dies_22 : decode cX8_dies 22 = .ok (.invokevirtual 102, 3) := by decide +kernel
theorem dX8_dies_25 : decode cX8_dies 25 = .ok (.ifCond .eq 6, 3) := by decide +kernel
theorem dX8_dies_28 : decode cX8_dies 28 = .ok (.ldc 88, 2) := by decide +kernel
theorem dX8_dies_30 : decode cX8_dies 30 = .ok (.ireturn, 1) := by decide +kernel
theorem dX8_dies_31 : decode cX8_dies 31 = .ok (.aload_n 0, 1) := by decide +kernel
theorem dX8_dies_32 : decode cX8_dies 32 = .ok (.getfield 10, 3) := by decide +kernel
theorem dX8_dies_35 : decode cX8_dies 35 = .ok (.getfield 77, 3) := by decide +kernel
theorem dX8_dies_38 : decode cX8_dies 38 = .ok (.iload_n 1, 1) := by decide +kernel
theorem dX8_dies_39 : decode cX8_dies 39 = .ok (.bipush 11, 2) := by decide +kernel
theorem dX8_dies_41 : decode cX8_dies 41 = .ok (.iconst 1, 1) := by decide +kernel
theorem dX8_dies_42 : decode cX8_dies 42 = .ok (.invokevirtual 105, 3) := by decide +kernel
theorem dX8_dies_45 : decode cX8_dies 45 = .ok (.aload_n 0, 1) := by decide +kernel
theorem dX8_dies_46 : decode cX8_dies 46 = .ok (.getfield 10, 3) := by decide +kernel
theorem dX8_dies_49 : decode cX8_dies 49 = .ok (.getfield 77, 3) := by decide +kernel
theorem dX8_dies_52 : decode cX8_dies 52 = .ok (.iload_n 1, 1) := by decide +kernel
theorem dX8_dies_53 : decode cX8_dies 53 = .ok (.iconst 4, 1) := by decide +kernel
theorem dX8_dies_54 : decode cX8_dies 54 = .ok (.ldc 109, 2) := by decide +kernel
theorem dX8_dies_56 : decode cX8_dies 56 = .ok (.invokevirtual 105, 3) := by decide +kernel
theorem dX8_dies_59 : decode cX8_dies 59 = .ok (.iconst 1, 1) := by decide +kernel
theorem dX8_dies_60 : decode cX8_dies 60 = .ok (.ireturn, 1) := by decide +kernel
theorem dX8_master_0 : decode cX8_master 0 = .ok (.iload_n 1, 1) := by decide +kernel
theorem dX8_master_1 : decode cX8_master 1 = .ok (.invokestatic 47, 3) := by decide +kernel
theorem dX8_master_4 : decode cX8_master 4 = .ok (.ifCond .eq 13, 3) := by decide +kernel
theorem dX8_master_7 : decode cX8_master 7 = .ok (.iload_n 2, 1) := by decide +kernel
theorem dX8_master_8 : decode cX8_master 8 = .ok (.iconst 0, 1) := by decide +kernel
theorem dX8_master_9 : decode cX8_master 9 = .ok (.bipush 63, 2) := by decide +kernel
theorem dX8_master_11 : decode cX8_master 11 = .ok (.invokestatic 55, 3) := by decide +kernel
theorem dX8_master_14 : decode cX8_master 14 = .ok (.ifCond .ne 6, 3) := by decide +kernel
theorem dX8_master_17 : decode cX8_master 17 = .ok (.ldc 59, 2) := by decide +kernel
theorem dX8_master_19 : decode cX8_master 19 = .ok (.ireturn, 1) := by decide +kernel
theorem dX8_master_20 : decode cX8_master 20 = .ok (.iload_n 3, 1) := by decide +kernel
theorem dX8_master_21 : decode cX8_master 21 = .ok (.iconst 0, 1) := by decide +kernel
theorem dX8_master_22 : decode cX8_master 22 = .ok (.bipush 9, 2) := by decide +kernel
theorem dX8_master_24 : decode cX8_master 24 = .ok (.invokestatic 55, 3) := by decide +kernel
theorem dX8_master_27 : decode cX8_master 27 = .ok (.ifCond .eq 14, 3) := by decide +kernel
theorem dX8_master_30 : decode cX8_master 30 = .ok (.iload 4, 2) := by decide +kernel
theorem dX8_master_32 : decode cX8_master 32 = .ok (.iconst 0, 1) := by decide +kernel
theorem dX8_master_33 : decode cX8_master 33 = .ok (.bipush 99, 2) := by decide +kernel
theorem dX8_master_35 : decode cX8_master 35 = .ok (.invokestatic 55, 3) := by decide +kernel
theorem dX8_master_38 : decode cX8_master 38 = .ok (.ifCond .ne 6, 3) := by decide +kernel
theorem dX8_master_41 : decode cX8_master 41 = .ok (.ldc 59, 2) := by decide +kernel
theorem dX8_master_43 : decode cX8_master 43 = .ok (.ireturn, 1) := by decide +kernel
theorem dX8_master_44 : decode cX8_master 44 = .ok (.aload_n 0, 1) := by decide +kernel
theorem dX8_master_45 : decode cX8_master 45 = .ok (.getfield 10, 3) := by decide +kernel
theorem dX8_master_48 : decode cX8_master 48 = .ok (.getfield 110, 3) := by decide +kernel
theorem dX8_master_51 : decode cX8_master 51 = .ok (.iload_n 1, 1) := by decide +kernel
theorem dX8_master_52 : decode cX8_master 52 = .ok (.iload_n 2, 1) := by decide +kernel
theorem dX8_master_53 : decode cX8_master 53 = .ok (.iload_n 3, 1) := by decide +kernel
theorem dX8_master_54 : decode cX8_master 54 = .ok (.iload 4, 2) := by decide +kernel
theorem dX8_master_56 : decode cX8_master 56 = .ok (.invokevirtual 64, 3) := by decide +kernel
theorem dX8_master_59 : decode cX8_master 59 = .ok (.ireturn, 1) := by decide +kernel
theorem dX8_has_0 : decode cX8_has 0 = .ok (.aload_n 0, 1) := by decide +kernel
theorem dX8_has_1 : decode cX8_has 1 = .ok (.getfield 10, 3) := by decide +kernel
theorem dX8_has_4 : decode cX8_has 4 = .ok (.getfield 110, 3) := by decide +kernel
theorem dX8_has_7 : decode cX8_has 7 = .ok (.iload_n 1, 1) := by decide +kernel
theorem dX8_has_8 : decode cX8_has 8 = .ok (.invokevirtual 70, 3) := by decide +kernel
theorem dX8_has_11 : decode cX8_has 11 = .ok (.ifCond .eq 12, 3) := by decide +kernel
theorem dX8_has_14 : decode cX8_has 14 = .ok (.iload_n 2, 1) := by decide +kernel
theorem dX8_has_15 : decode cX8_has 15 = .ok (.iconst 0, 1) := by decide +kernel
theorem dX8_has_16 : decode cX8_has 16 = .ok (.iconst 4, 1) := by decide +kernel
theorem dX8_has_17 : decode cX8_has 17 = .ok (.invokestatic 55, 3) := by decide +kernel
theorem dX8_has_20 : decode cX8_has 20 = .ok (.ifCond .ne 6, 3) := by decide +kernel
theorem dX8_has_23 : decode cX8_has 23 = .ok (.ldc 59, 2) := by decide +kernel
theorem dX8_has_25 : decode cX8_has 25 = .ok (.ireturn, 1) := by decide +kernel
theorem dX8_has_26 : decode cX8_has 26 = .ok (.iload_n 2, 1) := by decide +kernel
theorem dX8_has_27 : decode cX8_has 27 = .ok (.iconst 4, 1) := by decide +kernel
theorem dX8_has_28 : decode cX8_has 28 = .ok (.if_icmp .ne 14, 3) := by decide +kernel
theorem dX8_has_31 : decode cX8_has 31 = .ok (.aload_n 0, 1) := by decide +kernel
theorem dX8_has_32 : decode cX8_has 32 = .ok (.getfield 10, 3) := by decide +kernel
theorem dX8_has_35 : decode cX8_has 35 = .ok (.iload_n 1, 1) := by decide +kernel
theorem dX8_has_36 : decode cX8_has 36 = .ok (.invokevirtual 113, 3) := by decide +kernel
theorem dX8_has_39 : decode cX8_has 39 = .ok (.goto 15, 3) := by decide +kernel
theorem dX8_has_42 : decode cX8_has 42 = .ok (.aload_n 0, 1) := by decide +kernel
theorem dX8_has_43 : decode cX8_has 43 = .ok (.getfield 10, 3) := by decide +kernel
theorem dX8_has_46 : decode cX8_has 46 = .ok (.getfield 110, 3) := by decide +kernel
theorem dX8_has_49 : decode cX8_has 49 = .ok (.iload_n 1, 1) := by decide +kernel
theorem dX8_has_50 : decode cX8_has 50 = .ok (.iload_n 2, 1) := by decide +kernel
theorem dX8_has_51 : decode cX8_has 51 = .ok (.invokevirtual 73, 3) := by decide +kernel
theorem dX8_has_54 : decode cX8_has 54 = .ok (.ireturn, 1) := by decide +kernel
theorem dX8_store_0 : decode cX8_store 0 = .ok (.iload_n 1, 1) := by decide +kernel
theorem dX8_store_1 : decode cX8_store 1 = .ok (.invokestatic 47, 3) := by decide +kernel
theorem dX8_store_4 : decode cX8_store 4 = .ok (.ifCond .eq 14, 3) := by decide +kernel
theorem dX8_store_7 : decode cX8_store 7 = .ok (.iload_n 2, 1) := by decide +kernel
theorem dX8_store_8 : decode cX8_store 8 = .ok (.iconst 0, 1) := by decide +kernel
theorem dX8_store_9 : decode cX8_store 9 = .ok (.sipush 9999, 3) := by decide +kernel
theorem dX8_store_12 : decode cX8_store 12 = .ok (.invokestatic 55, 3) := by decide +kernel
theorem dX8_store_15 : decode cX8_store 15 = .ok (.ifCond .ne 6, 3) := by decide +kernel
theorem dX8_store_18 : decode cX8_store 18 = .ok (.ldc 59, 2) := by decide +kernel
theorem dX8_store_20 : decode cX8_store 20 = .ok (.ireturn, 1) := by decide +kernel
theorem dX8_store_21 : decode cX8_store 21 = .ok (.aload_n 0, 1) := by decide +kernel
theorem dX8_store_22 : decode cX8_store 22 = .ok (.getfield 10, 3) := by decide +kernel
theorem dX8_store_25 : decode cX8_store 25 = .ok (.getfield 116, 3) := by decide +kernel
theorem dX8_store_28 : decode cX8_store 28 = .ok (.iload_n 1, 1) := by decide +kernel
theorem dX8_store_29 : decode cX8_store 29 = .ok (.iconst 0, 1) := by decide +kernel
theorem dX8_store_30 : decode cX8_store 30 = .ok (.iload_n 2, 1) := by decide +kernel
theorem dX8_store_31 : decode cX8_store 31 = .ok (.invokevirtual 89, 3) := by decide +kernel
theorem dX8_store_34 : decode cX8_store 34 = .ok (.ireturn, 1) := by decide +kernel
theorem dX8_hungry_0 : decode cX8_hungry 0 = .ok (.iload_n 1, 1) := by decide +kernel
theorem dX8_hungry_1 : decode cX8_hungry 1 = .ok (.invokestatic 47, 3) := by decide +kernel
theorem dX8_hungry_4 : decode cX8_hungry 4 = .ok (.ifCond .eq 18, 3) := by decide +kernel
theorem dX8_hungry_7 : decode cX8_hungry 7 = .ok (.aload_n 0, 1) := by decide +kernel
theorem dX8_hungry_8 : decode cX8_hungry 8 = .ok (.getfield 10, 3) := by decide +kernel
theorem dX8_hungry_11 : decode cX8_hungry 11 = .ok (.getfield 116, 3) := by decide +kernel
theorem dX8_hungry_14 : decode cX8_hungry 14 = .ok (.iload_n 1, 1) := by decide +kernel
theorem dX8_hungry_15 : decode cX8_hungry 15 = .ok (.iconst 1, 1) := by decide +kernel
theorem dX8_hungry_16 : decode cX8_hungry 16 = .ok (.invokevirtual 73, 3) := by decide +kernel
theorem dX8_hungry_19 : decode cX8_hungry 19 = .ok (.goto 5, 3) := by decide +kernel
theorem dX8_hungry_22 : decode cX8_hungry 22 = .ok (.ldc 59, 2) := by decide +kernel
theorem dX8_hungry_24 : decode cX8_hungry 24 = .ok (.ireturn, 1) := by decide +kernel
theorem dX8_feed_0 : decode cX8_feed 0 = .ok (.aload_n 0, 1) := by decide +kernel
theorem dX8_feed_1 : decode cX8_feed 1 = .ok (.getfield 25, 3) := by decide +kernel
theorem dX8_feed_4 : decode cX8_feed 4 = .ok (.iload_n 1, 1) := by decide +kernel
theorem dX8_feed_5 : decode cX8_feed 5 = .ok (.iload_n 2, 1) := by decide +kernel
theorem dX8_feed_6 : decode cX8_feed 6 = .ok (.iload_n 3, 1) := by decide +kernel
theorem dX8_feed_7 : decode cX8_feed 7 = .ok (.invokevirtual 119, 3) := by decide +kernel
theorem dX8_feed_10 : decode cX8_feed 10 = .ok (.ifCond .eq 13, 3) := by decide +kernel
theorem dX8_feed_13 : decode cX8_feed 13 = .ok (.aload_n 0, 1) := by decide +kernel
theorem dX8_feed_14 : decode cX8_feed 14 = .ok (.getfield 25, 3) := by decide +kernel
theorem dX8_feed_17 : decode cX8_feed 17 = .ok (.getfield 122, 3) := by decide +kernel
theorem dX8_feed_20 : decode cX8_feed 20 = .ok (.goto 5, 3) := by decide +kernel
theorem dX8_feed_23 : decode cX8_feed 23 = .ok (.ldc 80, 2) := by decide +kernel
theorem dX8_feed_25 : decode cX8_feed 25 = .ok (.ireturn, 1) := by decide +kernel
theorem dX8_trim_0 : decode cX8_trim 0 = .ok (.iload_n 1, 1) := by decide +kernel
theorem dX8_trim_1 : decode cX8_trim 1 = .ok (.iconst 0, 1) := by decide +kernel
theorem dX8_trim_2 : decode cX8_trim 2 = .ok (.aload_n 0, 1) := by decide +kernel
theorem dX8_trim_3 : decode cX8_trim 3 = .ok (.getfield 25, 3) := by decide +kernel
theorem dX8_trim_6 : decode cX8_trim 6 = .ok (.getfield 122, 3) := by decide +kernel
theorem dX8_trim_9 : decode cX8_trim 9 = .ok (.invokestatic 55, 3) := by decide +kernel
theorem dX8_trim_12 : decode cX8_trim 12 = .ok (.ifCond .ne 6, 3) := by decide +kernel
theorem dX8_trim_15 : decode cX8_trim 15 = .ok (.ldc 59, 2) := by decide +kernel
theorem dX8_trim_17 : decode cX8_trim 17 = .ok (.ireturn, 1) := by decide +kernel
theorem dX8_trim_18 : decode cX8_trim 18 = .ok (.aload_n 0, 1) := by decide +kernel
theorem dX8_trim_19 : decode cX8_trim 19 = .ok (.getfield 25, 3) := by decide +kernel
theorem dX8_trim_22 : decode cX8_trim 22 = .ok (.iload_n 1, 1) := by decide +kernel
theorem dX8_trim_23 : decode cX8_trim 23 = .ok (.putfield 122, 3) := by decide +kernel
theorem dX8_trim_26 : decode cX8_trim 26 = .ok (.iload_n 1, 1) := by decide +kernel
theorem dX8_trim_27 : decode cX8_trim 27 = .ok (.ireturn, 1) := by decide +kernel
theorem dX8_text_0 : decode cX8_text 0 = .ok (.aload_n 0, 1) := by decide +kernel
theorem dX8_text_1 : decode cX8_text 1 = .ok (.getfield 25, 3) := by decide +kernel
theorem dX8_text_4 : decode cX8_text 4 = .ok (.invokevirtual 125, 3) := by decide +kernel
theorem dX8_text_7 : decode cX8_text 7 = .ok (.istore_n 2, 1) := by decide +kernel
theorem dX8_text_8 : decode cX8_text 8 = .ok (.aload_n 0, 1) := by decide +kernel
theorem dX8_text_9 : decode cX8_text 9 = .ok (.getfield 25, 3) := by decide +kernel
theorem dX8_text_12 : decode cX8_text 12 = .ok (.iconst 0, 1) := by decide +kernel
theorem dX8_text_13 : decode cX8_text 13 = .ok (.putfield 122, 3) := by decide +kernel
theorem dX8_text_16 : decode cX8_text 16 = .ok (.iload_n 1, 1) := by decide +kernel
theorem dX8_text_17 : decode cX8_text 17 = .ok (.iconst 0, 1) := by decide +kernel
theorem dX8_text_18 : decode cX8_text 18 = .ok (.sipush 1999, 3) := by decide +kernel
theorem dX8_text_21 : decode cX8_text 21 = .ok (.invokestatic 55, 3) := by decide +kernel
theorem dX8_text_24 : decode cX8_text 24 = .ok (.ifCond .ne 6, 3) := by decide +kernel
theorem dX8_text_27 : decode cX8_text 27 = .ok (.ldc 59, 2) := by decide +kernel
theorem dX8_text_29 : decode cX8_text 29 = .ok (.ireturn, 1) := by decide +kernel
theorem dX8_text_30 : decode cX8_text 30 = .ok (.iload_n 2, 1) := by decide +kernel
theorem dX8_text_31 : decode cX8_text 31 = .ok (.ifCond .lt 8, 3) := by decide +kernel
theorem dX8_text_34 : decode cX8_text 34 = .ok (.bipush (-100), 2) := by decide +kernel
theorem dX8_text_36 : decode cX8_text 36 = .ok (.iload_n 2, 1) := by decide +kernel
theorem dX8_text_37 : decode cX8_text 37 = .ok (.isub, 1) := by decide +kernel
theorem dX8_text_38 : decode cX8_text 38 = .ok (.ireturn, 1) := by decide +kernel
theorem dX8_text_39 : decode cX8_text 39 = .ok (.aload_n 0, 1) := by decide +kernel
theorem dX8_text_40 : decode cX8_text 40 = .ok (.getfield 10, 3) := by decide +kernel
theorem dX8_text_43 : decode cX8_text 43 = .ok (.getfield 129, 3) := by decide +kernel
theorem dX8_text_46 : decode cX8_text 46 = .ok (.aload_n 0, 1) := by decide +kernel
theorem dX8_text_47 : decode cX8_text 47 = .ok (.getfield 25, 3) := by decide +kernel
theorem dX8_text_50 : decode cX8_text 50 = .ok (.iload_n 1, 1) := by decide +kernel
theorem dX8_text_51 : decode cX8_text 51 = .ok (.invokevirtual 133, 3) := by decide +kernel
theorem dX8_text_54 : decode cX8_text 54 = .ok (.invokevirtual 137, 3) := by decide +kernel
theorem dX8_text_57 : decode cX8_text 57 = .ok (.ireturn, 1) := by decide +kernel
theorem dX8_of_0 : decode cX8_of 0 = .ok (.aload_n 0, 1) := by decide +kernel
theorem dX8_of_1 : decode cX8_of 1 = .ok (.getfield 10, 3) := by decide +kernel
theorem dX8_of_4 : decode cX8_of 4 = .ok (.getfield 129, 3) := by decide +kernel
theorem dX8_of_7 : decode cX8_of 7 = .ok (.iload_n 1, 1) := by decide +kernel
theorem dX8_of_8 : decode cX8_of 8 = .ok (.invokevirtual 142, 3) := by decide +kernel
theorem dX8_of_11 : decode cX8_of 11 = .ok (.astore_n 3, 1) := by decide +kernel
theorem dX8_of_12 : decode cX8_of 12 = .ok (.aload_n 3, 1) := by decide +kernel
theorem dX8_of_13 : decode cX8_of 13 = .ok (.ifnonnull 6, 3) := by decide +kernel
theorem dX8_of_16 : decode cX8_of 16 = .ok (.ldc 59, 2) := by decide +kernel
theorem dX8_of_18 : decode cX8_of 18 = .ok (.ireturn, 1) := by decide +kernel
theorem dX8_of_19 : decode cX8_of 19 = .ok (.iload_n 2, 1) := by decide +kernel
theorem dX8_of_20 : decode cX8_of 20 = .ok (.tableswitch 43 0 2 #[28, 33, 38], 28) := by decide +kernel
theorem dX8_of_48 : decode cX8_of 48 = .ok (.aload_n 3, 1) := by decide +kernel
theorem dX8_of_49 : decode cX8_of 49 = .ok (.getfield 145, 3) := by decide +kernel
theorem dX8_of_52 : decode cX8_of 52 = .ok (.ireturn, 1) := by decide +kernel
theorem dX8_of_53 : decode cX8_of 53 = .ok (.aload_n 3, 1) := by decide +kernel
theorem dX8_of_54 : decode cX8_of 54 = .ok (.getfield 150, 3) := by decide +kernel
theorem dX8_of_57 : decode cX8_of 57 = .ok (.ireturn, 1) := by decide +kernel
theorem dX8_of_58 : decode cX8_of 58 = .ok (.aload_n 3, 1) := by decide +kernel
theorem dX8_of_59 : decode cX8_of 59 = .ok (.getfield 151, 3) := by decide +kernel
theorem dX8_of_62 : decode cX8_of 62 = .ok (.ireturn, 1) := by decide +kernel
theorem dX8_of_63 : decode cX8_of 63 = .ok (.ldc 59, 2) := by decide +kernel
theorem dX8_of_65 : decode cX8_of 65 = .ok (.ireturn, 1) := by decide +kernel
theorem dX8_why_0 : decode cX8_why 0 = .ok (.iload_n 1, 1) := by decide +kernel
theorem dX8_why_1 : decode cX8_why 1 = .ok (.iconst 0, 1) := by decide +kernel
theorem dX8_why_2 : decode cX8_why 2 = .ok (.iconst 4, 1) := by decide +kernel
theorem dX8_why_3 : decode cX8_why 3 = .ok (.invokestatic 55, 3) := by decide +kernel
theorem dX8_why_6 : decode cX8_why 6 = .ok (.ifCond .ne 6, 3) := by decide +kernel
theorem dX8_why_9 : decode cX8_why 9 = .ok (.ldc 59, 2) := by decide +kernel
theorem dX8_why_11 : decode cX8_why 11 = .ok (.ireturn, 1) := by decide +kernel
theorem dX8_why_12 : decode cX8_why 12 = .ok (.aload_n 0, 1) := by decide +kernel
theorem dX8_why_13 : decode cX8_why 13 = .ok (.getfield 10, 3) := by decide +kernel
theorem dX8_why_16 : decode cX8_why 16 = .ok (.getfield 129, 3) := by decide +kernel
theorem dX8_why_19 : decode cX8_why 19 = .ok (.iload_n 1, 1) := by decide +kernel
theorem dX8_why_20 : decode cX8_why 20 = .ok (.aload_n 0, 1) := by decide +kernel
theorem dX8_why_21 : decode cX8_why 21 = .ok (.getfield 10, 3) := by decide +kernel
theorem dX8_why_24 : decode cX8_why 24 = .ok (.getfield 51, 3) := by decide +kernel
theorem dX8_why_27 : decode cX8_why 27 = .ok (.invokevirtual 154, 3) := by decide +kernel
theorem dX8_why_30 : decode cX8_why 30 = .ok (.istore_n 2, 1) := by decide +kernel
theorem dX8_why_31 : decode cX8_why 31 = .ok (.iload_n 2, 1) := by decide +kernel
theorem dX8_why_32 : decode cX8_why 32 = .ok (.ifCond .ge 8, 3) := by decide +kernel
theorem dX8_why_35 : decode cX8_why 35 = .ok (.ldc 109, 2) := by decide +kernel
theorem dX8_why_37 : decode cX8_why 37 = .ok (.goto 4, 3) := by decide +kernel
theorem dX8_why_40 : decode cX8_why 40 = .ok (.iload_n 2, 1) := by decide +kernel
theorem dX8_why_41 : decode cX8_why 41 = .ok (.ireturn, 1) := by decide +kernel
theorem dX8_rules_0 : decode cX8_rules 0 = .ok (.iload_n 1, 1) := by decide +kernel
theorem dX8_rules_1 : decode cX8_rules 1 = .ok (.iconst 0, 1) := by decide +kernel
theorem dX8_rules_2 : decode cX8_rules 2 = .ok (.iconst 4, 1) := by decide +kernel
theorem dX8_rules_3 : decode cX8_rules 3 = .ok (.invokestatic 55, 3) := by decide +kernel
theorem dX8_rules_6 : decode cX8_rules 6 = .ok (.ifCond .eq 28, 3) := by decide +kernel
theorem dX8_rules_9 : decode cX8_rules 9 = .ok (.aload_n 0, 1) := by decide +kernel
theorem dX8_rules_10 : decode cX8_rules 10 = .ok (.getfield 10, 3) := by decide +kernel
theorem dX8_rules_13 : decode cX8_rules 13 = .ok (.getfield 129, 3) := by decide +kernel
theorem dX8_rules_16 : decode cX8_rules 16 = .ok (.iload_n 1, 1) := by decide +kernel
theorem dX8_rules_17 : decode cX8_rules 17 = .ok (.aload_n 0, 1) := by decide +kernel
theorem dX8_rules_18 : decode cX8_rules 18 = .ok (.getfield 10, 3) := by decide +kernel
theorem dX8_rules_21 : decode cX8_rules 21 = .ok (.getfield 51, 3) := by decide +kernel
theorem dX8_rules_24 : decode cX8_rules 24 = .ok (.iload_n 2, 1) := by decide +kernel
theorem dX8_rules_25 : decode cX8_rules 25 = .ok (.iload_n 3, 1) := by decide +kernel
theorem dX8_rules_26 : decode cX8_rules 26 = .ok (.iload 4, 2) := by decide +kernel
theorem dX8_rules_28 : decode cX8_rules 28 = .ok (.invokevirtual 157, 3) := by decide +kernel
theorem dX8_rules_31 : decode cX8_rules 31 = .ok (.goto 5, 3) := by decide +kernel
theorem dX8_rules_34 : decode cX8_rules 34 = .ok (.ldc 59, 2) := by decide +kernel
theorem dX8_rules_36 : decode cX8_rules 36 = .ok (.ireturn, 1) := by decide +kernel
theorem dX8_mark_0 : decode cX8_mark 0 = .ok (.aload_n 0, 1) := by decide +kernel
theorem dX8_mark_1 : decode cX8_mark 1 = .ok (.getfield 10, 3) := by decide +kernel
theorem dX8_mark_4 : decode cX8_mark 4 = .ok (.getfield 77, 3) := by decide +kernel
theorem dX8_mark_7 : decode cX8_mark 7 = .ok (.iload_n 1, 1) := by decide +kernel
theorem dX8_mark_8 : decode cX8_mark 8 = .ok (.invokevirtual 70, 3) := by decide +kernel
theorem dX8_mark_11 : decode cX8_mark 11 = .ok (.ifCond .eq 12, 3) := by decide +kernel
theorem dX8_mark_14 : decode cX8_mark 14 = .ok (.iload_n 2, 1) := by decide +kernel
theorem dX8_mark_15 : decode cX8_mark 15 = .ok (.iconst 0, 1) := by decide +kernel
theorem dX8_mark_16 : decode cX8_mark 16 = .ok (.iconst 3, 1) := by decide +kernel
theorem dX8_mark_17 : decode cX8_mark 17 = .ok (.invokestatic 55, 3) := by decide +kernel
theorem dX8_mark_20 : decode cX8_mark 20 = .ok (.ifCond .ne 6, 3) := by decide +kernel
theorem dX8_mark_23 : decode cX8_mark 23 = .ok (.ldc 59, 2) := by decide +kernel
theorem dX8_mark_25 : decode cX8_mark 25 = .ok (.ireturn, 1) := by decide +kernel
theorem dX8_mark_26 : decode cX8_mark 26 = .ok (.aload_n 0, 1) := by decide +kernel
theorem dX8_mark_27 : decode cX8_mark 27 = .ok (.getfield 10, 3) := by decide +kernel
theorem dX8_mark_30 : decode cX8_mark 30 = .ok (.iload_n 1, 1) := by decide +kernel
theorem dX8_mark_31 : decode cX8_mark 31 = .ok (.invokevirtual 102, 3) := by decide +kernel
theorem dX8_mark_34 : decode cX8_mark 34 = .ok (.ifCond .ne 14, 3) := by decide +kernel
theorem dX8_mark_37 : decode cX8_mark 37 = .ok (.aload_n 0, 1) := by decide +kernel
theorem dX8_mark_38 : decode cX8_mark 38 = .ok (.getfield 10, 3) := by decide +kernel
theorem dX8_mark_41 : decode cX8_mark 41 = .ok (.iload_n 1, 1) := by decide +kernel
theorem dX8_mark_42 : decode cX8_mark 42 = .ok (.invokevirtual 85, 3) := by decide +kernel
theorem dX8_mark_45 : decode cX8_mark 45 = .ok (.ifCond .ne 6, 3) := by decide +kernel
theorem dX8_mark_48 : decode cX8_mark 48 = .ok (.ldc 88, 2) := by decide +kernel
theorem dX8_mark_50 : decode cX8_mark 50 = .ok (.ireturn, 1) := by decide +kernel
theorem dX8_mark_51 : decode cX8_mark 51 = .ok (.aload_n 0, 1) := by decide +kernel
theorem dX8_mark_52 : decode cX8_mark 52 = .ok (.getfield 10, 3) := by decide +kernel
theorem dX8_mark_55 : decode cX8_mark 55 = .ok (.getfield 161, 3) := by decide +kernel
theorem dX8_mark_58 : decode cX8_mark 58 = .ok (.iload_n 1, 1) := by decide +kernel
theorem dX8_mark_59 : decode cX8_mark 59 = .ok (.aload_n 0, 1) := by decide +kernel
theorem dX8_mark_60 : decode cX8_mark 60 = .ok (.getfield 10, 3) := by decide +kernel
theorem dX8_mark_63 : decode cX8_mark 63 = .ok (.getfield 51, 3) := by decide +kernel
theorem dX8_mark_66 : decode cX8_mark 66 = .ok (.iload_n 2, 1) := by decide +kernel
theorem dX8_mark_67 : decode cX8_mark 67 = .ok (.iconst 0, 1) := by decide +kernel
theorem dX8_mark_68 : decode cX8_mark 68 = .ok (.invokevirtual 64, 3) := by decide +kernel
theorem dX8_mark_71 : decode cX8_mark 71 = .ok (.ireturn, 1) := by decide +kernel
theorem dX8_voids_0 : decode cX8_voids 0 = .ok (.aload_n 0, 1) := by decide +kernel
theorem dX8_voids_1 : decode cX8_voids 1 = .ok (.getfield 10, 3) := by decide +kernel
theorem dX8_voids_4 : decode cX8_voids 4 = .ok (.getfield 161, 3) := by decide +kernel
theorem dX8_voids_7 : decode cX8_voids 7 = .ok (.iload_n 1, 1) := by decide +kernel
theorem dX8_voids_8 : decode cX8_voids 8 = .ok (.invokevirtual 70, 3) := by decide +kernel
theorem dX8_voids_11 : decode cX8_voids 11 = .ok (.ifCond .eq 12, 3) := by decide +kernel
theorem dX8_voids_14 : decode cX8_voids 14 = .ok (.iload_n 2, 1) := by decide +kernel
theorem dX8_voids_15 : decode cX8_voids 15 = .ok (.iconst 0, 1) := by decide +kernel
theorem dX8_voids_16 : decode cX8_voids 16 = .ok (.iconst 1, 1) := by decide +kernel
theorem dX8_voids_17 : decode cX8_voids 17 = .ok (.invokestatic 55, 3) := by decide +kernel
theorem dX8_voids_20 : decode cX8_voids 20 = .ok (.ifCond .ne 6, 3) := by decide +kernel
theorem dX8_voids_23 : decode cX8_voids 23 = .ok (.ldc 59, 2) := by decide +kernel
theorem dX8_voids_25 : decode cX8_voids 25 = .ok (.ireturn, 1) := by decide +kernel
theorem dX8_voids_26 : decode cX8_voids 26 = .ok (.aload_n 0, 1) := by decide +kernel
theorem dX8_voids_27 : decode cX8_voids 27 = .ok (.getfield 10, 3) := by decide +kernel
theorem dX8_voids_30 : decode cX8_voids 30 = .ok (.getfield 161, 3) := by decide +kernel
theorem dX8_voids_33 : decode cX8_voids 33 = .ok (.iload_n 1, 1) := by decide +kernel
theorem dX8_voids_34 : decode cX8_voids 34 = .ok (.iconst 3, 1) := by decide +kernel
theorem dX8_voids_35 : decode cX8_voids 35 = .ok (.iload_n 2, 1) := by decide +kernel
theorem dX8_voids_36 : decode cX8_voids 36 = .ok (.invokevirtual 89, 3) := by decide +kernel
theorem dX8_voids_39 : decode cX8_voids 39 = .ok (.ireturn, 1) := by decide +kernel
theorem dX8_markTold_0 : decode cX8_markTold 0 = .ok (.aload_n 0, 1) := by decide +kernel
theorem dX8_markTold_1 : decode cX8_markTold 1 = .ok (.getfield 10, 3) := by decide +kernel
theorem dX8_markTold_4 : decode cX8_markTold 4 = .ok (.getfield 161, 3) := by decide +kernel
theorem dX8_markTold_7 : decode cX8_markTold 7 = .ok (.iload_n 1, 1) := by decide +kernel
theorem dX8_markTold_8 : decode cX8_markTold 8 = .ok (.invokevirtual 70, 3) := by decide +kernel
theorem dX8_markTold_11 : decode cX8_markTold 11 = .ok (.ifCond .eq 12, 3) := by decide +kernel
theorem dX8_markTold_14 : decode cX8_markTold 14 = .ok (.iload_n 2, 1) := by decide +kernel
theorem dX8_markTold_15 : decode cX8_markTold 15 = .ok (.iconst 0, 1) := by decide +kernel
theorem dX8_markTold_16 : decode cX8_markTold 16 = .ok (.iconst 3, 1) := by decide +kernel
theorem dX8_markTold_17 : decode cX8_markTold 17 = .ok (.invokestatic 55, 3) := by decide +kernel
theorem dX8_markTold_20 : decode cX8_markTold 20 = .ok (.ifCond .ne 6, 3) := by decide +kernel
theorem dX8_markTold_23 : decode cX8_markTold 23 = .ok (.ldc 59, 2) := by decide +kernel
theorem dX8_markTold_25 : decode cX8_markTold 25 = .ok (.ireturn, 1) := by decide +kernel
theorem dX8_markTold_26 : decode cX8_markTold 26 = .ok (.aload_n 0, 1) := by decide +kernel
theorem dX8_markTold_27 : decode cX8_markTold 27 = .ok (.getfield 10, 3) := by decide +kernel
theorem dX8_markTold_30 : decode cX8_markTold 30 = .ok (.getfield 161, 3) := by decide +kernel
theorem dX8_markTold_33 : decode cX8_markTold 33 = .ok (.iload_n 1, 1) := by decide +kernel
theorem dX8_markTold_34 : decode cX8_markTold 34 = .ok (.iload_n 2, 1) := by decide +kernel
theorem dX8_markTold_35 : decode cX8_markTold 35 = .ok (.invokevirtual 73, 3) := by decide +kernel
theorem dX8_markTold_38 : decode cX8_markTold 38 = .ok (.ireturn, 1) := by decide +kernel
theorem dX8_due_0 : decode cX8_due 0 = .ok (.aload_n 0, 1) := by decide +kernel
theorem dX8_due_1 : decode cX8_due 1 = .ok (.getfield 10, 3) := by decide +kernel
theorem dX8_due_4 : decode cX8_due 4 = .ok (.getfield 77, 3) := by decide +kernel
theorem dX8_due_7 : decode cX8_due 7 = .ok (.iload_n 1, 1) := by decide +kernel
theorem dX8_due_8 : decode cX8_due 8 = .ok (.invokevirtual 70, 3) := by decide +kernel
theorem dX8_due_11 : decode cX8_due 11 = .ok (.ifCond .ne 6, 3) := by decide +kernel
theorem dX8_due_14 : decode cX8_due 14 = .ok (.ldc 59, 2) := by decide +kernel
theorem dX8_due_16 : decode cX8_due 16 = .ok (.ireturn, 1) := by decide +kernel
theorem dX8_due_17 : decode cX8_due 17 = .ok (.aload_n 0, 1) := by decide +kernel
theorem dX8_due_18 : decode cX8_due 18 = .ok (.getfield 10, 3) := by decide +kernel
theorem dX8_due_21 : decode cX8_due 21 = .ok (.iload_n 1, 1) := by decide +kernel
theorem dX8_due_22 : decode cX8_due 22 = .ok (.invokevirtual 102, 3) := by decide +kernel
theorem dX8_due_25 : decode cX8_due 25 = .ok (.ifCond .ne 14, 3) := by decide +kernel
theorem dX8_due_28 : decode cX8_due 28 = .ok (.aload_n 0, 1) := by decide +kernel
theorem dX8_due_29 : decode cX8_due 29 = .ok (.getfield 10, 3) := by decide +kernel
theorem dX8_due_32 : decode cX8_due 32 = .ok (.iload_n 1, 1) := by decide +kernel
theorem dX8_due_33 : decode cX8_due 33 = .ok (.invokevirtual 85, 3) := by decide +kernel
theorem dX8_due_36 : decode cX8_due 36 = .ok (.ifCond .ne 6, 3) := by decide +kernel
theorem dX8_due_39 : decode cX8_due 39 = .ok (.ldc 88, 2) := by decide +kernel
theorem dX8_due_41 : decode cX8_due 41 = .ok (.ireturn, 1) := by decide +kernel
theorem dX8_due_42 : decode cX8_due 42 = .ok (.aload_n 0, 1) := by decide +kernel
theorem dX8_due_43 : decode cX8_due 43 = .ok (.getfield 10, 3) := by decide +kernel
theorem dX8_due_46 : decode cX8_due 46 = .ok (.iload_n 1, 1) := by decide +kernel
theorem dX8_due_47 : decode cX8_due 47 = .ok (.aload_n 0, 1) := by decide +kernel
theorem dX8_due_48 : decode cX8_due 48 = .ok (.getfield 10, 3) := by decide +kernel
theorem dX8_due_51 : decode cX8_due 51 = .ok (.iload_n 1, 1) := by decide +kernel
theorem dX8_due_52 : decode cX8_due 52 = .ok (.invokevirtual 93, 3) := by decide +kernel
theorem dX8_due_55 : decode cX8_due 55 = .ok (.invokevirtual 164, 3) := by decide +kernel
theorem dX8_due_58 : decode cX8_due 58 = .ok (.ireturn, 1) := by decide +kernel
theorem dX8_moves_0 : decode cX8_moves 0 = .ok (.aload_n 0, 1) := by decide +kernel
theorem dX8_moves_1 : decode cX8_moves 1 = .ok (.getfield 10, 3) := by decide +kernel
theorem dX8_moves_4 : decode cX8_moves 4 = .ok (.getfield 161, 3) := by decide +kernel
theorem dX8_moves_7 : decode cX8_moves 7 = .ok (.iload_n 1, 1) := by decide +kernel
theorem dX8_moves_8 : decode cX8_moves 8 = .ok (.invokevirtual 70, 3) := by decide +kernel
theorem dX8_moves_11 : decode cX8_moves 11 = .ok (.ifCond .ne 6, 3) := by decide +kernel
theorem dX8_moves_14 : decode cX8_moves 14 = .ok (.ldc 59, 2) := by decide +kernel
theorem dX8_moves_16 : decode cX8_moves 16 = .ok (.ireturn, 1) := by decide +kernel
theorem dX8_moves_17 : decode cX8_moves 17 = .ok (.aload_n 0, 1) := by decide +kernel
theorem dX8_moves_18 : decode cX8_moves 18 = .ok (.getfield 10, 3) := by decide +kernel
theorem dX8_moves_21 : decode cX8_moves 21 = .ok (.getfield 161, 3) := by decide +kernel
theorem dX8_moves_24 : decode cX8_moves 24 = .ok (.iload_n 1, 1) := by decide +kernel
theorem dX8_moves_25 : decode cX8_moves 25 = .ok (.iconst 0, 1) := by decide +kernel
theorem dX8_moves_26 : decode cX8_moves 26 = .ok (.invokevirtual 73, 3) := by decide +kernel
theorem dX8_moves_29 : decode cX8_moves 29 = .ok (.istore_n 2, 1) := by decide +kernel
theorem dX8_moves_30 : decode cX8_moves 30 = .ok (.aload_n 0, 1) := by decide +kernel
theorem dX8_moves_31 : decode cX8_moves 31 = .ok (.getfield 10, 3) := by decide +kernel
theorem dX8_moves_34 : decode cX8_moves 34 = .ok (.getfield 161, 3) := by decide +kernel
theorem dX8_moves_37 : decode cX8_moves 37 = .ok (.iload_n 1, 1) := by decide +kernel
theorem dX8_moves_38 : decode cX8_moves 38 = .ok (.iconst 3, 1) := by decide +kernel
theorem dX8_moves_39 : decode cX8_moves 39 = .ok (.invokevirtual 73, 3) := by decide +kernel
theorem dX8_moves_42 : decode cX8_moves 42 = .ok (.iconst 1, 1) := by decide +kernel
theorem dX8_moves_43 : decode cX8_moves 43 = .ok (.if_icmp .eq 14, 3) := by decide +kernel
theorem dX8_moves_46 : decode cX8_moves 46 = .ok (.aload_n 0, 1) := by decide +kernel
theorem dX8_moves_47 : decode cX8_moves 47 = .ok (.getfield 10, 3) := by decide +kernel
theorem dX8_moves_50 : decode cX8_moves 50 = .ok (.iload_n 2, 1) := by decide +kernel
theorem dX8_moves_51 : decode cX8_moves 51 = .ok (.invokevirtual 102, 3) := by decide +kernel
theorem dX8_moves_54 : decode cX8_moves 54 = .ok (.ifCond .eq 6, 3) := by decide +kernel
theorem dX8_moves_57 : decode cX8_moves 57 = .ok (.ldc 88, 2) := by decide +kernel
theorem dX8_moves_59 : decode cX8_moves 59 = .ok (.ireturn, 1) := by decide +kernel
theorem dX8_moves_60 : decode cX8_moves 60 = .ok (.aload_n 0, 1) := by decide +kernel
theorem dX8_moves_61 : decode cX8_moves 61 = .ok (.getfield 10, 3) := by decide +kernel
theorem dX8_moves_64 : decode cX8_moves 64 = .ok (.iload_n 2, 1) := by decide +kernel
theorem dX8_moves_65 : decode cX8_moves 65 = .ok (.invokevirtual 93, 3) := by decide +kernel
theorem dX8_moves_68 : decode cX8_moves 68 = .ok (.istore_n 3, 1) := by decide +kernel
theorem dX8_moves_69 : decode cX8_moves 69 = .ok (.aload_n 0, 1) := by decide +kernel
theorem dX8_moves_70 : decode cX8_moves 70 = .ok (.getfield 10, 3) := by decide +kernel
theorem dX8_moves_73 : decode cX8_moves 73 = .ok (.iload_n 2, 1) := by decide +kernel
theorem dX8_moves_74 : decode cX8_moves 74 = .ok (.iload_n 3, 1) := by decide +kernel
theorem dX8_moves_75 : decode cX8_moves 75 = .ok (.invokevirtual 164, 3) := by decide +kernel
theorem dX8_moves_78 : decode cX8_moves 78 = .ok (.istore 4, 2) := by decide +kernel
theorem dX8_moves_80 : decode cX8_moves 80 = .ok (.aload_n 0, 1) := by decide +kernel
theorem dX8_moves_81 : decode cX8_moves 81 = .ok (.getfield 10, 3) := by decide +kernel
theorem dX8_moves_84 : decode cX8_moves 84 = .ok (.iload_n 2, 1) := by decide +kernel
theorem dX8_moves_85 : decode cX8_moves 85 = .ok (.iload_n 3, 1) := by decide +kernel
theorem dX8_moves_86 : decode cX8_moves 86 = .ok (.iconst 1, 1) := by decide +kernel
theorem dX8_moves_87 : decode cX8_moves 87 = .ok (.isub, 1) := by decide +kernel
theorem dX8_moves_88 : decode cX8_moves 88 = .ok (.invokevirtual 164, 3) := by decide +kernel
theorem dX8_moves_91 : decode cX8_moves 91 = .ok (.istore 5, 2) := by decide +kernel
theorem dX8_moves_93 : decode cX8_moves 93 = .ok (.iload 4, 2) := by decide +kernel
theorem dX8_moves_95 : decode cX8_moves 95 = .ok (.ldc 109, 2) := by decide +kernel
theorem dX8_moves_97 : decode cX8_moves 97 = .ok (.if_icmp .eq 10, 3) := by decide +kernel
theorem dX8_moves_100 : decode cX8_moves 100 = .ok (.iload 5, 2) := by decide +kernel
theorem dX8_moves_102 : decode cX8_moves 102 = .ok (.ldc 109, 2) := by decide +kernel
theorem dX8_moves_104 : decode cX8_moves 104 = .ok (.if_icmp .ne 8, 3) := by decide +kernel
theorem dX8_moves_107 : decode cX8_moves 107 = .ok (.ldc 109, 2) := by decide +kernel
theorem dX8_moves_109 : decode cX8_moves 109 = .ok (.goto 8, 3) := by decide +kernel
theorem dX8_moves_112 : decode cX8_moves 112 = .ok (.iload 4, 2) := by decide +kernel
theorem dX8_moves_114 : decode cX8_moves 114 = .ok (.iload 5, 2) := by decide +kernel
theorem dX8_moves_116 : decode cX8_moves 116 = .ok (.isub, 1) := by decide +kernel
theorem dX8_moves_117 : decode cX8_moves 117 = .ok (.ireturn, 1) := by decide +kernel
theorem dX8_assign_0 : decode cX8_assign 0 = .ok (.aload_n 0, 1) := by decide +kernel
theorem dX8_assign_1 : decode cX8_assign 1 = .ok (.getfield 10, 3) := by decide +kernel
theorem dX8_assign_4 : decode cX8_assign 4 = .ok (.getfield 77, 3) := by decide +kernel
theorem dX8_assign_7 : decode cX8_assign 7 = .ok (.iload_n 1, 1) := by decide +kernel
theorem dX8_assign_8 : decode cX8_assign 8 = .ok (.invokevirtual 70, 3) := by decide +kernel
theorem dX8_assign_11 : decode cX8_assign 11 = .ok (.ifCond .eq 17, 3) := by decide +kernel
theorem dX8_assign_14 : decode cX8_assign 14 = .ok (.aload_n 0, 1) := by decide +kernel
theorem dX8_assign_15 : decode cX8_assign 15 = .ok (.getfield 10, 3) := by decide +kernel
theorem dX8_assign_18 : decode cX8_assign 18 = .ok (.getfield 110, 3) := by decide +kernel
theorem dX8_assign_21 : decode cX8_assign 21 = .ok (.iload_n 2, 1) := by decide +kernel
theorem dX8_assign_22 : decode cX8_assign 22 = .ok (.invokevirtual 70, 3) := by decide +kernel
theorem dX8_assign_25 : decode cX8_assign 25 = .ok (.ifCond .ne 6, 3) := by decide +kernel
theorem dX8_assign_28 : decode cX8_assign 28 = .ok (.ldc 59, 2) := by decide +kernel
theorem dX8_assign_30 : decode cX8_assign 30 = .ok (.ireturn, 1) := by decide +kernel
theorem dX8_assign_31 : decode cX8_assign 31 = .ok (.aload_n 0, 1) := by decide +kernel
theorem dX8_assign_32 : decode cX8_assign 32 = .ok (.getfield 10, 3) := by decide +kernel
theorem dX8_assign_35 : decode cX8_assign 35 = .ok (.getfield 77, 3) := by decide +kernel
theorem dX8_assign_38 : decode cX8_assign 38 = .ok (.iload_n 1, 1) := by decide +kernel
theorem dX8_assign_39 : decode cX8_assign 39 = .ok (.iconst 5, 1) := by decide +kernel
theorem dX8_assign_40 : decode cX8_assign 40 = .ok (.invokevirtual 73, 3) := by decide +kernel
theorem dX8_assign_43 : decode cX8_assign 43 = .ok (.iconst 1, 1) := by decide +kernel
theorem dX8_assign_44 : decode cX8_assign 44 = .ok (.if_icmp .eq 6, 3) := by decide +kernel
theorem dX8_assign_47 : decode cX8_assign 47 = .ok (.ldc 101, 2) := by decide +kernel
theorem dX8_assign_49 : decode cX8_assign 49 = .ok (.ireturn, 1) := by decide +kernel
theorem dX8_assign_50 : decode cX8_assign 50 = .ok (.aload_n 0, 1) := by decide +kernel
theorem dX8_assign_51 : decode cX8_assign 51 = .ok (.getfield 10, 3) := by decide +kernel
theorem dX8_assign_54 : decode cX8_assign 54 = .ok (.iload_n 1, 1) := by decide +kernel
theorem dX8_assign_55 : decode cX8_assign 55 = .ok (.iload_n 2, 1) := by decide +kernel
theorem dX8_assign_56 : decode cX8_assign 56 = .ok (.invokevirtual 167, 3) := by decide +kernel
theorem dX8_assign_59 : decode cX8_assign 59 = .ok (.ifCond .eq 14, 3) := by decide +kernel
theorem dX8_assign_62 : decode cX8_assign 62 = .ok (.aload_n 0, 1) := by decide +kernel
theorem dX8_assign_63 : decode cX8_assign 63 = .ok (.getfield 10, 3) := by decide +kernel
theorem dX8_assign_66 : decode cX8_assign 66 = .ok (.iload_n 2, 1) := by decide +kernel
theorem dX8_assign_67 : decode cX8_assign 67 = .ok (.invokevirtual 170, 3) := by decide +kernel
theorem dX8_assign_70 : decode cX8_assign 70 = .ok (.ifCond .gt 6, 3) := by decide +kernel
theorem dX8_assign_73 : decode cX8_assign 73 = .ok (.ldc 88, 2) := by decide +kernel
theorem dX8_assign_75 : decode cX8_assign 75 = .ok (.ireturn, 1) := by decide +kernel
theorem dX8_assign_76 : decode cX8_assign 76 = .ok (.aload_n 0, 1) := by decide +kernel
theorem dX8_assign_77 : decode cX8_assign 77 = .ok (.getfield 10, 3) := by decide +kernel
theorem dX8_assign_80 : decode cX8_assign 80 = .ok (.iload_n 1, 1) := by decide +kernel
theorem dX8_assign_81 : decode cX8_assign 81 = .ok (.iconst 2, 1) := by decide +kernel
theorem dX8_assign_82 : decode cX8_assign 82 = .ok (.iload_n 2, 1) := by decide +kernel
theorem dX8_assign_83 : decode cX8_assign 83 = .ok (.invokevirtual 173, 3) := by decide +kernel
theorem dX8_assign_86 : decode cX8_assign 86 = .ok (.iconst 1, 1) := by decide +kernel
theorem dX8_assign_87 : decode cX8_assign 87 = .ok (.ireturn, 1) := by decide +kernel
theorem dX8_back_0 : decode cX8_back 0 = .ok (.aload_n 0, 1) := by decide +kernel
theorem dX8_back_1 : decode cX8_back 1 = .ok (.getfield 10, 3) := by decide +kernel
theorem dX8_back_4 : decode cX8_back 4 = .ok (.getfield 77, 3) := by decide +kernel
theorem dX8_back_7 : decode cX8_back 7 = .ok (.iload_n 1, 1) := by decide +kernel
theorem dX8_back_8 : decode cX8_back 8 = .ok (.invokevirtual 70, 3) := by decide +kernel
theorem dX8_back_11 : decode cX8_back 11 = .ok (.ifCond .ne 6, 3) := by decide +kernel
theorem dX8_back_14 : decode cX8_back 14 = .ok (.ldc 59, 2) := by decide +kernel
theorem dX8_back_16 : decode cX8_back 16 = .ok (.ireturn, 1) := by decide +kernel
theorem dX8_back_17 : decode cX8_back 17 = .ok (.aload_n 0, 1) := by decide +kernel
theorem dX8_back_18 : decode cX8_back 18 = .ok (.getfield 10, 3) := by decide +kernel
theorem dX8_back_21 : decode cX8_back 21 = .ok (.getfield 77, 3) := by decide +kernel
theorem dX8_back_24 : decode cX8_back 24 = .ok (.iload_n 1, 1) := by decide +kernel
theorem dX8_back_25 : decode cX8_back 25 = .ok (.iconst 5, 1) := by decide +kernel
theorem dX8_back_26 : decode cX8_back 26 = .ok (.invokevirtual 73, 3) := by decide +kernel
theorem dX8_back_29 : decode cX8_back 29 = .ok (.iconst 2, 1) := by decide +kernel
theorem dX8_back_30 : decode cX8_back 30 = .ok (.if_icmp .eq 6, 3) := by decide +kernel
theorem dX8_back_33 : decode cX8_back 33 = .ok (.ldc 101, 2) := by decide +kernel
theorem dX8_back_35 : decode cX8_back 35 = .ok (.ireturn, 1) := by decide +kernel
theorem dX8_back_36 : decode cX8_back 36 = .ok (.aload_n 0, 1) := by decide +kernel
theorem dX8_back_37 : decode cX8_back 37 = .ok (.getfield 10, 3) := by decide +kernel
theorem dX8_back_40 : decode cX8_back 40 = .ok (.iload_n 1, 1) := by decide +kernel
theorem dX8_back_41 : decode cX8_back 41 = .ok (.invokevirtual 102, 3) := by decide +kernel
theorem dX8_back_44 : decode cX8_back 44 = .ok (.ifCond .eq 6, 3) := by decide +kernel
theorem dX8_back_47 : decode cX8_back 47 = .ok (.ldc 88, 2) := by decide +kernel
theorem dX8_back_49 : decode cX8_back 49 = .ok (.ireturn, 1) := by decide +kernel
theorem dX8_back_50 : decode cX8_back 50 = .ok (.aload_n 0, 1) := by decide +kernel
theorem dX8_back_51 : decode cX8_back 51 = .ok (.getfield 10, 3) := by decide +kernel
theorem dX8_back_54 : decode cX8_back 54 = .ok (.getfield 77, 3) := by decide +kernel
theorem dX8_back_57 : decode cX8_back 57 = .ok (.iload_n 1, 1) := by decide +kernel
theorem dX8_back_58 : decode cX8_back 58 = .ok (.bipush 6, 2) := by decide +kernel
theorem dX8_back_60 : decode cX8_back 60 = .ok (.invokevirtual 73, 3) := by decide +kernel
theorem dX8_back_63 : decode cX8_back 63 = .ok (.istore_n 2, 1) := by decide +kernel
theorem dX8_back_64 : decode cX8_back 64 = .ok (.aload_n 0, 1) := by decide +kernel
theorem dX8_back_65 : decode cX8_back 65 = .ok (.getfield 10, 3) := by decide +kernel
theorem dX8_back_68 : decode cX8_back 68 = .ok (.iload_n 1, 1) := by decide +kernel
theorem dX8_back_69 : decode cX8_back 69 = .ok (.iconst 1, 1) := by decide +kernel
theorem dX8_back_70 : decode cX8_back 70 = .ok (.iconst 0, 1) := by decide +kernel
theorem dX8_back_71 : decode cX8_back 71 = .ok (.invokevirtual 173, 3) := by decide +kernel
theorem dX8_back_74 : decode cX8_back 74 = .ok (.iload_n 2, 1) := by decide +kernel
theorem dX8_back_75 : decode cX8_back 75 = .ok (.ireturn, 1) := by decide +kernel
theorem dX8_ticket_0 : decode cX8_ticket 0 = .ok (.aload_n 0, 1) := by decide +kernel
theorem dX8_ticket_1 : decode cX8_ticket 1 = .ok (.getfield 10, 3) := by decide +kernel
theorem dX8_ticket_4 : decode cX8_ticket 4 = .ok (.getfield 77, 3) := by decide +kernel
theorem dX8_ticket_7 : decode cX8_ticket 7 = .ok (.iload_n 1, 1) := by decide +kernel
theorem dX8_ticket_8 : decode cX8_ticket 8 = .ok (.invokevirtual 70, 3) := by decide +kernel
theorem dX8_ticket_11 : decode cX8_ticket 11 = .ok (.ifCond .ne 6, 3) := by decide +kernel
theorem dX8_ticket_14 : decode cX8_ticket 14 = .ok (.ldc 59, 2) := by decide +kernel
theorem dX8_ticket_16 : decode cX8_ticket 16 = .ok (.ireturn, 1) := by decide +kernel
theorem dX8_ticket_17 : decode cX8_ticket 17 = .ok (.aload_n 0, 1) := by decide +kernel
theorem dX8_ticket_18 : decode cX8_ticket 18 = .ok (.getfield 10, 3) := by decide +kernel
theorem dX8_ticket_21 : decode cX8_ticket 21 = .ok (.getfield 77, 3) := by decide +kernel
theorem dX8_ticket_24 : decode cX8_ticket 24 = .ok (.iload_n 1, 1) := by decide +kernel
theorem dX8_ticket_25 : decode cX8_ticket 25 = .ok (.iconst 5, 1) := by decide +kernel
theorem dX8_ticket_26 : decode cX8_ticket 26 = .ok (.invokevirtual 73, 3) := by decide +kernel
theorem dX8_ticket_29 : decode cX8_ticket 29 = .ok (.iconst 1, 1) := by decide +kernel
theorem dX8_ticket_30 : decode cX8_ticket 30 = .ok (.iconst 2, 1) := by decide +kernel
theorem dX8_ticket_31 : decode cX8_ticket 31 = .ok (.invokestatic 55, 3) := by decide +kernel
theorem dX8_ticket_34 : decode cX8_ticket 34 = .ok (.ifCond .ne 6, 3) := by decide +kernel
theorem dX8_ticket_37 : decode cX8_ticket 37 = .ok (.ldc 101, 2) := by decide +kernel
theorem dX8_ticket_39 : decode cX8_ticket 39 = .ok (.ireturn, 1) := by decide +kernel
theorem dX8_ticket_40 : decode cX8_ticket 40 = .ok (.aload_n 0, 1) := by decide +kernel
theorem dX8_ticket_41 : decode cX8_ticket 41 = .ok (.getfield 10, 3) := by decide +kernel
theorem dX8_ticket_44 : decode cX8_ticket 44 = .ok (.iload_n 1, 1) := by decide +kernel
theorem dX8_ticket_45 : decode cX8_ticket 45 = .ok (.invokevirtual 176, 3) := by decide +kernel
theorem dX8_ticket_48 : decode cX8_ticket 48 = .ok (.ifCond .eq 15, 3) := by decide +kernel
theorem dX8_ticket_51 : decode cX8_ticket 51 = .ok (.aload_n 0, 1) := by decide +kernel
theorem dX8_ticket_52 : decode cX8_ticket 52 = .ok (.getfield 10, 3) := by decide +kernel
theorem dX8_ticket_55 : decode cX8_ticket 55 = .ok (.iconst 0, 1) := by decide +kernel
theorem dX8_ticket_56 : decode cX8_ticket 56 = .ok (.iload_n 1, 1) := by decide +kernel
theorem dX8_ticket_57 : decode cX8_ticket 57 = .ok (.invokevirtual 179, 3) := by decide +kernel
theorem dX8_ticket_60 : decode cX8_ticket 60 = .ok (.ifCond .ne 6, 3) := by decide +kernel
theorem dX8_ticket_63 : decode cX8_ticket 63 = .ok (.ldc 88, 2) := by decide +kernel
theorem dX8_ticket_65 : decode cX8_ticket 65 = .ok (.ireturn, 1) := by decide +kernel
theorem dX8_ticket_66 : decode cX8_ticket 66 = .ok (.aload_n 0, 1) := by decide +kernel
theorem dX8_ticket_67 : decode cX8_ticket 67 = .ok (.getfield 10, 3) := by decide +kernel
theorem dX8_ticket_70 : decode cX8_ticket 70 = .ok (.iload_n 1, 1) := by decide +kernel
theorem dX8_ticket_71 : decode cX8_ticket 71 = .ok (.iconst 4, 1) := by decide +kernel
theorem dX8_ticket_72 : decode cX8_ticket 72 = .ok (.aload_n 0, 1) := by decide +kernel
theorem dX8_ticket_73 : decode cX8_ticket 73 = .ok (.getfield 10, 3) := by decide +kernel
theorem dX8_ticket_76 : decode cX8_ticket 76 = .ok (.getfield 77, 3) := by decide +kernel
theorem dX8_ticket_79 : decode cX8_ticket 79 = .ok (.iload_n 1, 1) := by decide +kernel
theorem dX8_ticket_80 : decode cX8_ticket 80 = .ok (.iconst 4, 1) := by decide +kernel
theorem dX8_ticket_81 : decode cX8_ticket 81 = .ok (.invokevirtual 73, 3) := by decide +kernel
theorem dX8_ticket_84 : decode cX8_ticket 84 = .ok (.invokevirtual 173, 3) := by decide +kernel
theorem dX8_ticket_87 : decode cX8_ticket 87 = .ok (.iconst 1, 1) := by decide +kernel
theorem dX8_ticket_88 : decode cX8_ticket 88 = .ok (.ireturn, 1) := by decide +kernel
theorem dX8_pardon_0 : decode cX8_pardon 0 = .ok (.aload_n 0, 1) := by decide +kernel
theorem dX8_pardon_1 : decode cX8_pardon 1 = .ok (.getfield 10, 3) := by decide +kernel
theorem dX8_pardon_4 : decode cX8_pardon 4 = .ok (.getfield 77, 3) := by decide +kernel
theorem dX8_pardon_7 : decode cX8_pardon 7 = .ok (.iload_n 1, 1) := by decide +kernel
theorem dX8_pardon_8 : decode cX8_pardon 8 = .ok (.invokevirtual 70, 3) := by decide +kernel
theorem dX8_pardon_11 : decode cX8_pardon 11 = .ok (.ifCond .eq 12, 3) := by decide +kernel
theorem dX8_pardon_14 : decode cX8_pardon 14 = .ok (.iload_n 2, 1) := by decide +kernel
theorem dX8_pardon_15 : decode cX8_pardon 15 = .ok (.iconst 0, 1) := by decide +kernel
theorem dX8_pardon_16 : decode cX8_pardon 16 = .ok (.iconst 1, 1) := by decide +kernel
theorem dX8_pardon_17 : decode cX8_pardon 17 = .ok (.invokestatic 55, 3) := by decide +kernel
theorem dX8_pardon_20 : decode cX8_pardon 20 = .ok (.ifCond .ne 6, 3) := by decide +kernel
theorem dX8_pardon_23 : decode cX8_pardon 23 = .ok (.ldc 59, 2) := by decide +kernel
theorem dX8_pardon_25 : decode cX8_pardon 25 = .ok (.ireturn, 1) := by decide +kernel
theorem dX8_pardon_26 : decode cX8_pardon 26 = .ok (.aload_n 0, 1) := by decide +kernel
theorem dX8_pardon_27 : decode cX8_pardon 27 = .ok (.getfield 10, 3) := by decide +kernel
theorem dX8_pardon_30 : decode cX8_pardon 30 = .ok (.iload_n 1, 1) := by decide +kernel
theorem dX8_pardon_31 : decode cX8_pardon 31 = .ok (.invokevirtual 182, 3) := by decide +kernel
theorem dX8_pardon_34 : decode cX8_pardon 34 = .ok (.ifCond .ne 6, 3) := by decide +kernel
theorem dX8_pardon_37 : decode cX8_pardon 37 = .ok (.ldc 101, 2) := by decide +kernel
theorem dX8_pardon_39 : decode cX8_pardon 39 = .ok (.ireturn, 1) := by decide +kernel
theorem dX8_pardon_40 : decode cX8_pardon 40 = .ok (.aload_n 0, 1) := by decide +kernel
theorem dX8_pardon_41 : decode cX8_pardon 41 = .ok (.getfield 10, 3) := by decide +kernel
theorem dX8_pardon_44 : decode cX8_pardon 44 = .ok (.iload_n 1, 1) := by decide +kernel
theorem dX8_pardon_45 : decode cX8_pardon 45 = .ok (.invokevirtual 176, 3) := by decide +kernel
theorem dX8_pardon_48 : decode cX8_pardon 48 = .ok (.ifCond .eq 15, 3) := by decide +kernel
theorem dX8_pardon_51 : decode cX8_pardon 51 = .ok (.aload_n 0, 1) := by decide +kernel
theorem dX8_pardon_52 : decode cX8_pardon 52 = .ok (.getfield 10, 3) := by decide +kernel
theorem dX8_pardon_55 : decode cX8_pardon 55 = .ok (.iconst 1, 1) := by decide +kernel
theorem dX8_pardon_56 : decode cX8_pardon 56 = .ok (.iload_n 1, 1) := by decide +kernel
theorem dX8_pardon_57 : decode cX8_pardon 57 = .ok (.invokevirtual 179, 3) := by decide +kernel
theorem dX8_pardon_60 : decode cX8_pardon 60 = .ok (.ifCond .ne 6, 3) := by decide +kernel
theorem dX8_pardon_63 : decode cX8_pardon 63 = .ok (.ldc 88, 2) := by decide +kernel
theorem dX8_pardon_65 : decode cX8_pardon 65 = .ok (.ireturn, 1) := by decide +kernel
theorem dX8_pardon_66 : decode cX8_pardon 66 = .ok (.aload_n 0, 1) := by decide +kernel
theorem dX8_pardon_67 : decode cX8_pardon 67 = .ok (.getfield 10, 3) := by decide +kernel
theorem dX8_pardon_70 : decode cX8_pardon 70 = .ok (.iload_n 1, 1) := by decide +kernel
theorem dX8_pardon_71 : decode cX8_pardon 71 = .ok (.iconst 5, 1) := by decide +kernel
theorem dX8_pardon_72 : decode cX8_pardon 72 = .ok (.iload_n 2, 1) := by decide +kernel
theorem dX8_pardon_73 : decode cX8_pardon 73 = .ok (.invokevirtual 173, 3) := by decide +kernel
theorem dX8_pardon_76 : decode cX8_pardon 76 = .ok (.iconst 1, 1) := by decide +kernel
theorem dX8_pardon_77 : decode cX8_pardon 77 = .ok (.ireturn, 1) := by decide +kernel
theorem dX8_runs_0 : decode cX8_runs 0 = .ok (.aload_n 0, 1) := by decide +kernel
theorem dX8_runs_1 : decode cX8_runs 1 = .ok (.getfield 10, 3) := by decide +kernel
theorem dX8_runs_4 : decode cX8_runs 4 = .ok (.getfield 77, 3) := by decide +kernel
theorem dX8_runs_7 : decode cX8_runs 7 = .ok (.iload_n 1, 1) := by decide +kernel
theorem dX8_runs_8 : decode cX8_runs 8 = .ok (.invokevirtual 70, 3) := by decide +kernel
theorem dX8_runs_11 : decode cX8_runs 11 = .ok (.ifCond .ne 6, 3) := by decide +kernel
theorem dX8_runs_14 : decode cX8_runs 14 = .ok (.ldc 59, 2) := by decide +kernel
theorem dX8_runs_16 : decode cX8_runs 16 = .ok (.ireturn, 1) := by decide +kernel
theorem dX8_runs_17 : decode cX8_runs 17 = .ok (.aload_n 0, 1) := by decide +kernel
theorem dX8_runs_18 : decode cX8_runs 18 = .ok (.getfield 10, 3) := by decide +kernel
theorem dX8_runs_21 : decode cX8_runs 21 = .ok (.iload_n 1, 1) := by decide +kernel
theorem dX8_runs_22 : decode cX8_runs 22 = .ok (.invokevirtual 182, 3) := by decide +kernel
theorem dX8_runs_25 : decode cX8_runs 25 = .ok (.ifCond .ne 6, 3) := by decide +kernel
theorem dX8_runs_28 : decode cX8_runs 28 = .ok (.ldc 101, 2) := by decide +kernel
theorem dX8_runs_30 : decode cX8_runs 30 = .ok (.ireturn, 1) := by decide +kernel
theorem dX8_runs_31 : decode cX8_runs 31 = .ok (.aload_n 0, 1) := by decide +kernel
theorem dX8_runs_32 : decode cX8_runs 32 = .ok (.getfield 10, 3) := by decide +kernel
theorem dX8_runs_35 : decode cX8_runs 35 = .ok (.iload_n 1, 1) := by decide +kernel
theorem dX8_runs_36 : decode cX8_runs 36 = .ok (.invokevirtual 176, 3) := by decide +kernel
theorem dX8_runs_39 : decode cX8_runs 39 = .ok (.ifCond .ne 6, 3) := by decide +kernel
theorem dX8_runs_42 : decode cX8_runs 42 = .ok (.ldc 88, 2) := by decide +kernel
theorem dX8_runs_44 : decode cX8_runs 44 = .ok (.ireturn, 1) := by decide +kernel
theorem dX8_runs_45 : decode cX8_runs 45 = .ok (.aload_n 0, 1) := by decide +kernel
theorem dX8_runs_46 : decode cX8_runs 46 = .ok (.getfield 10, 3) := by decide +kernel
theorem dX8_runs_49 : decode cX8_runs 49 = .ok (.iload_n 1, 1) := by decide +kernel
theorem dX8_runs_50 : decode cX8_runs 50 = .ok (.bipush 7, 2) := by decide +kernel
theorem dX8_runs_52 : decode cX8_runs 52 = .ok (.aload_n 0, 1) := by decide +kernel
theorem dX8_runs_53 : decode cX8_runs 53 = .ok (.getfield 10, 3) := by decide +kernel
theorem dX8_runs_56 : decode cX8_runs 56 = .ok (.getfield 77, 3) := by decide +kernel
theorem dX8_runs_59 : decode cX8_runs 59 = .ok (.iload_n 1, 1) := by decide +kernel
theorem dX8_runs_60 : decode cX8_runs 60 = .ok (.iconst 4, 1) := by decide +kernel
theorem dX8_runs_61 : decode cX8_runs 61 = .ok (.invokevirtual 73, 3) := by decide +kernel
theorem dX8_runs_64 : decode cX8_runs 64 = .ok (.invokevirtual 173, 3) := by decide +kernel
theorem dX8_runs_67 : decode cX8_runs 67 = .ok (.aload_n 0, 1) := by decide +kernel
theorem dX8_runs_68 : decode cX8_runs 68 = .ok (.getfield 10, 3) := by decide +kernel
theorem dX8_runs_71 : decode cX8_runs 71 = .ok (.getfield 77, 3) := by decide +kernel
theorem dX8_runs_74 : decode cX8_runs 74 = .ok (.iload_n 1, 1) := by decide +kernel
theorem dX8_runs_75 : decode cX8_runs 75 = .ok (.iconst 4, 1) := by decide +kernel
theorem dX8_runs_76 : decode cX8_runs 76 = .ok (.ldc 109, 2) := by decide +kernel
theorem dX8_runs_78 : decode cX8_runs 78 = .ok (.invokevirtual 105, 3) := by decide +kernel
theorem dX8_runs_81 : decode cX8_runs 81 = .ok (.iconst 1, 1) := by decide +kernel
theorem dX8_runs_82 : decode cX8_runs 82 = .ok (.ireturn, 1) := by decide +kernel
theorem dX8_caught_0 : decode cX8_caught 0 = .ok (.aload_n 0, 1) := by decide +kernel
theorem dX8_caught_1 : decode cX8_caught 1 = .ok (.getfield 10, 3) := by decide +kernel
theorem dX8_caught_4 : decode cX8_caught 4 = .ok (.getfield 77, 3) := by decide +kernel
theorem dX8_caught_7 : decode cX8_caught 7 = .ok (.iload_n 1, 1) := by decide +kernel
theorem dX8_caught_8 : decode cX8_caught 8 = .ok (.invokevirtual 70, 3) := by decide +kernel
theorem dX8_caught_11 : decode cX8_caught 11 = .ok (.ifCond .ne 6, 3) := by decide +kernel
theorem dX8_caught_14 : decode cX8_caught 14 = .ok (.ldc 59, 2) := by decide +kernel
theorem dX8_caught_16 : decode cX8_caught 16 = .ok (.ireturn, 1) := by decide +kernel
theorem dX8_caught_17 : decode cX8_caught 17 = .ok (.aload_n 0, 1) := by decide +kernel
theorem dX8_caught_18 : decode cX8_caught 18 = .ok (.getfield 10, 3) := by decide +kernel
theorem dX8_caught_21 : decode cX8_caught 21 = .ok (.getfield 77, 3) := by decide +kernel
theorem dX8_caught_24 : decode cX8_caught 24 = .ok (.iload_n 1, 1) := by decide +kernel
theorem dX8_caught_25 : decode cX8_caught 25 = .ok (.iconst 5, 1) := by decide +kernel
theorem dX8_caught_26 : decode cX8_caught 26 = .ok (.invokevirtual 73, 3) := by decide +kernel
theorem dX8_caught_29 : decode cX8_caught 29 = .ok (.bipush 7, 2) := by decide +kernel
theorem dX8_caught_31 : decode cX8_caught 31 = .ok (.if_icmp .eq 6, 3) := by decide +kernel
theorem dX8_caught_34 : decode cX8_caught 34 = .ok (.ldc 101, 2) := by decide +kernel
theorem dX8_caught_36 : decode cX8_caught 36 = .ok (.ireturn, 1) := by decide +kernel
theorem dX8_caught_37 : decode cX8_caught 37 = .ok (.aload_n 0, 1) := by decide +kernel
theorem dX8_caught_38 : decode cX8_caught 38 = .ok (.getfield 10, 3) := by decide +kernel
theorem dX8_caught_41 : decode cX8_caught 41 = .ok (.iload_n 1, 1) := by decide +kernel
theorem dX8_caught_42 : decode cX8_caught 42 = .ok (.invokevirtual 102, 3) := by decide +kernel
theorem dX8_caught_45 : decode cX8_caught 45 = .ok (.ifCond .eq 6, 3) := by decide +kernel
theorem dX8_caught_48 : decode cX8_caught 48 = .ok (.ldc 88, 2) := by decide +kernel
theorem dX8_caught_50 : decode cX8_caught 50 = .ok (.ireturn, 1) := by decide +kernel
theorem dX8_caught_51 : decode cX8_caught 51 = .ok (.aload_n 0, 1) := by decide +kernel
theorem dX8_caught_52 : decode cX8_caught 52 = .ok (.getfield 10, 3) := by decide +kernel
theorem dX8_caught_55 : decode cX8_caught 55 = .ok (.getfield 77, 3) := by decide +kernel
theorem dX8_caught_58 : decode cX8_caught 58 = .ok (.iload_n 1, 1) := by decide +kernel
theorem dX8_caught_59 : decode cX8_caught 59 = .ok (.iconst 4, 1) := by decide +kernel
theorem dX8_caught_60 : decode cX8_caught 60 = .ok (.aload_n 0, 1) := by decide +kernel
theorem dX8_caught_61 : decode cX8_caught 61 = .ok (.getfield 10, 3) := by decide +kernel
theorem dX8_caught_64 : decode cX8_caught 64 = .ok (.getfield 77, 3) := by decide +kernel
theorem dX8_caught_67 : decode cX8_caught 67 = .ok (.iload_n 1, 1) := by decide +kernel
theorem dX8_caught_68 : decode cX8_caught 68 = .ok (.bipush 6, 2) := by decide +kernel
theorem dX8_caught_70 : decode cX8_caught 70 = .ok (.invokevirtual 73, 3) := by decide +kernel
theorem dX8_caught_73 : decode cX8_caught 73 = .ok (.invokevirtual 105, 3) := by decide +kernel
theorem dX8_caught_76 : decode cX8_caught 76 = .ok (.iconst 1, 1) := by decide +kernel
theorem dX8_caught_77 : decode cX8_caught 77 = .ok (.aload_n 0, 1) := by decide +kernel
theorem dX8_caught_78 : decode cX8_caught 78 = .ok (.getfield 10, 3) := by decide +kernel
theorem dX8_caught_81 : decode cX8_caught 81 = .ok (.iload_n 1, 1) := by decide +kernel
theorem dX8_caught_82 : decode cX8_caught 82 = .ok (.iconst 3, 1) := by decide +kernel
theorem dX8_caught_83 : decode cX8_caught 83 = .ok (.invokevirtual 185, 3) := by decide +kernel
theorem dX8_caught_86 : decode cX8_caught 86 = .ok (.invokestatic 188, 3) := by decide +kernel
theorem dX8_caught_89 : decode cX8_caught 89 = .ok (.istore_n 2, 1) := by decide +kernel
theorem dX8_caught_90 : decode cX8_caught 90 = .ok (.aload_n 0, 1) := by decide +kernel
theorem dX8_caught_91 : decode cX8_caught 91 = .ok (.getfield 10, 3) := by decide +kernel
theorem dX8_caught_94 : decode cX8_caught 94 = .ok (.iload_n 1, 1) := by decide +kernel
theorem dX8_caught_95 : decode cX8_caught 95 = .ok (.iconst 3, 1) := by decide +kernel
theorem dX8_caught_96 : decode cX8_caught 96 = .ok (.aload_n 0, 1) := by decide +kernel
theorem dX8_caught_97 : decode cX8_caught 97 = .ok (.getfield 10, 3) := by decide +kernel
theorem dX8_caught_100 : decode cX8_caught 100 = .ok (.getfield 51, 3) := by decide +kernel
theorem dX8_caught_103 : decode cX8_caught 103 = .ok (.iload_n 2, 1) := by decide +kernel
theorem dX8_caught_104 : decode cX8_caught 104 = .ok (.iadd, 1) := by decide +kernel
theorem dX8_caught_105 : decode cX8_caught 105 = .ok (.invokevirtual 173, 3) := by decide +kernel
theorem dX8_caught_108 : decode cX8_caught 108 = .ok (.aload_n 0, 1) := by decide +kernel
theorem dX8_caught_109 : decode cX8_caught 109 = .ok (.getfield 10, 3) := by decide +kernel
theorem dX8_caught_112 : decode cX8_caught 112 = .ok (.getfield 51, 3) := by decide +kernel
theorem dX8_caught_115 : decode cX8_caught 115 = .ok (.iload_n 2, 1) := by decide +kernel
theorem dX8_caught_116 : decode cX8_caught 116 = .ok (.iadd, 1) := by decide +kernel
theorem dX8_caught_117 : decode cX8_caught 117 = .ok (.ireturn, 1) := by decide +kernel
theorem dX8_seed_0 : decode cX8_seed 0 = .ok (.iload_n 1, 1) := by decide +kernel
theorem dX8_seed_1 : decode cX8_seed 1 = .ok (.iconst 0, 1) := by decide +kernel
theorem dX8_seed_2 : decode cX8_seed 2 = .ok (.ldc 193, 2) := by decide +kernel
theorem dX8_seed_4 : decode cX8_seed 4 = .ok (.invokestatic 55, 3) := by decide +kernel
theorem dX8_seed_7 : decode cX8_seed 7 = .ok (.ifCond .ne 6, 3) := by decide +kernel
theorem dX8_seed_10 : decode cX8_seed 10 = .ok (.ldc 59, 2) := by decide +kernel
theorem dX8_seed_12 : decode cX8_seed 12 = .ok (.ireturn, 1) := by decide +kernel
theorem dX8_seed_13 : decode cX8_seed 13 = .ok (.aload_n 0, 1) := by decide +kernel
theorem dX8_seed_14 : decode cX8_seed 14 = .ok (.getfield 10, 3) := by decide +kernel
theorem dX8_seed_17 : decode cX8_seed 17 = .ok (.getfield 194, 3) := by decide +kernel
theorem dX8_seed_20 : decode cX8_seed 20 = .ok (.istore_n 2, 1) := by decide +kernel
theorem dX8_seed_21 : decode cX8_seed 21 = .ok (.aload_n 0, 1) := by decide +kernel
theorem dX8_seed_22 : decode cX8_seed 22 = .ok (.getfield 10, 3) := by decide +kernel
theorem dX8_seed_25 : decode cX8_seed 25 = .ok (.iload_n 1, 1) := by decide +kernel
theorem dX8_seed_26 : decode cX8_seed 26 = .ok (.putfield 194, 3) := by decide +kernel
theorem dX8_seed_29 : decode cX8_seed 29 = .ok (.iload_n 2, 1) := by decide +kernel
theorem dX8_seed_30 : decode cX8_seed 30 = .ok (.ireturn, 1) := by decide +kernel
theorem dX8_run_0 : decode cX8_run 0 = .ok (.iload_n 1, 1) := by decide +kernel
theorem dX8_run_1 : decode cX8_run 1 = .ok (.iconst 1, 1) := by decide +kernel
theorem dX8_run_2 : decode cX8_run 2 = .ok (.bipush 60, 2) := by decide +kernel
theorem dX8_run_4 : decode cX8_run 4 = .ok (.invokestatic 55, 3) := by decide +kernel
theorem dX8_run_7 : decode cX8_run 7 = .ok (.ifCond .ne 6, 3) := by decide +kernel
theorem dX8_run_10 : decode cX8_run 10 = .ok (.ldc 59, 2) := by decide +kernel
theorem dX8_run_12 : decode cX8_run 12 = .ok (.ireturn, 1) := by decide +kernel
theorem dX8_run_13 : decode cX8_run 13 = .ok (.aload_n 0, 1) := by decide +kernel
theorem dX8_run_14 : decode cX8_run 14 = .ok (.getfield 10, 3) := by decide +kernel
theorem dX8_run_17 : decode cX8_run 17 = .ok (.getfield 51, 3) := by decide +kernel
theorem dX8_run_20 : decode cX8_run 20 = .ok (.iload_n 1, 1) := by decide +kernel
theorem dX8_run_21 : decode cX8_run 21 = .ok (.iadd, 1) := by decide +kernel
theorem dX8_run_22 : decode cX8_run 22 = .ok (.sipush 1999, 3) := by decide +kernel
theorem dX8_run_25 : decode cX8_run 25 = .ok (.if_icmp .le 6, 3) := by decide +kernel
theorem dX8_run_28 : decode cX8_run 28 = .ok (.ldc 80, 2) := by decide +kernel
theorem dX8_run_30 : decode cX8_run 30 = .ok (.ireturn, 1) := by decide +kernel
theorem dX8_run_31 : decode cX8_run 31 = .ok (.iconst 0, 1) := by decide +kernel
theorem dX8_run_32 : decode cX8_run 32 = .ok (.istore_n 2, 1) := by decide +kernel
theorem dX8_run_33 : decode cX8_run 33 = .ok (.iload_n 2, 1) := by decide +kernel
theorem dX8_run_34 : decode cX8_run 34 = .ok (.iload_n 1, 1) := by decide +kernel
theorem dX8_run_35 : decode cX8_run 35 = .ok (.if_icmp .ge 16, 3) := by decide +kernel
theorem dX8_run_38 : decode cX8_run 38 = .ok (.aload_n 0, 1) := by decide +kernel
theorem dX8_run_39 : decode cX8_run 39 = .ok (.getfield 10, 3) := by decide +kernel
theorem dX8_run_42 : decode cX8_run 42 = .ok (.invokevirtual 197, 3) := by decide +kernel
theorem dX8_run_45 : decode cX8_run 45 = .ok (.iinc 2 1, 3) := by decide +kernel
theorem dX8_run_48 : decode cX8_run 48 = .ok (.goto (-15), 3) := by decide +kernel
theorem dX8_run_51 : decode cX8_run 51 = .ok (.aload_n 0, 1) := by decide +kernel
theorem dX8_run_52 : decode cX8_run 52 = .ok (.getfield 10, 3) := by decide +kernel
theorem dX8_run_55 : decode cX8_run 55 = .ok (.getfield 51, 3) := by decide +kernel
theorem dX8_run_58 : decode cX8_run 58 = .ok (.ireturn, 1) := by decide +kernel
theorem dX8_path_0 : decode cX8_path 0 = .ok (.iload_n 1, 1) := by decide +kernel
theorem dX8_path_1 : decode cX8_path 1 = .ok (.invokestatic 47, 3) := by decide +kernel
theorem dX8_path_4 : decode cX8_path 4 = .ok (.ifCond .eq 25, 3) := by decide +kernel
theorem dX8_path_7 : decode cX8_path 7 = .ok (.iload_n 2, 1) := by decide +kernel
theorem dX8_path_8 : decode cX8_path 8 = .ok (.invokestatic 47, 3) := by decide +kernel
theorem dX8_path_11 : decode cX8_path 11 = .ok (.ifCond .eq 18, 3) := by decide +kernel
theorem dX8_path_14 : decode cX8_path 14 = .ok (.iload_n 1, 1) := by decide +kernel
theorem dX8_path_15 : decode cX8_path 15 = .ok (.iload_n 2, 1) := by decide +kernel
theorem dX8_path_16 : decode cX8_path 16 = .ok (.if_icmp .eq 13, 3) := by decide +kernel
theorem dX8_path_19 : decode cX8_path 19 = .ok (.iload_n 3, 1) := by decide +kernel
theorem dX8_path_20 : decode cX8_path 20 = .ok (.iconst 0, 1) := by decide +kernel
theorem dX8_path_21 : decode cX8_path 21 = .ok (.bipush 99, 2) := by decide +kernel
theorem dX8_path_23 : decode cX8_path 23 = .ok (.invokestatic 55, 3) := by decide +kernel
theorem dX8_path_26 : decode cX8_path 26 = .ok (.ifCond .ne 6, 3) := by decide +kernel
theorem dX8_path_29 : decode cX8_path 29 = .ok (.ldc 59, 2) := by decide +kernel
theorem dX8_path_31 : decode cX8_path 31 = .ok (.ireturn, 1) := by decide +kernel
theorem dX8_path_32 : decode cX8_path 32 = .ok (.aload_n 0, 1) := by decide +kernel
theorem dX8_path_33 : decode cX8_path 33 = .ok (.getfield 10, 3) := by decide +kernel
theorem dX8_path_36 : decode cX8_path 36 = .ok (.getfield 200, 3) := by decide +kernel
theorem dX8_path_39 : decode cX8_path 39 = .ok (.iload_n 2, 1) := by decide +kernel
theorem dX8_path_40 : decode cX8_path 40 = .ok (.iload_n 1, 1) := by decide +kernel
theorem dX8_path_41 : decode cX8_path 41 = .ok (.iload_n 3, 1) := by decide +kernel
theorem dX8_path_42 : decode cX8_path 42 = .ok (.invokevirtual 105, 3) := by decide +kernel
theorem dX8_path_45 : decode cX8_path 45 = .ok (.aload_n 0, 1) := by decide +kernel
theorem dX8_path_46 : decode cX8_path 46 = .ok (.getfield 10, 3) := by decide +kernel
theorem dX8_path_49 : decode cX8_path 49 = .ok (.getfield 200, 3) := by decide +kernel
theorem dX8_path_52 : decode cX8_path 52 = .ok (.iload_n 1, 1) := by decide +kernel
theorem dX8_path_53 : decode cX8_path 53 = .ok (.iload_n 2, 1) := by decide +kernel
theorem dX8_path_54 : decode cX8_path 54 = .ok (.iload_n 3, 1) := by decide +kernel
theorem dX8_path_55 : decode cX8_path 55 = .ok (.invokevirtual 89, 3) := by decide +kernel
theorem dX8_path_58 : decode cX8_path 58 = .ok (.ireturn, 1) := by decide +kernel
theorem dX8_reach_0 : decode cX8_reach 0 = .ok (.iload_n 1, 1) := by decide +kernel
theorem dX8_reach_1 : decode cX8_reach 1 = .ok (.invokestatic 47, 3) := by decide +kernel
theorem dX8_reach_4 : decode cX8_reach 4 = .ok (.ifCond .eq 13, 3) := by decide +kernel
theorem dX8_reach_7 : decode cX8_reach 7 = .ok (.iload_n 2, 1) := by decide +kernel
theorem dX8_reach_8 : decode cX8_reach 8 = .ok (.iconst 0, 1) := by decide +kernel
theorem dX8_reach_9 : decode cX8_reach 9 = .ok (.bipush 99, 2) := by decide +kernel
theorem dX8_reach_11 : decode cX8_reach 11 = .ok (.invokestatic 55, 3) := by decide +kernel
theorem dX8_reach_14 : decode cX8_reach 14 = .ok (.ifCond .ne 6, 3) := by decide +kernel
theorem dX8_reach_17 : decode cX8_reach 17 = .ok (.ldc 59, 2) := by decide +kernel
theorem dX8_reach_19 : decode cX8_reach 19 = .ok (.ireturn, 1) := by decide +kernel
theorem dX8_reach_20 : decode cX8_reach 20 = .ok (.aload_n 0, 1) := by decide +kernel
theorem dX8_reach_21 : decode cX8_reach 21 = .ok (.getfield 10, 3) := by decide +kernel
theorem dX8_reach_24 : decode cX8_reach 24 = .ok (.getfield 200, 3) := by decide +kernel
theorem dX8_reach_27 : decode cX8_reach 27 = .ok (.iload_n 1, 1) := by decide +kernel
theorem dX8_reach_28 : decode cX8_reach 28 = .ok (.iload_n 2, 1) := by decide +kernel
theorem dX8_reach_29 : decode cX8_reach 29 = .ok (.bipush 7, 2) := by decide +kernel
theorem dX8_reach_31 : decode cX8_reach 31 = .ok (.imul, 1) := by decide +kernel
theorem dX8_reach_32 : decode cX8_reach 32 = .ok (.invokestatic 203, 3) := by decide +kernel
theorem dX8_reach_35 : decode cX8_reach 35 = .ok (.ireturn, 1) := by decide +kernel
theorem dX8_look_0 : decode cX8_look 0 = .ok (.iload_n 1, 1) := by decide +kernel
theorem dX8_look_1 : decode cX8_look 1 = .ok (.iconst 0, 1) := by decide +kernel
theorem dX8_look_2 : decode cX8_look 2 = .ok (.bipush 8, 2) := by decide +kernel
theorem dX8_look_4 : decode cX8_look 4 = .ok (.invokestatic 55, 3) := by decide +kernel
theorem dX8_look_7 : decode cX8_look 7 = .ok (.ifCond .eq 13, 3) := by decide +kernel
theorem dX8_look_10 : decode cX8_look 10 = .ok (.iload_n 2, 1) := by decide +kernel
theorem dX8_look_11 : decode cX8_look 11 = .ok (.iconst 0, 1) := by decide +kernel
theorem dX8_look_12 : decode cX8_look 12 = .ok (.bipush 6, 2) := by decide +kernel
theorem dX8_look_14 : decode cX8_look 14 = .ok (.invokestatic 55, 3) := by decide +kernel
theorem dX8_look_17 : decode cX8_look 17 = .ok (.ifCond .ne 6, 3) := by decide +kernel
theorem dX8_look_20 : decode cX8_look 20 = .ok (.ldc 59, 2) := by decide +kernel
theorem dX8_look_22 : decode cX8_look 22 = .ok (.ireturn, 1) := by decide +kernel
theorem dX8_look_23 : decode cX8_look 23 = .ok (.iload_n 3, 1) := by decide +kernel
theorem dX8_look_24 : decode cX8_look 24 = .ok (.iconst 0, 1) := by decide +kernel
theorem dX8_look_25 : decode cX8_look 25 = .ok (.bipush 70, 2) := by decide +kernel
theorem dX8_look_27 : decode cX8_look 27 = .ok (.invokestatic 55, 3) := by decide +kernel
theorem dX8_look_30 : decode cX8_look 30 = .ok (.ifCond .eq 15, 3) := by decide +kernel
theorem dX8_look_33 : decode cX8_look 33 = .ok (.iload 4, 2) := by decide +kernel
theorem dX8_look_35 : decode cX8_look 35 = .ok (.iconst 0, 1) := by decide +kernel
theorem dX8_look_36 : decode cX8_look 36 = .ok (.sipush 255, 3) := by decide +kernel
theorem dX8_look_39 : decode cX8_look 39 = .ok (.invokestatic 55, 3) := by decide +kernel
theorem dX8_look_42 : decode cX8_look 42 = .ok (.ifCond .ne 6, 3) := by decide +kernel
theorem dX8_look_45 : decode cX8_look 45 = .ok (.ldc 59, 2) := by decide +kernel
theorem dX8_look_47 : decode cX8_look 47 = .ok (.ireturn, 1) := by decide +kernel
theorem dX8_look_48 : decode cX8_look 48 = .ok (.aload_n 0, 1) := by decide +kernel
theorem dX8_look_49 : decode cX8_look 49 = .ok (.getfield 10, 3) := by decide +kernel
theorem dX8_look_52 : decode cX8_look 52 = .ok (.getfield 209, 3) := by decide +kernel
theorem dX8_look_55 : decode cX8_look 55 = .ok (.iload_n 1, 1) := by decide +kernel
theorem dX8_look_56 : decode cX8_look 56 = .ok (.iload_n 2, 1) := by decide +kernel
theorem dX8_look_57 : decode cX8_look 57 = .ok (.iload_n 3, 1) := by decide +kernel
theorem dX8_look_58 : decode cX8_look 58 = .ok (.iload 4, 2) := by decide +kernel
theorem dX8_look_60 : decode cX8_look 60 = .ok (.invokevirtual 64, 3) := by decide +kernel
theorem dX8_look_63 : decode cX8_look 63 = .ok (.ireturn, 1) := by decide +kernel
theorem dX8_may_0 : decode cX8_may 0 = .ok (.aload_n 0, 1) := by decide +kernel
theorem dX8_may_1 : decode cX8_may 1 = .ok (.getfield 10, 3) := by decide +kernel
theorem dX8_may_4 : decode cX8_may 4 = .ok (.getfield 209, 3) := by decide +kernel
theorem dX8_may_7 : decode cX8_may 7 = .ok (.iload_n 1, 1) := by decide +kernel
theorem dX8_may_8 : decode cX8_may 8 = .ok (.invokevirtual 70, 3) := by decide +kernel
theorem dX8_may_11 : decode cX8_may 11 = .ok (.ifCond .ne 6, 3) := by decide +kernel
theorem dX8_may_14 : decode cX8_may 14 = .ok (.ldc 59, 2) := by decide +kernel
theorem dX8_may_16 : decode cX8_may 16 = .ok (.ireturn, 1) := by decide +kernel
theorem dX8_may_17 : decode cX8_may 17 = .ok (.aload_n 0, 1) := by decide +kernel
theorem dX8_may_18 : decode cX8_may 18 = .ok (.getfield 10, 3) := by decide +kernel
theorem dX8_may_21 : decode cX8_may 21 = .ok (.iload_n 1, 1) := by decide +kernel
theorem dX8_may_22 : decode cX8_may 22 = .ok (.invokevirtual 212, 3) := by decide +kernel
theorem dX8_may_25 : decode cX8_may 25 = .ok (.istore_n 3, 1) := by decide +kernel
theorem dX8_may_26 : decode cX8_may 26 = .ok (.iload_n 2, 1) := by decide +kernel
theorem dX8_may_27 : decode cX8_may 27 = .ok (.tableswitch 67 0 2 #[25, 27, 45], 25) := by decide +kernel
theorem dX8_may_52 : decode cX8_may 52 = .ok (.iload_n 3, 1) := by decide +kernel
theorem dX8_may_53 : decode cX8_may 53 = .ok (.ireturn, 1) := by decide +kernel
theorem dX8_may_54 : decode cX8_may 54 = .ok (.iload_n 3, 1) := by decide +kernel
theorem dX8_may_55 : decode cX8_may 55 = .ok (.invokestatic 215, 3) := by decide +kernel
theorem dX8_may_58 : decode cX8_may 58 = .ok (.iconst 1, 1) := by decide +kernel
theorem dX8_may_59 : decode cX8_may 59 = .ok (.if_icmp .ne 10, 3) := by decide +kernel
theorem dX8_may_62 : decode cX8_may 62 = .ok (.iload_n 3, 1) := by decide +kernel
theorem dX8_may_63 : decode cX8_may 63 = .ok (.invokestatic 220, 3) := by decide +kernel
theorem dX8_may_66 : decode cX8_may 66 = .ok (.goto 5, 3) := by decide +kernel
theorem dX8_may_69 : decode cX8_may 69 = .ok (.ldc 109, 2) := by decide +kernel
theorem dX8_may_71 : decode cX8_may 71 = .ok (.ireturn, 1) := by decide +kernel
theorem dX8_may_72 : decode cX8_may 72 = .ok (.iload_n 3, 1) := by decide +kernel
theorem dX8_may_73 : decode cX8_may 73 = .ok (.invokestatic 215, 3) := by decide +kernel
theorem dX8_may_76 : decode cX8_may 76 = .ok (.iconst 2, 1) := by decide +kernel
theorem dX8_may_77 : decode cX8_may 77 = .ok (.if_icmp .ge 8, 3) := by decide +kernel
theorem dX8_may_80 : decode cX8_may 80 = .ok (.ldc 109, 2) := by decide +kernel
theorem dX8_may_82 : decode cX8_may 82 = .ok (.goto 11, 3) := by decide +kernel
theorem dX8_may_85 : decode cX8_may 85 = .ok (.aload_n 0, 1) := by decide +kernel
theorem dX8_may_86 : decode cX8_may 86 = .ok (.getfield 10, 3) := by decide +kernel
theorem dX8_may_89 : decode cX8_may 89 = .ok (.iload_n 3, 1) := by decide +kernel
theorem dX8_may_90 : decode cX8_may 90 = .ok (.invokevirtual 223, 3) := by decide +kernel
theorem dX8_may_93 : decode cX8_may 93 = .ok (.ireturn, 1) := by decide +kernel
theorem dX8_may_94 : decode cX8_may 94 = .ok (.ldc 59, 2) := by decide +kernel
theorem dX8_may_96 : decode cX8_may 96 = .ok (.ireturn, 1) := by decide +kernel
theorem dX8_same_0 : decode cX8_same 0 = .ok (.aload_n 0, 1) := by decide +kernel
theorem dX8_same_1 : decode cX8_same 1 = .ok (.getfield 10, 3) := by decide +kernel
theorem dX8_same_4 : decode cX8_same 4 = .ok (.getfield 209, 3) := by decide +kernel
theorem dX8_same_7 : decode cX8_same 7 = .ok (.iload_n 1, 1) := by decide +kernel
theorem dX8_same_8 : decode cX8_same 8 = .ok (.invokevirtual 70, 3) := by decide +kernel
theorem dX8_same_11 : decode cX8_same 11 = .ok (.ifCond .eq 22, 3) := by decide +kernel
theorem dX8_same_14 : decode cX8_same 14 = .ok (.aload_n 0, 1) := by decide +kernel
theorem dX8_same_15 : decode cX8_same 15 = .ok (.getfield 10, 3) := by decide +kernel
theorem dX8_same_18 : decode cX8_same 18 = .ok (.getfield 209, 3) := by decide +kernel
theorem dX8_same_21 : decode cX8_same 21 = .ok (.iload_n 2, 1) := by decide +kernel
theorem dX8_same_22 : decode cX8_same 22 = .ok (.invokevirtual 70, 3) := by decide +kernel
theorem dX8_same_25 : decode cX8_same 25 = .ok (.ifCond .eq 8, 3) := by decide +kernel
theorem dX8_same_28 : decode cX8_same 28 = .ok (.iload_n 1, 1) := by decide +kernel
theorem dX8_same_29 : decode cX8_same 29 = .ok (.iload_n 2, 1) := by decide +kernel
theorem dX8_same_30 : decode cX8_same 30 = .ok (.if_icmp .ne 6, 3) := by decide +kernel
theorem dX8_same_33 : decode cX8_same 33 = .ok (.ldc 59, 2) := by decide +kernel
theorem dX8_same_35 : decode cX8_same 35 = .ok (.ireturn, 1) := by decide +kernel
theorem dX8_same_36 : decode cX8_same 36 = .ok (.aload_n 0, 1) := by decide +kernel
theorem dX8_same_37 : decode cX8_same 37 = .ok (.getfield 10, 3) := by decide +kernel
theorem dX8_same_40 : decode cX8_same 40 = .ok (.iload_n 1, 1) := by decide +kernel
theorem dX8_same_41 : decode cX8_same 41 = .ok (.invokevirtual 212, 3) := by decide +kernel
theorem dX8_same_44 : decode cX8_same 44 = .ok (.istore_n 3, 1) := by decide +kernel
theorem dX8_same_45 : decode cX8_same 45 = .ok (.aload_n 0, 1) := by decide +kernel
theorem dX8_same_46 : decode cX8_same 46 = .ok (.getfield 10, 3) := by decide +kernel
theorem dX8_same_49 : decode cX8_same 49 = .ok (.iload_n 2, 1) := by decide +kernel
theorem dX8_same_50 : decode cX8_same 50 = .ok (.invokevirtual 212, 3) := by decide +kernel
theorem dX8_same_53 : decode cX8_same 53 = .ok (.istore 4, 2) := by decide +kernel
theorem dX8_same_55 : decode cX8_same 55 = .ok (.iload_n 3, 1) := by decide +kernel
theorem dX8_same_56 : decode cX8_same 56 = .ok (.iload 4, 2) := by decide +kernel
theorem dX8_same_58 : decode cX8_same 58 = .ok (.if_icmp .ne 13, 3) := by decide +kernel
theorem dX8_same_61 : decode cX8_same 61 = .ok (.iload_n 3, 1) := by decide +kernel
theorem dX8_same_62 : decode cX8_same 62 = .ok (.invokestatic 215, 3) := by decide +kernel
theorem dX8_same_65 : decode cX8_same 65 = .ok (.iconst 1, 1) := by decide +kernel
theorem dX8_same_66 : decode cX8_same 66 = .ok (.if_icmp .ne 5, 3) := by decide +kernel
theorem dX8_same_69 : decode cX8_same 69 = .ok (.iconst 2, 1) := by decide +kernel
theorem dX8_same_70 : decode cX8_same 70 = .ok (.ireturn, 1) := by decide +kernel
theorem dX8_same_71 : decode cX8_same 71 = .ok (.iload_n 3, 1) := by decide +kernel
theorem dX8_same_72 : decode cX8_same 72 = .ok (.iload 4, 2) := by decide +kernel
theorem dX8_same_74 : decode cX8_same 74 = .ok (.iand, 1) := by decide +kernel
theorem dX8_same_75 : decode cX8_same 75 = .ok (.ifCond .eq 7, 3) := by decide +kernel
theorem dX8_same_78 : decode cX8_same 78 = .ok (.iconst 1, 1) := by decide +kernel
theorem dX8_same_79 : decode cX8_same 79 = .ok (.goto 4, 3) := by decide +kernel
theorem dX8_same_82 : decode cX8_same 82 = .ok (.iconst 0, 1) := by decide +kernel
theorem dX8_same_83 : decode cX8_same 83 = .ok (.ireturn, 1) := by decide +kernel
theorem dX8_goes_0 : decode cX8_goes 0 = .ok (.aload_n 0, 1) := by decide +kernel
theorem dX8_goes_1 : decode cX8_goes 1 = .ok (.getfield 10, 3) := by decide +kernel
theorem dX8_goes_4 : decode cX8_goes 4 = .ok (.getfield 77, 3) := by decide +kernel
theorem dX8_goes_7 : decode cX8_goes 7 = .ok (.iload_n 1, 1) := by decide +kernel
theorem dX8_goes_8 : decode cX8_goes 8 = .ok (.invokevirtual 70, 3) := by decide +kernel
theorem dX8_goes_11 : decode cX8_goes 11 = .ok (.ifCond .ne 6, 3) := by decide +kernel
theorem dX8_goes_14 : decode cX8_goes 14 = .ok (.ldc 59, 2) := by decide +kernel
theorem dX8_goes_16 : decode cX8_goes 16 = .ok (.ireturn, 1) := by decide +kernel
theorem dX8_goes_17 : decode cX8_goes 17 = .ok (.aload_n 0, 1) := by decide +kernel
theorem dX8_goes_18 : decode cX8_goes 18 = .ok (.getfield 32, 3) := by decide +kernel
theorem dX8_goes_21 : decode cX8_goes 21 = .ok (.aload_n 0, 1) := by decide +kernel
theorem dX8_goes_22 : decode cX8_goes 22 = .ok (.getfield 10, 3) := by decide +kernel
theorem dX8_goes_25 : decode cX8_goes 25 = .ok (.invokevirtual 226, 3) := by decide +kernel
theorem dX8_goes_28 : decode cX8_goes 28 = .ok (.aload_n 0, 1) := by decide +kernel
theorem dX8_goes_29 : decode cX8_goes 29 = .ok (.getfield 32, 3) := by decide +kernel
theorem dX8_goes_32 : decode cX8_goes 32 = .ok (.iload_n 1, 1) := by decide +kernel
theorem dX8_goes_33 : decode cX8_goes 33 = .ok (.invokevirtual 230, 3) := by decide +kernel
theorem dX8_goes_36 : decode cX8_goes 36 = .ok (.ireturn, 1) := by decide +kernel
theorem dX8_most_0 : decode cX8_most 0 = .ok (.aload_n 0, 1) := by decide +kernel
theorem dX8_most_1 : decode cX8_most 1 = .ok (.getfield 32, 3) := by decide +kernel
theorem dX8_most_4 : decode cX8_most 4 = .ok (.aload_n 0, 1) := by decide +kernel
theorem dX8_most_5 : decode cX8_most 5 = .ok (.getfield 10, 3) := by decide +kernel
theorem dX8_most_8 : decode cX8_most 8 = .ok (.invokevirtual 226, 3) := by decide +kernel
theorem dX8_most_11 : decode cX8_most 11 = .ok (.aload_n 0, 1) := by decide +kernel
theorem dX8_most_12 : decode cX8_most 12 = .ok (.getfield 32, 3) := by decide +kernel
theorem dX8_most_15 : decode cX8_most 15 = .ok (.iconst 0, 1) := by decide +kernel
theorem dX8_most_16 : decode cX8_most 16 = .ok (.invokevirtual 233, 3) := by decide +kernel
theorem dX8_most_19 : decode cX8_most 19 = .ok (.ireturn, 1) := by decide +kernel
theorem dX8_sentence_0 : decode cX8_sentence 0 = .ok (.iload_n 1, 1) := by decide +kernel
theorem dX8_sentence_1 : decode cX8_sentence 1 = .ok (.iconst 0, 1) := by decide +kernel
theorem dX8_sentence_2 : decode cX8_sentence 2 = .ok (.iconst 3, 1) := by decide +kernel
theorem dX8_sentence_3 : decode cX8_sentence 3 = .ok (.invokestatic 55, 3) := by decide +kernel
theorem dX8_sentence_6 : decode cX8_sentence 6 = .ok (.ifCond .eq 24, 3) := by decide +kernel
theorem dX8_sentence_9 : decode cX8_sentence 9 = .ok (.iload_n 2, 1) := by decide +kernel
theorem dX8_sentence_10 : decode cX8_sentence 10 = .ok (.iconst 0, 1) := by decide +kernel
theorem dX8_sentence_11 : decode cX8_sentence 11 = .ok (.bipush 7, 2) := by decide +kernel
theorem dX8_sentence_13 : decode cX8_sentence 13 = .ok (.invokestatic 55, 3) := by decide +kernel
theorem dX8_sentence_16 : decode cX8_sentence 16 = .ok (.ifCond .eq 14, 3) := by decide +kernel
theorem dX8_sentence_19 : decode cX8_sentence 19 = .ok (.iload_n 3, 1) := by decide +kernel
theorem dX8_sentence_20 : decode cX8_sentence 20 = .ok (.iconst 0, 1) := by decide +kernel
theorem dX8_sentence_21 : decode cX8_sentence 21 = .ok (.sipush 300, 3) := by decide +kernel
theorem dX8_sentence_24 : decode cX8_sentence 24 = .ok (.invokestatic 55, 3) := by decide +kernel
theorem dX8_sentence_27 : decode cX8_sentence 27 = .ok (.ifCond .ne 6, 3) := by decide +kernel
theorem dX8_sentence_30 : decode cX8_sentence 30 = .ok (.ldc 59, 2) := by decide +kernel
theorem dX8_sentence_32 : decode cX8_sentence 32 = .ok (.ireturn, 1) := by decide +kernel
theorem dX8_sentence_33 : decode cX8_sentence 33 = .ok (.aload_n 0, 1) := by decide +kernel
theorem dX8_sentence_34 : decode cX8_sentence 34 = .ok (.getfield 10, 3) := by decide +kernel
theorem dX8_sentence_37 : decode cX8_sentence 37 = .ok (.getfield 236, 3) := by decide +kernel
theorem dX8_sentence_40 : decode cX8_sentence 40 = .ok (.iload_n 1, 1) := by decide +kernel
theorem dX8_sentence_41 : decode cX8_sentence 41 = .ok (.iload_n 2, 1) := by decide +kernel
theorem dX8_sentence_42 : decode cX8_sentence 42 = .ok (.iload_n 3, 1) := by decide +kernel
theorem dX8_sentence_43 : decode cX8_sentence 43 = .ok (.iconst 0, 1) := by decide +kernel
theorem dX8_sentence_44 : decode cX8_sentence 44 = .ok (.invokevirtual 64, 3) := by decide +kernel
theorem dX8_sentence_47 : decode cX8_sentence 47 = .ok (.ireturn, 1) := by decide +kernel
theorem dX8_mean_0 : decode cX8_mean 0 = .ok (.iload_n 1, 1) := by decide +kernel
theorem dX8_mean_1 : decode cX8_mean 1 = .ok (.iconst 0, 1) := by decide +kernel
theorem dX8_mean_2 : decode cX8_mean 2 = .ok (.iconst 3, 1) := by decide +kernel
theorem dX8_mean_3 : decode cX8_mean 3 = .ok (.invokestatic 55, 3) := by decide +kernel
theorem dX8_mean_6 : decode cX8_mean 6 = .ok (.ifCond .eq 13, 3) := by decide +kernel
theorem dX8_mean_9 : decode cX8_mean 9 = .ok (.iload_n 2, 1) := by decide +kernel
theorem dX8_mean_10 : decode cX8_mean 10 = .ok (.iconst 0, 1) := by decide +kernel
theorem dX8_mean_11 : decode cX8_mean 11 = .ok (.bipush 7, 2) := by decide +kernel
theorem dX8_mean_13 : decode cX8_mean 13 = .ok (.invokestatic 55, 3) := by decide +kernel
theorem dX8_mean_16 : decode cX8_mean 16 = .ok (.ifCond .ne 6, 3) := by decide +kernel
theorem dX8_mean_19 : decode cX8_mean 19 = .ok (.ldc 59, 2) := by decide +kernel
theorem dX8_mean_21 : decode cX8_mean 21 = .ok (.ireturn, 1) := by decide +kernel
theorem dX8_mean_22 : decode cX8_mean 22 = .ok (.aload_n 0, 1) := by decide +kernel
theorem dX8_mean_23 : decode cX8_mean 23 = .ok (.getfield 10, 3) := by decide +kernel
theorem dX8_mean_26 : decode cX8_mean 26 = .ok (.getfield 236, 3) := by decide +kernel
theorem dX8_mean_29 : decode cX8_mean 29 = .ok (.iload_n 1, 1) := by decide +kernel
theorem dX8_mean_30 : decode cX8_mean 30 = .ok (.iload_n 2, 1) := by decide +kernel
theorem dX8_mean_31 : decode cX8_mean 31 = .ok (.iconst 1, 1) := by decide +kernel
theorem dX8_mean_32 : decode cX8_mean 32 = .ok (.invokestatic 239, 3) := by decide +kernel
theorem dX8_mean_35 : decode cX8_mean 35 = .ok (.ireturn, 1) := by decide +kernel
theorem dX8_harsh_0 : decode cX8_harsh 0 = .ok (.iload_n 1, 1) := by decide +kernel
theorem dX8_harsh_1 : decode cX8_harsh 1 = .ok (.iconst 0, 1) := by decide +kernel
theorem dX8_harsh_2 : decode cX8_harsh 2 = .ok (.bipush 7, 2) := by decide +kernel
theorem dX8_harsh_4 : decode cX8_harsh 4 = .ok (.invokestatic 55, 3) := by decide +kernel
theorem dX8_harsh_7 : decode cX8_harsh 7 = .ok (.ifCond .eq 17, 3) := by decide +kernel
theorem dX8_harsh_10 : decode cX8_harsh 10 = .ok (.aload_n 0, 1) := by decide +kernel
theorem dX8_harsh_11 : decode cX8_harsh 11 = .ok (.getfield 10, 3) := by decide +kernel
theorem dX8_harsh_14 : decode cX8_harsh 14 = .ok (.getfield 236, 3) := by decide +kernel
theorem dX8_harsh_17 : decode cX8_harsh 17 = .ok (.iload_n 1, 1) := by decide +kernel
theorem dX8_harsh_18 : decode cX8_harsh 18 = .ok (.invokestatic 243, 3) := by decide +kernel
theorem dX8_harsh_21 : decode cX8_harsh 21 = .ok (.goto 5, 3) := by decide +kernel
theorem dX8_harsh_24 : decode cX8_harsh 24 = .ok (.ldc 59, 2) := by decide +kernel
theorem dX8_harsh_26 : decode cX8_harsh 26 = .ok (.ireturn, 1) := by decide +kernel
theorem dX8_letter_0 : decode cX8_letter 0 = .ok (.aload_n 0, 1) := by decide +kernel
theorem dX8_letter_1 : decode cX8_letter 1 = .ok (.getfield 10, 3) := by decide +kernel
theorem dX8_letter_4 : decode cX8_letter 4 = .ok (.getfield 77, 3) := by decide +kernel
theorem dX8_letter_7 : decode cX8_letter 7 = .ok (.iload_n 1, 1) := by decide +kernel
theorem dX8_letter_8 : decode cX8_letter 8 = .ok (.invokevirtual 70, 3) := by decide +kernel
theorem dX8_letter_11 : decode cX8_letter 11 = .ok (.ifCond .eq 22, 3) := by decide +kernel
theorem dX8_letter_14 : decode cX8_letter 14 = .ok (.iload_n 2, 1) := by decide +kernel
theorem dX8_letter_15 : decode cX8_letter 15 = .ok (.iconst 0, 1) := by decide +kernel
theorem dX8_letter_16 : decode cX8_letter 16 = .ok (.iconst 1, 1) := by decide +kernel
theorem dX8_letter_17 : decode cX8_letter 17 = .ok (.invokestatic 55, 3) := by decide +kernel
theorem dX8_letter_20 : decode cX8_letter 20 = .ok (.ifCond .eq 13, 3) := by decide +kernel
theorem dX8_letter_23 : decode cX8_letter 23 = .ok (.iload_n 3, 1) := by decide +kernel
theorem dX8_letter_24 : decode cX8_letter 24 = .ok (.iconst 1, 1) := by decide +kernel
theorem dX8_letter_25 : decode cX8_letter 25 = .ok (.bipush 99, 2) := by decide +kernel
theorem dX8_letter_27 : decode cX8_letter 27 = .ok (.invokestatic 55, 3) := by decide +kernel
theorem dX8_letter_30 : decode cX8_letter 30 = .ok (.ifCond .ne 6, 3) := by decide +kernel
theorem dX8_letter_33 : decode cX8_letter 33 = .ok (.ldc 59, 2) := by decide +kernel
theorem dX8_letter_35 : decode cX8_letter 35 = .ok (.ireturn, 1) := by decide +kernel
theorem dX8_letter_36 : decode cX8_letter 36 = .ok (.iload_n 2, 1) := by decide +kernel
theorem dX8_letter_37 : decode cX8_letter 37 = .ok (.iconst 1, 1) := by decide +kernel
theorem dX8_letter_38 : decode cX8_letter 38 = .ok (.if_icmp .ne 17, 3) := by decide +kernel
theorem dX8_letter_41 : decode cX8_letter 41 = .ok (.aload_n 0, 1) := by decide +kernel
theorem dX8_letter_42 : decode cX8_letter 42 = .ok (.getfield 10, 3) := by decide +kernel
theorem dX8_letter_45 : decode cX8_letter 45 = .ok (.iload_n 1, 1) := by decide +kernel
theorem dX8_letter_46 : decode cX8_letter 46 = .ok (.invokevirtual 102, 3) := by decide +kernel
theorem dX8_letter_49 : decode cX8_letter 49 = .ok (.ifCond .eq 6, 3) := by decide +kernel
theorem dX8_letter_52 : decode cX8_letter 52 = .ok (.ldc 88, 2) := by decide +kernel
theorem dX8_letter_54 : decode cX8_letter 54 = .ok (.ireturn, 1) := by decide +kernel
theorem dX8_letter_55 : decode cX8_letter 55 = .ok (.aload_n 0, 1) := by decide +kernel
theorem dX8_letter_56 : decode cX8_letter 56 = .ok (.getfield 10, 3) := by decide +kernel
theorem dX8_letter_59 : decode cX8_letter 59 = .ok (.getfield 247, 3) := by decide +kernel
theorem dX8_letter_62 : decode cX8_letter 62 = .ok (.iload_n 1, 1) := by decide +kernel
theorem dX8_letter_63 : decode cX8_letter 63 = .ok (.iload_n 2, 1) := by decide +kernel
theorem dX8_letter_64 : decode cX8_letter 64 = .ok (.aload_n 0, 1) := by decide +kernel
theorem dX8_letter_65 : decode cX8_letter 65 = .ok (.getfield 10, 3) := by decide +kernel
theorem dX8_letter_68 : decode cX8_letter 68 = .ok (.getfield 51, 3) := by decide +kernel
theorem dX8_letter_71 : decode cX8_letter 71 = .ok (.iload_n 3, 1) := by decide +kernel
theorem dX8_letter_72 : decode cX8_letter 72 = .ok (.iadd, 1) := by decide +kernel
theorem dX8_letter_73 : decode cX8_letter 73 = .ok (.iconst 0, 1) := by decide +kernel
theorem dX8_letter_74 : decode cX8_letter 74 = .ok (.invokevirtual 64, 3) := by decide +kernel
theorem dX8_letter_77 : decode cX8_letter 77 = .ok (.ireturn, 1) := by decide +kernel
theorem dX8_letterTold_0 : decode cX8_letterTold 0 = .ok (.aload_n 0, 1) := by decide +kernel
theorem dX8_letterTold_1 : decode cX8_letterTold 1 = .ok (.getfield 10, 3) := by decide +kernel
theorem dX8_letterTold_4 : decode cX8_letterTold 4 = .ok (.getfield 247, 3) := by decide +kernel
theorem dX8_letterTold_7 : decode cX8_letterTold 7 = .ok (.iload_n 1, 1) := by decide +kernel
theorem dX8_letterTold_8 : decode cX8_letterTold 8 = .ok (.invokevirtual 70, 3) := by decide +kernel
theorem dX8_letterTold_11 : decode cX8_letterTold 11 = .ok (.ifCond .eq 12, 3) := by decide +kernel
theorem dX8_letterTold_14 : decode cX8_letterTold 14 = .ok (.iload_n 2, 1) := by decide +kernel
theorem dX8_letterTold_15 : decode cX8_letterTold 15 = .ok (.iconst 0, 1) := by decide +kernel
theorem dX8_letterTold_16 : decode cX8_letterTold 16 = .ok (.iconst 4, 1) := by decide +kernel
theorem dX8_letterTold_17 : decode cX8_letterTold 17 = .ok (.invokestatic 55, 3) := by decide +kernel
theorem dX8_letterTold_20 : decode cX8_letterTold 20 = .ok (.ifCond .ne 6, 3) := by decide +kernel
theorem dX8_letterTold_23 : decode cX8_letterTold 23 = .ok (.ldc 59, 2) := by decide +kernel
theorem dX8_letterTold_25 : decode cX8_letterTold 25 = .ok (.ireturn, 1) := by decide +kernel
theorem dX8_letterTold_26 : decode cX8_letterTold 26 = .ok (.aload_n 0, 1) := by decide +kernel
theorem dX8_letterTold_27 : decode cX8_letterTold 27 = .ok (.getfield 10, 3) := by decide +kernel
theorem dX8_letterTold_30 : decode cX8_letterTold 30 = .ok (.getfield 247, 3) := by decide +kernel
theorem dX8_letterTold_33 : decode cX8_letterTold 33 = .ok (.iload_n 1, 1) := by decide +kernel
theorem dX8_letterTold_34 : decode cX8_letterTold 34 = .ok (.iload_n 2, 1) := by decide +kernel
theorem dX8_letterTold_35 : decode cX8_letterTold 35 = .ok (.invokevirtual 73, 3) := by decide +kernel
theorem dX8_letterTold_38 : decode cX8_letterTold 38 = .ok (.ireturn, 1) := by decide +kernel
theorem dX8_party_0 : decode cX8_party 0 = .ok (.iload_n 1, 1) := by decide +kernel
theorem dX8_party_1 : decode cX8_party 1 = .ok (.iconst 0, 1) := by decide +kernel
theorem dX8_party_2 : decode cX8_party 2 = .ok (.bipush 6, 2) := by decide +kernel
theorem dX8_party_4 : decode cX8_party 4 = .ok (.invokestatic 55, 3) := by decide +kernel
theorem dX8_party_7 : decode cX8_party 7 = .ok (.ifCond .eq 12, 3) := by decide +kernel
theorem dX8_party_10 : decode cX8_party 10 = .ok (.iload_n 2, 1) := by decide +kernel
theorem dX8_party_11 : decode cX8_party 11 = .ok (.iconst 0, 1) := by decide +kernel
theorem dX8_party_12 : decode cX8_party 12 = .ok (.iconst 2, 1) := by decide +kernel
theorem dX8_party_13 : decode cX8_party 13 = .ok (.invokestatic 55, 3) := by decide +kernel
theorem dX8_party_16 : decode cX8_party 16 = .ok (.ifCond .ne 6, 3) := by decide +kernel
theorem dX8_party_19 : decode cX8_party 19 = .ok (.ldc 59, 2) := by decide +kernel
theorem dX8_party_21 : decode cX8_party 21 = .ok (.ireturn, 1) := by decide +kernel
theorem dX8_party_22 : decode cX8_party 22 = .ok (.iload_n 3, 1) := by decide +kernel
theorem dX8_party_23 : decode cX8_party 23 = .ok (.iconst 0, 1) := by decide +kernel
theorem dX8_party_24 : decode cX8_party 24 = .ok (.iload_n 2, 1) := by decide +kernel
theorem dX8_party_25 : decode cX8_party 25 = .ok (.ifCond .ne 8, 3) := by decide +kernel
theorem dX8_party_28 : decode cX8_party 28 = .ok (.bipush 99, 2) := by decide +kernel
theorem dX8_party_30 : decode cX8_party 30 = .ok (.goto 6, 3) := by decide +kernel
theorem dX8_party_33 : decode cX8_party 33 = .ok (.sipush 255, 3) := by decide +kernel
theorem dX8_party_36 : decode cX8_party 36 = .ok (.invokestatic 55, 3) := by decide +kernel
theorem dX8_party_39 : decode cX8_party 39 = .ok (.ifCond .ne 6, 3) := by decide +kernel
theorem dX8_party_42 : decode cX8_party 42 = .ok (.ldc 59, 2) := by decide +kernel
theorem dX8_party_44 : decode cX8_party 44 = .ok (.ireturn, 1) := by decide +kernel
theorem dX8_party_45 : decode cX8_party 45 = .ok (.aload_n 0, 1) := by decide +kernel
theorem dX8_party_46 : decode cX8_party 46 = .ok (.getfield 10, 3) := by decide +kernel
theorem dX8_party_49 : decode cX8_party 49 = .ok (.getfield 250, 3) := by decide +kernel
theorem dX8_party_52 : decode cX8_party 52 = .ok (.iload_n 1, 1) := by decide +kernel
theorem dX8_party_53 : decode cX8_party 53 = .ok (.iload_n 2, 1) := by decide +kernel
theorem dX8_party_54 : decode cX8_party 54 = .ok (.iload_n 3, 1) := by decide +kernel
theorem dX8_party_55 : decode cX8_party 55 = .ok (.invokevirtual 89, 3) := by decide +kernel
theorem dX8_party_58 : decode cX8_party 58 = .ok (.ireturn, 1) := by decide +kernel
theorem dX8_carries_0 : decode cX8_carries 0 = .ok (.iload_n 1, 1) := by decide +kernel
theorem dX8_carries_1 : decode cX8_carries 1 = .ok (.iconst 1, 1) := by decide +kernel
theorem dX8_carries_2 : decode cX8_carries 2 = .ok (.sipush 999, 3) := by decide +kernel
theorem dX8_carries_5 : decode cX8_carries 5 = .ok (.invokestatic 55, 3) := by decide +kernel
theorem dX8_carries_8 : decode cX8_carries 8 = .ok (.ifCond .eq 17, 3) := by decide +kernel
theorem dX8_carries_11 : decode cX8_carries 11 = .ok (.aload_n 0, 1) := by decide +kernel
theorem dX8_carries_12 : decode cX8_carries 12 = .ok (.getfield 10, 3) := by decide +kernel
theorem dX8_carries_15 : decode cX8_carries 15 = .ok (.getfield 250, 3) := by decide +kernel
theorem dX8_carries_18 : decode cX8_carries 18 = .ok (.iload_n 1, 1) := by decide +kernel
theorem dX8_carries_19 : decode cX8_carries 19 = .ok (.invokestatic 253, 3) := by decide +kernel
theorem dX8_carries_22 : decode cX8_carries 22 = .ok (.goto 5, 3) := by decide +kernel
theorem dX8_carries_25 : decode cX8_carries 25 = .ok (.ldc 59, 2) := by decide +kernel
theorem dX8_carries_27 : decode cX8_carries 27 = .ok (.ireturn, 1) := by decide +kernel
theorem dX8_way_0 : decode cX8_way 0 = .ok (.iload_n 1, 1) := by decide +kernel
theorem dX8_way_1 : decode cX8_way 1 = .ok (.iconst 0, 1) := by decide +kernel
theorem dX8_way_2 : decode cX8_way 2 = .ok (.iconst 5, 1) := by decide +kernel
theorem dX8_way_3 : decode cX8_way 3 = .ok (.invokestatic 55, 3) := by decide +kernel
theorem dX8_way_6 : decode cX8_way 6 = .ok (.ifCond .eq 12, 3) := by decide +kernel
theorem dX8_way_9 : decode cX8_way 9 = .ok (.iload_n 2, 1) := by decide +kernel
theorem dX8_way_10 : decode cX8_way 10 = .ok (.iconst 0, 1) := by decide +kernel
theorem dX8_way_11 : decode cX8_way 11 = .ok (.iconst 2, 1) := by decide +kernel
theorem dX8_way_12 : decode cX8_way 12 = .ok (.invokestatic 55, 3) := by decide +kernel
theorem dX8_way_15 : decode cX8_way 15 = .ok (.ifCond .ne 6, 3) := by decide +kernel
theorem dX8_way_18 : decode cX8_way 18 = .ok (.ldc 59, 2) := by decide +kernel
theorem dX8_way_20 : decode cX8_way 20 = .ok (.ireturn, 1) := by decide +kernel
theorem dX8_way_21 : decode cX8_way 21 = .ok (.iload_n 3, 1) := by decide +kernel
theorem dX8_way_22 : decode cX8_way 22 = .ok (.iconst 0, 1) := by decide +kernel
theorem dX8_way_23 : decode cX8_way 23 = .ok (.iconst 1, 1) := by decide +kernel
theorem dX8_way_24 : decode cX8_way 24 = .ok (.invokestatic 55, 3) := by decide +kernel
theorem dX8_way_27 : decode cX8_way 27 = .ok (.ifCond .eq 14, 3) := by decide +kernel
theorem dX8_way_30 : decode cX8_way 30 = .ok (.iload 4, 2) := by decide +kernel
theorem dX8_way_32 : decode cX8_way 32 = .ok (.iconst 0, 1) := by decide +kernel
theorem dX8_way_33 : decode cX8_way 33 = .ok (.bipush 99, 2) := by decide +kernel
theorem dX8_way_35 : decode cX8_way 35 = .ok (.invokestatic 55, 3) := by decide +kernel
theorem dX8_way_38 : decode cX8_way 38 = .ok (.ifCond .ne 6, 3) := by decide +kernel
theorem dX8_way_41 : decode cX8_way 41 = .ok (.ldc 59, 2) := by decide +kernel
theorem dX8_way_43 : decode cX8_way 43 = .ok (.ireturn, 1) := by decide +kernel
theorem dX8_way_44 : decode cX8_way 44 = .ok (.aload_n 0, 1) := by decide +kernel
theorem dX8_way_45 : decode cX8_way 45 = .ok (.getfield 10, 3) := by decide +kernel
theorem dX8_way_48 : decode cX8_way 48 = .ok (.getfield 256, 3) := by decide +kernel
theorem dX8_way_51 : decode cX8_way 51 = .ok (.iload_n 1, 1) := by decide +kernel
theorem dX8_way_52 : decode cX8_way 52 = .ok (.iload_n 2, 1) := by decide +kernel
theorem dX8_way_53 : decode cX8_way 53 = .ok (.iconst 2, 1) := by decide +kernel
theorem dX8_way_54 : decode cX8_way 54 = .ok (.imul, 1) := by decide +kernel
theorem dX8_way_55 : decode cX8_way 55 = .ok (.iload_n 3, 1) := by decide +kernel
theorem dX8_way_56 : decode cX8_way 56 = .ok (.iadd, 1) := by decide +kernel
theorem dX8_way_57 : decode cX8_way 57 = .ok (.iload 4, 2) := by decide +kernel
theorem dX8_way_59 : decode cX8_way 59 = .ok (.invokevirtual 89, 3) := by decide +kernel
theorem dX8_way_62 : decode cX8_way 62 = .ok (.ireturn, 1) := by decide +kernel
theorem dX8_plan_0 : decode cX8_plan 0 = .ok (.iload_n 1, 1) := by decide +kernel
theorem dX8_plan_1 : decode cX8_plan 1 = .ok (.iconst 1, 1) := by decide +kernel
theorem dX8_plan_2 : decode cX8_plan 2 = .ok (.bipush 6, 2) := by decide +kernel
theorem dX8_plan_4 : decode cX8_plan 4 = .ok (.invokestatic 55, 3) := by decide +kernel
theorem dX8_plan_7 : decode cX8_plan 7 = .ok (.ifCond .eq 23, 3) := by decide +kernel
theorem dX8_plan_10 : decode cX8_plan 10 = .ok (.iload_n 2, 1) := by decide +kernel
theorem dX8_plan_11 : decode cX8_plan 11 = .ok (.iconst 0, 1) := by decide +kernel
theorem dX8_plan_12 : decode cX8_plan 12 = .ok (.sipush 999, 3) := by decide +kernel
theorem dX8_plan_15 : decode cX8_plan 15 = .ok (.invokestatic 55, 3) := by decide +kernel
theorem dX8_plan_18 : decode cX8_plan 18 = .ok (.ifCond .eq 12, 3) := by decide +kernel
theorem dX8_plan_21 : decode cX8_plan 21 = .ok (.iload_n 3, 1) := by decide +kernel
theorem dX8_plan_22 : decode cX8_plan 22 = .ok (.iconst 0, 1) := by decide +kernel
theorem dX8_plan_23 : decode cX8_plan 23 = .ok (.iconst 2, 1) := by decide +kernel
theorem dX8_plan_24 : decode cX8_plan 24 = .ok (.invokestatic 55, 3) := by decide +kernel
theorem dX8_plan_27 : decode cX8_plan 27 = .ok (.ifCond .ne 6, 3) := by decide +kernel
theorem dX8_plan_30 : decode cX8_plan 30 = .ok (.ldc 59, 2) := by decide +kernel
theorem dX8_plan_32 : decode cX8_plan 32 = .ok (.ireturn, 1) := by decide +kernel
theorem dX8_plan_33 : decode cX8_plan 33 = .ok (.aload_n 0, 1) := by decide +kernel
theorem dX8_plan_34 : decode cX8_plan 34 = .ok (.getfield 10, 3) := by decide +kernel
theorem dX8_plan_37 : decode cX8_plan 37 = .ok (.getfield 256, 3) := by decide +kernel
theorem dX8_plan_40 : decode cX8_plan 40 = .ok (.iload_n 1, 1) := by decide +kernel
theorem dX8_plan_41 : decode cX8_plan 41 = .ok (.iload_n 2, 1) := by decide +kernel
theorem dX8_plan_42 : decode cX8_plan 42 = .ok (.invokestatic 259, 3) := by decide +kernel
theorem dX8_plan_45 : decode cX8_plan 45 = .ok (.istore 4, 2) := by decide +kernel
theorem dX8_plan_47 : decode cX8_plan 47 = .ok (.iload 4, 2) := by decide +kernel
theorem dX8_plan_49 : decode cX8_plan 49 = .ok (.ldc 109, 2) := by decide +kernel
theorem dX8_plan_51 : decode cX8_plan 51 = .ok (.if_icmp .eq 8, 3) := by decide +kernel
theorem dX8_plan_54 : decode cX8_plan 54 = .ok (.iload_n 3, 1) := by decide +kernel
theorem dX8_plan_55 : decode cX8_plan 55 = .ok (.iconst 2, 1) := by decide +kernel
theorem dX8_plan_56 : decode cX8_plan 56 = .ok (.if_icmp .ne 6, 3) := by decide +kernel
theorem dX8_plan_59 : decode cX8_plan 59 = .ok (.iload 4, 2) := by decide +kernel
theorem dX8_plan_61 : decode cX8_plan 61 = .ok (.ireturn, 1) := by decide +kernel
theorem dX8_plan_62 : decode cX8_plan 62 = .ok (.aload_n 0, 1) := by decide +kernel
theorem dX8_plan_63 : decode cX8_plan 63 = .ok (.getfield 10, 3) := by decide +kernel
theorem dX8_plan_66 : decode cX8_plan 66 = .ok (.getfield 256, 3) := by decide +kernel
theorem dX8_plan_69 : decode cX8_plan 69 = .ok (.iload_n 1, 1) := by decide +kernel
theorem dX8_plan_70 : decode cX8_plan 70 = .ok (.iload 4, 2) := by decide +kernel
theorem dX8_plan_72 : decode cX8_plan 72 = .ok (.iload_n 3, 1) := by decide +kernel
theorem dX8_plan_73 : decode cX8_plan 73 = .ok (.invokestatic 262, 3) := by decide +kernel
theorem dX8_plan_76 : decode cX8_plan 76 = .ok (.ireturn, 1) := by decide +kernel
theorem dX8_muster_0 : decode cX8_muster 0 = .ok (.aload_n 0, 1) := by decide +kernel
theorem dX8_muster_1 : decode cX8_muster 1 = .ok (.getfield 39, 3) := by decide +kernel
theorem dX8_muster_4 : decode cX8_muster 4 = .ok (.iload_n 1, 1) := by decide +kernel
theorem dX8_muster_5 : decode cX8_muster 5 = .ok (.invokevirtual 266, 3) := by decide +kernel
theorem dX8_muster_8 : decode cX8_muster 8 = .ok (.ifCond .eq 12, 3) := by decide +kernel
theorem dX8_muster_11 : decode cX8_muster 11 = .ok (.iload_n 2, 1) := by decide +kernel
theorem dX8_muster_12 : decode cX8_muster 12 = .ok (.iconst (-1), 1) := by decide +kernel
theorem dX8_muster_13 : decode cX8_muster 13 = .ok (.iconst 1, 1) := by decide +kernel
theorem dX8_muster_14 : decode cX8_muster 14 = .ok (.invokestatic 55, 3) := by decide +kernel
theorem dX8_muster_17 : decode cX8_muster 17 = .ok (.ifCond .ne 6, 3) := by decide +kernel
theorem dX8_muster_20 : decode cX8_muster 20 = .ok (.ldc 59, 2) := by decide +kernel
theorem dX8_muster_22 : decode cX8_muster 22 = .ok (.ireturn, 1) := by decide +kernel
theorem dX8_muster_23 : decode cX8_muster 23 = .ok (.iload_n 2, 1) := by decide +kernel
theorem dX8_muster_24 : decode cX8_muster 24 = .ok (.iconst (-1), 1) := by decide +kernel
theorem dX8_muster_25 : decode cX8_muster 25 = .ok (.if_icmp .ne 14, 3) := by decide +kernel
theorem dX8_muster_28 : decode cX8_muster 28 = .ok (.aload_n 0, 1) := by decide +kernel
theorem dX8_muster_29 : decode cX8_muster 29 = .ok (.getfield 39, 3) := by decide +kernel
theorem dX8_muster_32 : decode cX8_muster 32 = .ok (.iload_n 1, 1) := by decide +kernel
theorem dX8_muster_33 : decode cX8_muster 33 = .ok (.iconst (-1), 1) := by decide +kernel
theorem dX8_muster_34 : decode cX8_muster 34 = .ok (.iconst 0, 1) := by decide +kernel
theorem dX8_muster_35 : decode cX8_muster 35 = .ok (.invokevirtual 269, 3) := by decide +kernel
theorem dX8_muster_38 : decode cX8_muster 38 = .ok (.ireturn, 1) := by decide +kernel
theorem dX8_muster_39 : decode cX8_muster 39 = .ok (.iload_n 3, 1) := by decide +kernel
theorem dX8_muster_40 : decode cX8_muster 40 = .ok (.bipush 24, 2) := by decide +kernel
theorem dX8_muster_42 : decode cX8_muster 42 = .ok (.if_icmp .le 6, 3) := by decide +kernel
theorem dX8_muster_45 : decode cX8_muster 45 = .ok (.ldc 59, 2) := by decide +kernel
theorem dX8_muster_47 : decode cX8_muster 47 = .ok (.ireturn, 1) := by decide +kernel
theorem dX8_muster_48 : decode cX8_muster 48 = .ok (.iload_n 3, 1) := by decide +kernel
theorem dX8_muster_49 : decode cX8_muster 49 = .ok (.ifCond .ge 9, 3) := by decide +kernel
theorem dX8_muster_52 : decode cX8_muster 52 = .ok (.ldc_w 272, 3) := by decide +kernel
theorem dX8_muster_55 : decode cX8_muster 55 = .ok (.goto 13, 3) := by decide +kernel
theorem dX8_muster_58 : decode cX8_muster 58 = .ok (.aload_n 0, 1) := by decide +kernel
theorem dX8_muster_59 : decode cX8_muster 59 = .ok (.getfield 39, 3) := by decide +kernel
theorem dX8_muster_62 : decode cX8_muster 62 = .ok (.iload_n 1, 1) := by decide +kernel
theorem dX8_muster_63 : decode cX8_muster 63 = .ok (.iload_n 2, 1) := by decide +kernel
theorem dX8_muster_64 : decode cX8_muster 64 = .ok (.iload_n 3, 1) := by decide +kernel
theorem dX8_muster_65 : decode cX8_muster 65 = .ok (.invokevirtual 269, 3) := by decide +kernel
theorem dX8_muster_68 : decode cX8_muster 68 = .ok (.ireturn, 1) := by decide +kernel
theorem dX8_put_0 : decode cX8_put 0 = .ok (.aload_n 0, 1) := by decide +kernel
theorem dX8_put_1 : decode cX8_put 1 = .ok (.getfield 39, 3) := by decide +kernel
theorem dX8_put_4 : decode cX8_put 4 = .ok (.iload_n 1, 1) := by decide +kernel
theorem dX8_put_5 : decode cX8_put 5 = .ok (.iload_n 2, 1) := by decide +kernel
theorem dX8_put_6 : decode cX8_put 6 = .ok (.invokevirtual 273, 3) := by decide +kernel
theorem dX8_put_9 : decode cX8_put 9 = .ok (.istore 4, 2) := by decide +kernel
theorem dX8_put_11 : decode cX8_put 11 = .ok (.iload 4, 2) := by decide +kernel
theorem dX8_put_13 : decode cX8_put 13 = .ok (.ifCond .eq 6, 3) := by decide +kernel
theorem dX8_put_16 : decode cX8_put 16 = .ok (.iload 4, 2) := by decide +kernel
theorem dX8_put_18 : decode cX8_put 18 = .ok (.ireturn, 1) := by decide +kernel
theorem dX8_put_19 : decode cX8_put 19 = .ok (.aload_n 0, 1) := by decide +kernel
theorem dX8_put_20 : decode cX8_put 20 = .ok (.getfield 39, 3) := by decide +kernel
theorem dX8_put_23 : decode cX8_put 23 = .ok (.iload_n 1, 1) := by decide +kernel
theorem dX8_put_24 : decode cX8_put 24 = .ok (.iload_n 2, 1) := by decide +kernel
theorem dX8_put_25 : decode cX8_put 25 = .ok (.iload_n 3, 1) := by decide +kernel
theorem dX8_put_26 : decode cX8_put 26 = .ok (.invokevirtual 276, 3) := by decide +kernel
theorem dX8_put_29 : decode cX8_put 29 = .ok (.iconst 1, 1) := by decide +kernel
theorem dX8_put_30 : decode cX8_put 30 = .ok (.ireturn, 1) := by decide +kernel
theorem dX8_read_0 : decode cX8_read 0 = .ok (.aload_n 0, 1) := by decide +kernel
theorem dX8_read_1 : decode cX8_read 1 = .ok (.getfield 39, 3) := by decide +kernel
theorem dX8_read_4 : decode cX8_read 4 = .ok (.iload_n 1, 1) := by decide +kernel
theorem dX8_read_5 : decode cX8_read 5 = .ok (.iload_n 2, 1) := by decide +kernel
theorem dX8_read_6 : decode cX8_read 6 = .ok (.invokevirtual 273, 3) := by decide +kernel
theorem dX8_read_9 : decode cX8_read 9 = .ok (.istore_n 3, 1) := by decide +kernel
theorem dX8_read_10 : decode cX8_read 10 = .ok (.iload_n 3, 1) := by decide +kernel
theorem dX8_read_11 : decode cX8_read 11 = .ok (.ifCond .eq 7, 3) := by decide +kernel
theorem dX8_read_14 : decode cX8_read 14 = .ok (.iload_n 3, 1) := by decide +kernel
theorem dX8_read_15 : decode cX8_read 15 = .ok (.goto 12, 3) := by decide +kernel
theorem dX8_read_18 : decode cX8_read 18 = .ok (.aload_n 0, 1) := by decide +kernel
theorem dX8_read_19 : decode cX8_read 19 = .ok (.getfield 39, 3) := by decide +kernel
theorem dX8_read_22 : decode cX8_read 22 = .ok (.iload_n 1, 1) := by decide +kernel
theorem dX8_read_23 : decode cX8_read 23 = .ok (.iload_n 2, 1) := by decide +kernel
theorem dX8_read_24 : decode cX8_read 24 = .ok (.invokevirtual 279, 3) := by decide +kernel
theorem dX8_read_27 : decode cX8_read 27 = .ok (.ireturn, 1) := by decide +kernel
theorem dX8_copy_0 : decode cX8_copy 0 = .ok (.aload_n 0, 1) := by decide +kernel
theorem dX8_copy_1 : decode cX8_copy 1 = .ok (.getfield 39, 3) := by decide +kernel
theorem dX8_copy_4 : decode cX8_copy 4 = .ok (.iload_n 1, 1) := by decide +kernel
theorem dX8_copy_5 : decode cX8_copy 5 = .ok (.invokevirtual 266, 3) := by decide +kernel
theorem dX8_copy_8 : decode cX8_copy 8 = .ok (.ifCond .eq 14, 3) := by decide +kernel
theorem dX8_copy_11 : decode cX8_copy 11 = .ok (.aload_n 0, 1) := by decide +kernel
theorem dX8_copy_12 : decode cX8_copy 12 = .ok (.getfield 39, 3) := by decide +kernel
theorem dX8_copy_15 : decode cX8_copy 15 = .ok (.iload_n 3, 1) := by decide +kernel
theorem dX8_copy_16 : decode cX8_copy 16 = .ok (.invokevirtual 266, 3) := by decide +kernel
theorem dX8_copy_19 : decode cX8_copy 19 = .ok (.ifCond .ne 6, 3) := by decide +kernel
theorem dX8_copy_22 : decode cX8_copy 22 = .ok (.ldc 59, 2) := by decide +kernel
theorem dX8_copy_24 : decode cX8_copy 24 = .ok (.ireturn, 1) := by decide +kernel
theorem dX8_copy_25 : decode cX8_copy 25 = .ok (.aload_n 0, 1) := by decide +kernel
theorem dX8_copy_26 : decode cX8_copy 26 = .ok (.getfield 39, 3) := by decide +kernel
theorem dX8_copy_29 : decode cX8_copy 29 = .ok (.iload_n 1, 1) := by decide +kernel
theorem dX8_copy_30 : decode cX8_copy 30 = .ok (.invokevirtual 282, 3) := by decide +kernel
theorem dX8_copy_33 : decode cX8_copy 33 = .ok (.ifCond .ne 14, 3) := by decide +kernel
theorem dX8_copy_36 : decode cX8_copy 36 = .ok (.aload_n 0, 1) := by decide +kernel
theorem dX8_copy_37 : decode cX8_copy 37 = .ok (.getfield 39, 3) := by decide +kernel
theorem dX8_copy_40 : decode cX8_copy 40 = .ok (.iload_n 3, 1) := by decide +kernel
theorem dX8_copy_41 : decode cX8_copy 41 = .ok (.invokevirtual 282, 3) := by decide +kernel
theorem dX8_copy_44 : decode cX8_copy 44 = .ok (.ifCond .eq 7, 3) := by decide +kernel
theorem dX8_copy_47 : decode cX8_copy 47 = .ok (.ldc_w 285, 3) := by decide +kernel
theorem dX8_copy_50 : decode cX8_copy 50 = .ok (.ireturn, 1) := by decide +kernel
theorem dX8_copy_51 : decode cX8_copy 51 = .ok (.aload_n 0, 1) := by decide +kernel
theorem dX8_copy_52 : decode cX8_copy 52 = .ok (.getfield 39, 3) := by decide +kernel
theorem dX8_copy_55 : decode cX8_copy 55 = .ok (.iload_n 1, 1) := by decide +kernel
theorem dX8_copy_56 : decode cX8_copy 56 = .ok (.iload_n 3, 1) := by decide +kernel
theorem dX8_copy_57 : decode cX8_copy 57 = .ok (.invokevirtual 286, 3) := by decide +kernel
theorem dX8_copy_60 : decode cX8_copy 60 = .ok (.ifCond .ne 6, 3) := by decide +kernel
theorem dX8_copy_63 : decode cX8_copy 63 = .ok (.ldc 101, 2) := by decide +kernel
theorem dX8_copy_65 : decode cX8_copy 65 = .ok (.ireturn, 1) := by decide +kernel
theorem dX8_copy_66 : decode cX8_copy 66 = .ok (.aload_n 0, 1) := by decide +kernel
theorem dX8_copy_67 : decode cX8_copy 67 = .ok (.getfield 39, 3) := by decide +kernel
theorem dX8_copy_70 : decode cX8_copy 70 = .ok (.iload_n 1, 1) := by decide +kernel
theorem dX8_copy_71 : decode cX8_copy 71 = .ok (.iload_n 2, 1) := by decide +kernel
theorem dX8_copy_72 : decode cX8_copy 72 = .ok (.iload 5, 2) := by decide +kernel
theorem dX8_copy_74 : decode cX8_copy 74 = .ok (.invokevirtual 289, 3) := by decide +kernel
theorem dX8_copy_77 : decode cX8_copy 77 = .ok (.ifCond .eq 18, 3) := by decide +kernel
theorem dX8_copy_80 : decode cX8_copy 80 = .ok (.aload_n 0, 1) := by decide +kernel
theorem dX8_copy_81 : decode cX8_copy 81 = .ok (.getfield 39, 3) := by decide +kernel
theorem dX8_copy_84 : decode cX8_copy 84 = .ok (.iload_n 3, 1) := by decide +kernel
theorem dX8_copy_85 : decode cX8_copy 85 = .ok (.iload 4, 2) := by decide +kernel
theorem dX8_copy_87 : decode cX8_copy 87 = .ok (.iload 5, 2) := by decide +kernel
theorem dX8_copy_89 : decode cX8_copy 89 = .ok (.invokevirtual 289, 3) := by decide +kernel
theorem dX8_copy_92 : decode cX8_copy 92 = .ok (.ifCond .ne 7, 3) := by decide +kernel
theorem dX8_copy_95 : decode cX8_copy 95 = .ok (.ldc_w 292, 3) := by decide +kernel
theorem dX8_copy_98 : decode cX8_copy 98 = .ok (.ireturn, 1) := by decide +kernel
theorem dX8_copy_99 : decode cX8_copy 99 = .ok (.aload_n 0, 1) := by decide +kernel
theorem dX8_copy_100 : decode cX8_copy 100 = .ok (.getfield 39, 3) := by decide +kernel
theorem dX8_copy_103 : decode cX8_copy 103 = .ok (.iload_n 1, 1) := by decide +kernel
theorem dX8_copy_104 : decode cX8_copy 104 = .ok (.iload_n 2, 1) := by decide +kernel
theorem dX8_copy_105 : decode cX8_copy 105 = .ok (.iload_n 3, 1) := by decide +kernel
theorem dX8_copy_106 : decode cX8_copy 106 = .ok (.iload 4, 2) := by decide +kernel
theorem dX8_copy_108 : decode cX8_copy 108 = .ok (.iload 5, 2) := by decide +kernel
theorem dX8_copy_110 : decode cX8_copy 110 = .ok (.invokevirtual 293, 3) := by decide +kernel
theorem dX8_copy_113 : decode cX8_copy 113 = .ok (.iload 5, 2) := by decide +kernel
theorem dX8_copy_115 : decode cX8_copy 115 = .ok (.ireturn, 1) := by decide +kernel
theorem dX8_tell_0 : decode cX8_tell 0 = .ok (.aload_n 0, 1) := by decide +kernel
theorem dX8_tell_1 : decode cX8_tell 1 = .ok (.getfield 297, 3) := by decide +kernel
theorem dX8_tell_4 : decode cX8_tell 4 = .ok (.ifCond .lt 15, 3) := by decide +kernel
theorem dX8_tell_7 : decode cX8_tell 7 = .ok (.aload_n 0, 1) := by decide +kernel
theorem dX8_tell_8 : decode cX8_tell 8 = .ok (.getfield 297, 3) := by decide +kernel
theorem dX8_tell_11 : decode cX8_tell 11 = .ok (.aload_n 0, 1) := by decide +kernel
theorem dX8_tell_12 : decode cX8_tell 12 = .ok (.getfield 43, 3) := by decide +kernel
theorem dX8_tell_15 : decode cX8_tell 15 = .ok (.arraylength, 1) := by decide +kernel
theorem dX8_tell_16 : decode cX8_tell 16 = .ok (.if_icmp .lt 6, 3) := by decide +kernel
theorem dX8_tell_19 : decode cX8_tell 19 = .ok (.ldc 80, 2) := by decide +kernel
theorem dX8_tell_21 : decode cX8_tell 21 = .ok (.ireturn, 1) := by decide +kernel
theorem dX8_tell_22 : decode cX8_tell 22 = .ok (.aload_n 0, 1) := by decide +kernel
theorem dX8_tell_23 : decode cX8_tell 23 = .ok (.getfield 43, 3) := by decide +kernel
theorem dX8_tell_26 : decode cX8_tell 26 = .ok (.aload_n 0, 1) := by decide +kernel
theorem dX8_tell_27 : decode cX8_tell 27 = .ok (.getfield 297, 3) := by decide +kernel
theorem dX8_tell_30 : decode cX8_tell 30 = .ok (.iload_n 1, 1) := by decide +kernel
theorem dX8_tell_31 : decode cX8_tell 31 = .ok (.iastore, 1) := by decide +kernel
theorem dX8_tell_32 : decode cX8_tell 32 = .ok (.aload_n 0, 1) := by decide +kernel
theorem dX8_tell_33 : decode cX8_tell 33 = .ok (.dup, 1) := by decide +kernel
theorem dX8_tell_34 : decode cX8_tell 34 = .ok (.getfield 297, 3) := by decide +kernel
theorem dX8_tell_37 : decode cX8_tell 37 = .ok (.iconst 1, 1) := by decide +kernel
theorem dX8_tell_38 : decode cX8_tell 38 = .ok (.iadd, 1) := by decide +kernel
theorem dX8_tell_39 : decode cX8_tell 39 = .ok (.putfield 297, 3) := by decide +kernel
theorem dX8_tell_42 : decode cX8_tell 42 = .ok (.aload_n 0, 1) := by decide +kernel
theorem dX8_tell_43 : decode cX8_tell 43 = .ok (.getfield 297, 3) := by decide +kernel
theorem dX8_tell_46 : decode cX8_tell 46 = .ok (.ireturn, 1) := by decide +kernel
theorem dX8_check_0 : decode cX8_check 0 = .ok (.aload_n 0, 1) := by decide +kernel
theorem dX8_check_1 : decode cX8_check 1 = .ok (.getfield 297, 3) := by decide +kernel
theorem dX8_check_4 : decode cX8_check 4 = .ok (.istore_n 2, 1) := by decide +kernel
theorem dX8_check_5 : decode cX8_check 5 = .ok (.aload_n 0, 1) := by decide +kernel
theorem dX8_check_6 : decode cX8_check 6 = .ok (.iconst 0, 1) := by decide +kernel
theorem dX8_check_7 : decode cX8_check 7 = .ok (.putfield 297, 3) := by decide +kernel
theorem dX8_check_10 : decode cX8_check 10 = .ok (.iload_n 1, 1) := by decide +kernel
theorem dX8_check_11 : decode cX8_check 11 = .ok (.iconst 1, 1) := by decide +kernel
theorem dX8_check_12 : decode cX8_check 12 = .ok (.bipush 30, 2) := by decide +kernel
theorem dX8_check_14 : decode cX8_check 14 = .ok (.invokestatic 55, 3) := by decide +kernel
theorem dX8_check_17 : decode cX8_check 17 = .ok (.ifCond .ne 6, 3) := by decide +kernel
theorem dX8_check_20 : decode cX8_check 20 = .ok (.ldc 59, 2) := by decide +kernel
theorem dX8_check_22 : decode cX8_check 22 = .ok (.ireturn, 1) := by decide +kernel
theorem dX8_check_23 : decode cX8_check 23 = .ok (.aload_n 0, 1) := by decide +kernel
theorem dX8_check_24 : decode cX8_check 24 = .ok (.getfield 300, 3) := by decide +kernel
theorem dX8_check_27 : decode cX8_check 27 = .ok (.ifCond .ne 6, 3) := by decide +kernel
theorem dX8_check_30 : decode cX8_check 30 = .ok (.ldc 88, 2) := by decide +kernel
theorem dX8_check_32 : decode cX8_check 32 = .ok (.ireturn, 1) := by decide +kernel
theorem dX8_check_33 : decode cX8_check 33 = .ok (.aload_n 0, 1) := by decide +kernel
theorem dX8_check_34 : decode cX8_check 34 = .ok (.getfield 19, 3) := by decide +kernel
theorem dX8_check_37 : decode cX8_check 37 = .ok (.aload_n 0, 1) := by decide +kernel
theorem dX8_check_38 : decode cX8_check 38 = .ok (.getfield 16, 3) := by decide +kernel
theorem dX8_check_41 : decode cX8_check 41 = .ok (.invokevirtual 304, 3) := by decide +kernel
theorem dX8_check_44 : decode cX8_check 44 = .ok (.iconst 0, 1) := by decide +kernel
theorem dX8_check_45 : decode cX8_check 45 = .ok (.istore_n 3, 1) := by decide +kernel
theorem dX8_check_46 : decode cX8_check 46 = .ok (.iload_n 3, 1) := by decide +kernel
theorem dX8_check_47 : decode cX8_check 47 = .ok (.iload_n 1, 1) := by decide +kernel
theorem dX8_check_48 : decode cX8_check 48 = .ok (.if_icmp .ge 66, 3) := by decide +kernel
theorem dX8_check_51 : decode cX8_check 51 = .ok (.aload_n 0, 1) := by decide +kernel
theorem dX8_check_52 : decode cX8_check 52 = .ok (.getfield 19, 3) := by decide +kernel
theorem dX8_check_55 : decode cX8_check 55 = .ok (.invokevirtual 197, 3) := by decide +kernel
theorem dX8_check_58 : decode cX8_check 58 = .ok (.aload_n 0, 1) := by decide +kernel
theorem dX8_check_59 : decode cX8_check 59 = .ok (.iconst 2, 1) := by decide +kernel
theorem dX8_check_60 : decode cX8_check 60 = .ok (.iload_n 3, 1) := by decide +kernel
theorem dX8_check_61 : decode cX8_check 61 = .ok (.imul, 1) := by decide +kernel
theorem dX8_check_62 : decode cX8_check 62 = .ok (.iload_n 2, 1) := by decide +kernel
theorem dX8_check_63 : decode cX8_check 63 = .ok (.aload_n 0, 1) := by decide +kernel
theorem dX8_check_64 : decode cX8_check 64 = .ok (.getfield 19, 3) := by decide +kernel
theorem dX8_check_67 : decode cX8_check 67 = .ok (.invokevirtual 307, 3) := by decide +kernel
theorem dX8_check_70 : decode cX8_check 70 = .ok (.invokevirtual 310, 3) := by decide +kernel
theorem dX8_check_73 : decode cX8_check 73 = .ok (.ifCond .ne 9, 3) := by decide +kernel
theorem dX8_check_76 : decode cX8_check 76 = .ok (.iconst 1, 1) := by decide +kernel
theorem dX8_check_77 : decode cX8_check 77 = .ok (.iconst 2, 1) := by decide +kernel
theorem dX8_check_78 : decode cX8_check 78 = .ok (.iload_n 3, 1) := by decide +kernel
theorem dX8_check_79 : decode cX8_check 79 = .ok (.imul, 1) := by decide +kernel
theorem dX8_check_80 : decode cX8_check 80 = .ok (.iadd, 1) := by decide +kernel
theorem dX8_check_81 : decode cX8_check 81 = .ok (.ireturn, 1) := by decide +kernel
theorem dX8_check_82 : decode cX8_check 82 = .ok (.aload_n 0, 1) := by decide +kernel
theorem dX8_check_83 : decode cX8_check 83 = .ok (.iconst 2, 1) := by decide +kernel
theorem dX8_check_84 : decode cX8_check 84 = .ok (.iload_n 3, 1) := by decide +kernel
theorem dX8_check_85 : decode cX8_check 85 = .ok (.imul, 1) := by decide +kernel
theorem dX8_check_86 : decode cX8_check 86 = .ok (.iconst 1, 1) := by decide +kernel
theorem dX8_check_87 : decode cX8_check 87 = .ok (.iadd, 1) := by decide +kernel
theorem dX8_check_88 : decode cX8_check 88 = .ok (.iload_n 2, 1) := by decide +kernel
theorem dX8_check_89 : decode cX8_check 89 = .ok (.aload_n 0, 1) := by decide +kernel
theorem dX8_check_90 : decode cX8_check 90 = .ok (.getfield 19, 3) := by decide +kernel
theorem dX8_check_93 : decode cX8_check 93 = .ok (.invokevirtual 313, 3) := by decide +kernel
theorem dX8_check_96 : decode cX8_check 96 = .ok (.invokevirtual 310, 3) := by decide +kernel
theorem dX8_check_99 : decode cX8_check 99 = .ok (.ifCond .ne 9, 3) := by decide +kernel
theorem dX8_check_102 : decode cX8_check 102 = .ok (.iconst 2, 1) := by decide +kernel
theorem dX8_check_103 : decode cX8_check 103 = .ok (.iconst 2, 1) := by decide +kernel
theorem dX8_check_104 : decode cX8_check 104 = .ok (.iload_n 3, 1) := by decide +kernel
theorem dX8_check_105 : decode cX8_check 105 = .ok (.imul, 1) := by decide +kernel
theorem dX8_check_106 : decode cX8_check 106 = .ok (.iadd, 1) := by decide +kernel
theorem dX8_check_107 : decode cX8_check 107 = .ok (.ireturn, 1) := by decide +kernel
theorem dX8_check_108 : decode cX8_check 108 = .ok (.iinc 3 1, 3) := by decide +kernel
theorem dX8_check_111 : decode cX8_check 111 = .ok (.goto (-65), 3) := by decide +kernel
theorem dX8_check_114 : decode cX8_check 114 = .ok (.iload_n 2, 1) := by decide +kernel
theorem dX8_check_115 : decode cX8_check 115 = .ok (.iconst 2, 1) := by decide +kernel
theorem dX8_check_116 : decode cX8_check 116 = .ok (.iload_n 1, 1) := by decide +kernel
theorem dX8_check_117 : decode cX8_check 117 = .ok (.imul, 1) := by decide +kernel
theorem dX8_check_118 : decode cX8_check 118 = .ok (.if_icmp .ne 7, 3) := by decide +kernel
theorem dX8_check_121 : decode cX8_check 121 = .ok (.iconst 0, 1) := by decide +kernel
theorem dX8_check_122 : decode cX8_check 122 = .ok (.goto 8, 3) := by decide +kernel
theorem dX8_check_125 : decode cX8_check 125 = .ok (.iconst 1, 1) := by decide +kernel
theorem dX8_check_126 : decode cX8_check 126 = .ok (.iconst 2, 1) := by decide +kernel
theorem dX8_check_127 : decode cX8_check 127 = .ok (.iload_n 1, 1) := by decide +kernel
theorem dX8_check_128 : decode cX8_check 128 = .ok (.imul, 1) := by decide +kernel
theorem dX8_check_129 : decode cX8_check 129 = .ok (.iadd, 1) := by decide +kernel
theorem dX8_check_130 : decode cX8_check 130 = .ok (.ireturn, 1) := by decide +kernel
theorem dX8_keep_0 : decode cX8_keep 0 = .ok (.aload_n 0, 1) := by decide +kernel
theorem dX8_keep_1 : decode cX8_keep 1 = .ok (.getfield 16, 3) := by decide +kernel
theorem dX8_keep_4 : decode cX8_keep 4 = .ok (.aload_n 0, 1) := by decide +kernel
theorem dX8_keep_5 : decode cX8_keep 5 = .ok (.getfield 10, 3) := by decide +kernel
theorem dX8_keep_8 : decode cX8_keep 8 = .ok (.invokevirtual 304, 3) := by decide +kernel
theorem dX8_keep_11 : decode cX8_keep 11 = .ok (.aload_n 0, 1) := by decide +kernel
theorem dX8_keep_12 : decode cX8_keep 12 = .ok (.iconst 1, 1) := by decide +kernel
theorem dX8_keep_13 : decode cX8_keep 13 = .ok (.putfield 300, 3) := by decide +kernel
theorem dX8_keep_16 : decode cX8_keep 16 = .ok (.aload_n 0, 1) := by decide +kernel
theorem dX8_keep_17 : decode cX8_keep 17 = .ok (.getfield 10, 3) := by decide +kernel
theorem dX8_keep_20 : decode cX8_keep 20 = .ok (.getfield 51, 3) := by decide +kernel
theorem dX8_keep_23 : decode cX8_keep 23 = .ok (.ireturn, 1) := by decide +kernel
theorem dX8_again_0 : decode cX8_again 0 = .ok (.aload_n 0, 1) := by decide +kernel
theorem dX8_again_1 : decode cX8_again 1 = .ok (.getfield 300, 3) := by decide +kernel
theorem dX8_again_4 : decode cX8_again 4 = .ok (.ifCond .ne 6, 3) := by decide +kernel
theorem dX8_again_7 : decode cX8_again 7 = .ok (.ldc 88, 2) := by decide +kernel
theorem dX8_again_9 : decode cX8_again 9 = .ok (.ireturn, 1) := by decide +kernel
theorem dX8_again_10 : decode cX8_again 10 = .ok (.aload_n 0, 1) := by decide +kernel
theorem dX8_again_11 : decode cX8_again 11 = .ok (.getfield 10, 3) := by decide +kernel
theorem dX8_again_14 : decode cX8_again 14 = .ok (.aload_n 0, 1) := by decide +kernel
theorem dX8_again_15 : decode cX8_again 15 = .ok (.getfield 16, 3) := by decide +kernel
theorem dX8_again_18 : decode cX8_again 18 = .ok (.invokevirtual 304, 3) := by decide +kernel
theorem dX8_again_21 : decode cX8_again 21 = .ok (.aload_n 0, 1) := by decide +kernel
theorem dX8_again_22 : decode cX8_again 22 = .ok (.getfield 10, 3) := by decide +kernel
theorem dX8_again_25 : decode cX8_again 25 = .ok (.getfield 51, 3) := by decide +kernel
theorem dX8_again_28 : decode cX8_again 28 = .ok (.ireturn, 1) := by decide +kernel
theorem dX8_count_0 : decode cX8_count 0 = .ok (.iload_n 1, 1) := by decide +kernel
theorem dX8_count_1 : decode cX8_count 1 = .ok (.iconst 4, 1) := by decide +kernel
theorem dX8_count_2 : decode cX8_count 2 = .ok (.bipush 11, 2) := by decide +kernel
theorem dX8_count_4 : decode cX8_count 4 = .ok (.invokestatic 55, 3) := by decide +kernel
theorem dX8_count_7 : decode cX8_count 7 = .ok (.ifCond .eq 14, 3) := by decide +kernel
theorem dX8_count_10 : decode cX8_count 10 = .ok (.aload_n 0, 1) := by decide +kernel
theorem dX8_count_11 : decode cX8_count 11 = .ok (.getfield 10, 3) := by decide +kernel
theorem dX8_count_14 : decode cX8_count 14 = .ok (.iload_n 1, 1) := by decide +kernel
theorem dX8_count_15 : decode cX8_count 15 = .ok (.iconst 4, 1) := by decide +kernel
theorem dX8_count_16 : decode cX8_count 16 = .ok (.isub, 1) := by decide +kernel
theorem dX8_count_17 : decode cX8_count 17 = .ok (.invokevirtual 316, 3) := by decide +kernel
theorem dX8_count_20 : decode cX8_count 20 = .ok (.ireturn, 1) := by decide +kernel
theorem dX8_count_21 : decode cX8_count 21 = .ok (.iload_n 1, 1) := by decide +kernel
theorem dX8_count_22 : decode cX8_count 22 = .ok (.tableswitch 247 0 22 #[106, 117, 128, 136, 247, 247, 247, 247, 247, 247, 247, 247, 144, 155, 166, 177, 188, 199, 210, 218, 223, 231, 239], 106) := by decide +kernel
theorem dX8_count_128 : decode cX8_count 128 = .ok (.aload_n 0, 1) := by decide +kernel
theorem dX8_count_129 : decode cX8_count 129 = .ok (.getfield 10, 3) := by decide +kernel
theorem dX8_count_132 : decode cX8_count 132 = .ok (.getfield 60, 3) := by decide +kernel
theorem dX8_count_135 : decode cX8_count 135 = .ok (.getfield 319, 3) := by decide +kernel
theorem dX8_count_138 : decode cX8_count 138 = .ok (.ireturn, 1) := by decide +kernel
theorem dX8_count_139 : decode cX8_count 139 = .ok (.aload_n 0, 1) := by decide +kernel
theorem dX8_count_140 : decode cX8_count 140 = .ok (.getfield 10, 3) := by decide +kernel
theorem dX8_count_143 : decode cX8_count 143 = .ok (.getfield 77, 3) := by decide +kernel
theorem dX8_count_146 : decode cX8_count 146 = .ok (.getfield 319, 3) := by decide +kernel
theorem dX8_count_149 : decode cX8_count 149 = .ok (.ireturn, 1) := by decide +kernel
theorem dX8_count_150 : decode cX8_count 150 = .ok (.aload_n 0, 1) := by decide +kernel
theorem dX8_count_151 : decode cX8_count 151 = .ok (.getfield 10, 3) := by decide +kernel
theorem dX8_count_154 : decode cX8_count 154 = .ok (.invokevirtual 322, 3) := by decide +kernel
theorem dX8_count_157 : decode cX8_count 157 = .ok (.ireturn, 1) := by decide +kernel
theorem dX8_count_158 : decode cX8_count 158 = .ok (.aload_n 0, 1) := by decide +kernel
theorem dX8_count_159 : decode cX8_count 159 = .ok (.getfield 10, 3) := by decide +kernel
theorem dX8_count_162 : decode cX8_count 162 = .ok (.invokevirtual 325, 3) := by decide +kernel
theorem dX8_count_165 : decode cX8_count 165 = .ok (.ireturn, 1) := by decide +kernel
theorem dX8_count_166 : decode cX8_count 166 = .ok (.aload_n 0, 1) := by decide +kernel
theorem dX8_count_167 : decode cX8_count 167 = .ok (.getfield 10, 3) := by decide +kernel
theorem dX8_count_170 : decode cX8_count 170 = .ok (.getfield 110, 3) := by decide +kernel
theorem dX8_count_173 : decode cX8_count 173 = .ok (.getfield 319, 3) := by decide +kernel
theorem dX8_count_176 : decode cX8_count 176 = .ok (.ireturn, 1) := by decide +kernel
theorem dX8_count_177 : decode cX8_count 177 = .ok (.aload_n 0, 1) := by decide +kernel
theorem dX8_count_178 : decode cX8_count 178 = .ok (.getfield 10, 3) := by decide +kernel
theorem dX8_count_181 : decode cX8_count 181 = .ok (.getfield 161, 3) := by decide +kernel
theorem dX8_count_184 : decode cX8_count 184 = .ok (.getfield 319, 3) := by decide +kernel
theorem dX8_count_187 : decode cX8_count 187 = .ok (.ireturn, 1) := by decide +kernel
theorem dX8_count_188 : decode cX8_count 188 = .ok (.aload_n 0, 1) := by decide +kernel
theorem dX8_count_189 : decode cX8_count 189 = .ok (.getfield 10, 3) := by decide +kernel
theorem dX8_count_192 : decode cX8_count 192 = .ok (.getfield 129, 3) := by decide +kernel
theorem dX8_count_195 : decode cX8_count 195 = .ok (.getfield 328, 3) := by decide +kernel
theorem dX8_count_198 : decode cX8_count 198 = .ok (.ireturn, 1) := by decide +kernel
theorem dX8_count_199 : decode cX8_count 199 = .ok (.aload_n 0, 1) := by decide +kernel
theorem dX8_count_200 : decode cX8_count 200 = .ok (.getfield 10, 3) := by decide +kernel
theorem dX8_count_203 : decode cX8_count 203 = .ok (.getfield 209, 3) := by decide +kernel
theorem dX8_count_206 : decode cX8_count 206 = .ok (.getfield 319, 3) := by decide +kernel
theorem dX8_count_209 : decode cX8_count 209 = .ok (.ireturn, 1) := by decide +kernel
theorem dX8_count_210 : decode cX8_count 210 = .ok (.aload_n 0, 1) := by decide +kernel
theorem dX8_count_211 : decode cX8_count 211 = .ok (.getfield 10, 3) := by decide +kernel
theorem dX8_count_214 : decode cX8_count 214 = .ok (.getfield 236, 3) := by decide +kernel
theorem dX8_count_217 : decode cX8_count 217 = .ok (.getfield 319, 3) := by decide +kernel
theorem dX8_count_220 : decode cX8_count 220 = .ok (.ireturn, 1) := by decide +kernel
theorem dX8_count_221 : decode cX8_count 221 = .ok (.aload_n 0, 1) := by decide +kernel
theorem dX8_count_222 : decode cX8_count 222 = .ok (.getfield 10, 3) := by decide +kernel
theorem dX8_count_225 : decode cX8_count 225 = .ok (.getfield 247, 3) := by decide +kernel
theorem dX8_count_228 : decode cX8_count 228 = .ok (.getfield 319, 3) := by decide +kernel
theorem dX8_count_231 : decode cX8_count 231 = .ok (.ireturn, 1) := by decide +kernel
theorem dX8_count_232 : decode cX8_count 232 = .ok (.aload_n 0, 1) := by decide +kernel
theorem dX8_count_233 : decode cX8_count 233 = .ok (.getfield 10, 3) := by decide +kernel
theorem dX8_count_236 : decode cX8_count 236 = .ok (.getfield 331, 3) := by decide +kernel
theorem dX8_count_239 : decode cX8_count 239 = .ok (.ireturn, 1) := by decide +kernel
theorem dX8_count_240 : decode cX8_count 240 = .ok (.aload_n 0, 1) := by decide +kernel
theorem dX8_count_241 : decode cX8_count 241 = .ok (.getfield 297, 3) := by decide +kernel
theorem dX8_count_244 : decode cX8_count 244 = .ok (.ireturn, 1) := by decide +kernel
theorem dX8_count_245 : decode cX8_count 245 = .ok (.aload_n 0, 1) := by decide +kernel
theorem dX8_count_246 : decode cX8_count 246 = .ok (.getfield 25, 3) := by decide +kernel
theorem dX8_count_249 : decode cX8_count 249 = .ok (.getfield 122, 3) := by decide +kernel
theorem dX8_count_252 : decode cX8_count 252 = .ok (.ireturn, 1) := by decide +kernel
theorem dX8_count_253 : decode cX8_count 253 = .ok (.aload_n 0, 1) := by decide +kernel
theorem dX8_count_254 : decode cX8_count 254 = .ok (.getfield 10, 3) := by decide +kernel
theorem dX8_count_257 : decode cX8_count 257 = .ok (.getfield 51, 3) := by decide +kernel
theorem dX8_count_260 : decode cX8_count 260 = .ok (.ireturn, 1) := by decide +kernel
theorem dX8_count_261 : decode cX8_count 261 = .ok (.aload_n 0, 1) := by decide +kernel
theorem dX8_count_262 : decode cX8_count 262 = .ok (.getfield 10, 3) := by decide +kernel
theorem dX8_count_265 : decode cX8_count 265 = .ok (.getfield 194, 3) := by decide +kernel
theorem dX8_count_268 : decode cX8_count 268 = .ok (.ireturn, 1) := by decide +kernel
theorem dX8_count_269 : decode cX8_count 269 = .ok (.ldc 59, 2) := by decide +kernel
theorem dX8_count_271 : decode cX8_count 271 = .ok (.ireturn, 1) := by decide +kernel
theorem dX8_waited_0 : decode cX8_waited 0 = .ok (.iload_n 1, 1) := by decide +kernel
theorem dX8_waited_1 : decode cX8_waited 1 = .ok (.ifCond .lt 31, 3) := by decide +kernel
theorem dX8_waited_4 : decode cX8_waited 4 = .ok (.iload_n 1, 1) := by decide +kernel
theorem dX8_waited_5 : decode cX8_waited 5 = .ok (.iload_n 2, 1) := by decide +kernel
theorem dX8_waited_6 : decode cX8_waited 6 = .ok (.if_icmp .ge 26, 3) := by decide +kernel
theorem dX8_waited_9 : decode cX8_waited 9 = .ok (.iload_n 1, 1) := by decide +kernel
theorem dX8_waited_10 : decode cX8_waited 10 = .ok (.aload_n 0, 1) := by decide +kernel
theorem dX8_waited_11 : decode cX8_waited 11 = .ok (.getfield 43, 3) := by decide +kernel
theorem dX8_waited_14 : decode cX8_waited 14 = .ok (.arraylength, 1) := by decide +kernel
theorem dX8_waited_15 : decode cX8_waited 15 = .ok (.if_icmp .ge 17, 3) := by decide +kernel
theorem dX8_waited_18 : decode cX8_waited 18 = .ok (.aload_n 0, 1) := by decide +kernel
theorem dX8_waited_19 : decode cX8_waited 19 = .ok (.getfield 43, 3) := by decide +kernel
theorem dX8_waited_22 : decode cX8_waited 22 = .ok (.iload_n 1, 1) := by decide +kernel
theorem dX8_waited_23 : decode cX8_waited 23 = .ok (.iaload, 1) := by decide +kernel
theorem dX8_waited_24 : decode cX8_waited 24 = .ok (.iload_n 3, 1) := by decide +kernel
theorem dX8_waited_25 : decode cX8_waited 25 = .ok (.if_icmp .ne 7, 3) := by decide +kernel
theorem dX8_waited_28 : decode cX8_waited 28 = .ok (.iconst 1, 1) := by decide +kernel
theorem dX8_waited_29 : decode cX8_waited 29 = .ok (.goto 4, 3) := by decide +kernel
theorem dX8_waited_32 : decode cX8_waited 32 = .ok (.iconst 0, 1) := by decide +kernel
theorem dX8_waited_33 : decode cX8_waited 33 = .ok (.ireturn, 1) := by decide +kernel
theorem dX8_within_0 : decode cX8_within 0 = .ok (.iload_n 0, 1) := by decide +kernel
theorem dX8_within_1 : decode cX8_within 1 = .ok (.iload_n 1, 1) := by decide +kernel
theorem dX8_within_2 : decode cX8_within 2 = .ok (.if_icmp .lt 12, 3) := by decide +kernel
theorem dX8_within_5 : decode cX8_within 5 = .ok (.iload_n 0, 1) := by decide +kernel
theorem dX8_within_6 : decode cX8_within 6 = .ok (.iload_n 2, 1) := by decide +kernel
theorem dX8_within_7 : decode cX8_within 7 = .ok (.if_icmp .gt 7, 3) := by decide +kernel
theorem dX8_within_10 : decode cX8_within 10 = .ok (.iconst 1, 1) := by decide +kernel
theorem dX8_within_11 : decode cX8_within 11 = .ok (.goto 4, 3) := by decide +kernel
theorem dX8_within_14 : decode cX8_within 14 = .ok (.iconst 0, 1) := by decide +kernel
theorem dX8_within_15 : decode cX8_within 15 = .ok (.ireturn, 1) := by decide +kernel
theorem dX8_isPlace_0 : decode cX8_isPlace 0 = .ok (.iload_n 0, 1) := by decide +kernel
theorem dX8_isPlace_1 : decode cX8_isPlace 1 = .ok (.iconst 0, 1) := by decide +kernel
theorem dX8_isPlace_2 : decode cX8_isPlace 2 = .ok (.iconst 5, 1) := by decide +kernel
theorem dX8_isPlace_3 : decode cX8_isPlace 3 = .ok (.invokestatic 55, 3) := by decide +kernel
theorem dX8_isPlace_6 : decode cX8_isPlace 6 = .ok (.ireturn, 1) := by decide +kernel
theorem dX8_isUnder_0 : decode cX8_isUnder 0 = .ok (.iload_n 0, 1) := by decide +kernel
theorem dX8_isUnder_1 : decode cX8_isUnder 1 = .ok (.istore_n 2, 1) := by decide +kernel
theorem dX8_isUnder_2 : decode cX8_isUnder 2 = .ok (.iconst 0, 1) := by decide +kernel
theorem dX8_isUnder_3 : decode cX8_isUnder 3 = .ok (.istore_n 3, 1) := by decide +kernel
theorem dX8_isUnder_4 : decode cX8_isUnder 4 = .ok (.iload_n 3, 1) := by decide +kernel
theorem dX8_isUnder_5 : decode cX8_isUnder 5 = .ok (.getstatic 334, 3) := by decide +kernel
theorem dX8_isUnder_8 : decode cX8_isUnder 8 = .ok (.arraylength, 1) := by decide +kernel
theorem dX8_isUnder_9 : decode cX8_isUnder 9 = .ok (.if_icmp .ge 36, 3) := by decide +kernel
theorem dX8_isUnder_12 : decode cX8_isUnder 12 = .ok (.iload_n 2, 1) := by decide +kernel
theorem dX8_isUnder_13 : decode cX8_isUnder 13 = .ok (.iload_n 1, 1) := by decide +kernel
theorem dX8_isUnder_14 : decode cX8_isUnder 14 = .ok (.if_icmp .ne 5, 3) := by decide +kernel
theorem dX8_isUnder_17 : decode cX8_isUnder 17 = .ok (.iconst 1, 1) := by decide +kernel
theorem dX8_isUnder_18 : decode cX8_isUnder 18 = .ok (.ireturn, 1) := by decide +kernel
theorem dX8_isUnder_19 : decode cX8_isUnder 19 = .ok (.iload_n 2, 1) := by decide +kernel
theorem dX8_isUnder_20 : decode cX8_isUnder 20 = .ok (.ifCond .lt 11, 3) := by decide +kernel
theorem dX8_isUnder_23 : decode cX8_isUnder 23 = .ok (.iload_n 2, 1) := by decide +kernel
theorem dX8_isUnder_24 : decode cX8_isUnder 24 = .ok (.getstatic 334, 3) := by decide +kernel
theorem dX8_isUnder_27 : decode cX8_isUnder 27 = .ok (.arraylength, 1) := by decide +kernel
theorem dX8_isUnder_28 : decode cX8_isUnder 28 = .ok (.if_icmp .lt 5, 3) := by decide +kernel
theorem dX8_isUnder_31 : decode cX8_isUnder 31 = .ok (.iconst 0, 1) := by decide +kernel
theorem dX8_isUnder_32 : decode cX8_isUnder 32 = .ok (.ireturn, 1) := by decide +kernel
theorem dX8_isUnder_33 : decode cX8_isUnder 33 = .ok (.getstatic 334, 3) := by decide +kernel
theorem dX8_isUnder_36 : decode cX8_isUnder 36 = .ok (.iload_n 2, 1) := by decide +kernel
theorem dX8_isUnder_37 : decode cX8_isUnder 37 = .ok (.iaload, 1) := by decide +kernel
theorem dX8_isUnder_38 : decode cX8_isUnder 38 = .ok (.istore_n 2, 1) := by decide +kernel
theorem dX8_isUnder_39 : decode cX8_isUnder 39 = .ok (.iinc 3 1, 3) := by decide +kernel
theorem dX8_isUnder_42 : decode cX8_isUnder 42 = .ok (.goto (-38), 3) := by decide +kernel
theorem dX8_isUnder_45 : decode cX8_isUnder 45 = .ok (.iconst 0, 1) := by decide +kernel
theorem dX8_isUnder_46 : decode cX8_isUnder 46 = .ok (.ireturn, 1) := by decide +kernel
