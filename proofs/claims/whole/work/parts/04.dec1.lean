theorem dX0_init_0 : decode cX0_init 0 = .ok (.aload_n 0, 1) := by decide +kernel
theorem dX0_init_1 : decode cX0_init 1 = .ok (.invokespecial 3, 3) := by decide +kernel
theorem dX0_init_4 : decode cX0_init 4 = .ok (.aload_n 0, 1) := by decide +kernel
theorem dX0_init_5 : decode cX0_init 5 = .ok (.bipush 14, 2) := by decide +kernel
theorem dX0_init_7 : decode cX0_init 7 = .ok (.newarray .int, 2) := by decide +kernel
theorem dX0_init_9 : decode cX0_init 9 = .ok (.putfield 9, 3) := by decide +kernel
theorem dX0_init_12 : decode cX0_init 12 = .ok (.aload_n 0, 1) := by decide +kernel
theorem dX0_init_13 : decode cX0_init 13 = .ok (.bipush 6, 2) := by decide +kernel
theorem dX0_init_15 : decode cX0_init 15 = .ok (.newarray .int, 2) := by decide +kernel
theorem dX0_init_17 : decode cX0_init 17 = .ok (.putfield 15, 3) := by decide +kernel
theorem dX0_init_20 : decode cX0_init 20 = .ok (.return_, 1) := by decide +kernel
theorem dX0_ask_0 : decode cX0_ask 0 = .ok (.aload_n 0, 1) := by decide +kernel
theorem dX0_ask_1 : decode cX0_ask 1 = .ok (.aload_n 1, 1) := by decide +kernel
theorem dX0_ask_2 : decode cX0_ask 2 = .ok (.getfield 18, 3) := by decide +kernel
theorem dX0_ask_5 : decode cX0_ask 5 = .ok (.getfield 24, 3) := by decide +kernel
theorem dX0_ask_8 : decode cX0_ask 8 = .ok (.aload_n 0, 1) := by decide +kernel
theorem dX0_ask_9 : decode cX0_ask 9 = .ok (.getfield 9, 3) := by decide +kernel
theorem dX0_ask_12 : decode cX0_ask 12 = .ok (.arraylength, 1) := by decide +kernel
theorem dX0_ask_13 : decode cX0_ask 13 = .ok (.invokestatic 30, 3) := by decide +kernel
theorem dX0_ask_16 : decode cX0_ask 16 = .ok (.putfield 36, 3) := by decide +kernel
theorem dX0_ask_19 : decode cX0_ask 19 = .ok (.aload_n 0, 1) := by decide +kernel
theorem dX0_ask_20 : decode cX0_ask 20 = .ok (.aload_n 1, 1) := by decide +kernel
theorem dX0_ask_21 : decode cX0_ask 21 = .ok (.getfield 38, 3) := by decide +kernel
theorem dX0_ask_24 : decode cX0_ask 24 = .ok (.getfield 24, 3) := by decide +kernel
theorem dX0_ask_27 : decode cX0_ask 27 = .ok (.aload_n 0, 1) := by decide +kernel
theorem dX0_ask_28 : decode cX0_ask 28 = .ok (.getfield 15, 3) := by decide +kernel
theorem dX0_ask_31 : decode cX0_ask 31 = .ok (.arraylength, 1) := by decide +kernel
theorem dX0_ask_32 : decode cX0_ask 32 = .ok (.invokestatic 30, 3) := by decide +kernel
theorem dX0_ask_35 : decode cX0_ask 35 = .ok (.putfield 41, 3) := by decide +kernel
theorem dX0_ask_38 : decode cX0_ask 38 = .ok (.iconst 0, 1) := by decide +kernel
theorem dX0_ask_39 : decode cX0_ask 39 = .ok (.istore_n 2, 1) := by decide +kernel
theorem dX0_ask_40 : decode cX0_ask 40 = .ok (.iload_n 2, 1) := by decide +kernel
theorem dX0_ask_41 : decode cX0_ask 41 = .ok (.aload_n 0, 1) := by decide +kernel
theorem dX0_ask_42 : decode cX0_ask 42 = .ok (.getfield 41, 3) := by decide +kernel
theorem dX0_ask_45 : decode cX0_ask 45 = .ok (.if_icmp .ge 24, 3) := by decide +kernel
theorem dX0_ask_48 : decode cX0_ask 48 = .ok (.aload_n 0, 1) := by decide +kernel
theorem dX0_ask_49 : decode cX0_ask 49 = .ok (.getfield 15, 3) := by decide +kernel
theorem dX0_ask_52 : decode cX0_ask 52 = .ok (.iload_n 2, 1) := by decide +kernel
theorem dX0_ask_53 : decode cX0_ask 53 = .ok (.iconst 0, 1) := by decide +kernel
theorem dX0_ask_54 : decode cX0_ask 54 = .ok (.aload_n 1, 1) := by decide +kernel
theorem dX0_ask_55 : decode cX0_ask 55 = .ok (.iload_n 2, 1) := by decide +kernel
theorem dX0_ask_56 : decode cX0_ask 56 = .ok (.invokevirtual 43, 3) := by decide +kernel
theorem dX0_ask_59 : decode cX0_ask 59 = .ok (.invokestatic 47, 3) := by decide +kernel
theorem dX0_ask_62 : decode cX0_ask 62 = .ok (.iastore, 1) := by decide +kernel
theorem dX0_ask_63 : decode cX0_ask 63 = .ok (.iinc 2 1, 3) := by decide +kernel
theorem dX0_ask_66 : decode cX0_ask 66 = .ok (.goto (-26), 3) := by decide +kernel
theorem dX0_ask_69 : decode cX0_ask 69 = .ok (.iconst 0, 1) := by decide +kernel
theorem dX0_ask_70 : decode cX0_ask 70 = .ok (.istore_n 2, 1) := by decide +kernel
theorem dX0_ask_71 : decode cX0_ask 71 = .ok (.iload_n 2, 1) := by decide +kernel
theorem dX0_ask_72 : decode cX0_ask 72 = .ok (.aload_n 0, 1) := by decide +kernel
theorem dX0_ask_73 : decode cX0_ask 73 = .ok (.getfield 36, 3) := by decide +kernel
theorem dX0_ask_76 : decode cX0_ask 76 = .ok (.if_icmp .ge 21, 3) := by decide +kernel
theorem dX0_ask_79 : decode cX0_ask 79 = .ok (.aload_n 0, 1) := by decide +kernel
theorem dX0_ask_80 : decode cX0_ask 80 = .ok (.getfield 9, 3) := by decide +kernel
theorem dX0_ask_83 : decode cX0_ask 83 = .ok (.iload_n 2, 1) := by decide +kernel
theorem dX0_ask_84 : decode cX0_ask 84 = .ok (.aload_n 0, 1) := by decide +kernel
theorem dX0_ask_85 : decode cX0_ask 85 = .ok (.aload_n 1, 1) := by decide +kernel
theorem dX0_ask_86 : decode cX0_ask 86 = .ok (.iload_n 2, 1) := by decide +kernel
theorem dX0_ask_87 : decode cX0_ask 87 = .ok (.invokevirtual 50, 3) := by decide +kernel
theorem dX0_ask_90 : decode cX0_ask 90 = .ok (.iastore, 1) := by decide +kernel
theorem dX0_ask_91 : decode cX0_ask 91 = .ok (.iinc 2 1, 3) := by decide +kernel
theorem dX0_ask_94 : decode cX0_ask 94 = .ok (.goto (-23), 3) := by decide +kernel
theorem dX0_ask_97 : decode cX0_ask 97 = .ok (.return_, 1) := by decide +kernel
theorem dX0_openFor_0 : decode cX0_openFor 0 = .ok (.aload_n 1, 1) := by decide +kernel
theorem dX0_openFor_1 : decode cX0_openFor 1 = .ok (.getfield 18, 3) := by decide +kernel
theorem dX0_openFor_4 : decode cX0_openFor 4 = .ok (.iload_n 2, 1) := by decide +kernel
theorem dX0_openFor_5 : decode cX0_openFor 5 = .ok (.iconst 5, 1) := by decide +kernel
theorem dX0_openFor_6 : decode cX0_openFor 6 = .ok (.invokevirtual 54, 3) := by decide +kernel
theorem dX0_openFor_9 : decode cX0_openFor 9 = .ok (.iconst 1, 1) := by decide +kernel
theorem dX0_openFor_10 : decode cX0_openFor 10 = .ok (.if_icmp .eq 5, 3) := by decide +kernel
theorem dX0_openFor_13 : decode cX0_openFor 13 = .ok (.iconst 0, 1) := by decide +kernel
theorem dX0_openFor_14 : decode cX0_openFor 14 = .ok (.ireturn, 1) := by decide +kernel
theorem dX0_openFor_15 : decode cX0_openFor 15 = .ok (.iconst 0, 1) := by decide +kernel
theorem dX0_openFor_16 : decode cX0_openFor 16 = .ok (.istore_n 3, 1) := by decide +kernel
theorem dX0_openFor_17 : decode cX0_openFor 17 = .ok (.iconst 0, 1) := by decide +kernel
theorem dX0_openFor_18 : decode cX0_openFor 18 = .ok (.istore 4, 2) := by decide +kernel
theorem dX0_openFor_20 : decode cX0_openFor 20 = .ok (.iload 4, 2) := by decide +kernel
theorem dX0_openFor_22 : decode cX0_openFor 22 = .ok (.aload_n 0, 1) := by decide +kernel
theorem dX0_openFor_23 : decode cX0_openFor 23 = .ok (.getfield 41, 3) := by decide +kernel
theorem dX0_openFor_26 : decode cX0_openFor 26 = .ok (.if_icmp .ge 26, 3) := by decide +kernel
theorem dX0_openFor_29 : decode cX0_openFor 29 = .ok (.aload_n 1, 1) := by decide +kernel
theorem dX0_openFor_30 : decode cX0_openFor 30 = .ok (.iload_n 2, 1) := by decide +kernel
theorem dX0_openFor_31 : decode cX0_openFor 31 = .ok (.iload 4, 2) := by decide +kernel
theorem dX0_openFor_33 : decode cX0_openFor 33 = .ok (.invokevirtual 57, 3) := by decide +kernel
theorem dX0_openFor_36 : decode cX0_openFor 36 = .ok (.ifCond .eq 10, 3) := by decide +kernel
theorem dX0_openFor_39 : decode cX0_openFor 39 = .ok (.iload_n 3, 1) := by decide +kernel
theorem dX0_openFor_40 : decode cX0_openFor 40 = .ok (.iconst 1, 1) := by decide +kernel
theorem dX0_openFor_41 : decode cX0_openFor 41 = .ok (.iload 4, 2) := by decide +kernel
theorem dX0_openFor_43 : decode cX0_openFor 43 = .ok (.ishl, 1) := by decide +kernel
theorem dX0_openFor_44 : decode cX0_openFor 44 = .ok (.ior, 1) := by decide +kernel
theorem dX0_openFor_45 : decode cX0_openFor 45 = .ok (.istore_n 3, 1) := by decide +kernel
theorem dX0_openFor_46 : decode cX0_openFor 46 = .ok (.iinc 4 1, 3) := by decide +kernel
theorem dX0_openFor_49 : decode cX0_openFor 49 = .ok (.goto (-29), 3) := by decide +kernel
theorem dX0_openFor_52 : decode cX0_openFor 52 = .ok (.iload_n 3, 1) := by decide +kernel
theorem dX0_openFor_53 : decode cX0_openFor 53 = .ok (.ireturn, 1) := by decide +kernel
theorem dX0_greatest_0 : decode cX0_greatest 0 = .ok (.aload_n 0, 1) := by decide +kernel
theorem dX0_greatest_1 : decode cX0_greatest 1 = .ok (.getfield 36, 3) := by decide +kernel
theorem dX0_greatest_4 : decode cX0_greatest 4 = .ok (.istore_n 2, 1) := by decide +kernel
theorem dX0_greatest_5 : decode cX0_greatest 5 = .ok (.iconst 0, 1) := by decide +kernel
theorem dX0_greatest_6 : decode cX0_greatest 6 = .ok (.istore_n 3, 1) := by decide +kernel
theorem dX0_greatest_7 : decode cX0_greatest 7 = .ok (.iload_n 3, 1) := by decide +kernel
theorem dX0_greatest_8 : decode cX0_greatest 8 = .ok (.iconst 1, 1) := by decide +kernel
theorem dX0_greatest_9 : decode cX0_greatest 9 = .ok (.aload_n 0, 1) := by decide +kernel
theorem dX0_greatest_10 : decode cX0_greatest 10 = .ok (.getfield 41, 3) := by decide +kernel
theorem dX0_greatest_13 : decode cX0_greatest 13 = .ok (.ishl, 1) := by decide +kernel
theorem dX0_greatest_14 : decode cX0_greatest 14 = .ok (.if_icmp .ge 20, 3) := by decide +kernel
theorem dX0_greatest_17 : decode cX0_greatest 17 = .ok (.iload_n 2, 1) := by decide +kernel
theorem dX0_greatest_18 : decode cX0_greatest 18 = .ok (.aload_n 0, 1) := by decide +kernel
theorem dX0_greatest_19 : decode cX0_greatest 19 = .ok (.iload_n 3, 1) := by decide +kernel
theorem dX0_greatest_20 : decode cX0_greatest 20 = .ok (.iload_n 1, 1) := by decide +kernel
theorem dX0_greatest_21 : decode cX0_greatest 21 = .ok (.invokevirtual 61, 3) := by decide +kernel
theorem dX0_greatest_24 : decode cX0_greatest 24 = .ok (.invokestatic 30, 3) := by decide +kernel
theorem dX0_greatest_27 : decode cX0_greatest 27 = .ok (.istore_n 2, 1) := by decide +kernel
theorem dX0_greatest_28 : decode cX0_greatest 28 = .ok (.iinc 3 1, 3) := by decide +kernel
theorem dX0_greatest_31 : decode cX0_greatest 31 = .ok (.goto (-24), 3) := by decide +kernel
theorem dX0_greatest_34 : decode cX0_greatest 34 = .ok (.iload_n 2, 1) := by decide +kernel
theorem dX0_greatest_35 : decode cX0_greatest 35 = .ok (.ireturn, 1) := by decide +kernel
theorem dX0_passing_0 : decode cX0_passing 0 = .ok (.iconst 0, 1) := by decide +kernel
theorem dX0_passing_1 : decode cX0_passing 1 = .ok (.istore_n 3, 1) := by decide +kernel
theorem dX0_passing_2 : decode cX0_passing 2 = .ok (.iconst 0, 1) := by decide +kernel
theorem dX0_passing_3 : decode cX0_passing 3 = .ok (.istore 4, 2) := by decide +kernel
theorem dX0_passing_5 : decode cX0_passing 5 = .ok (.iload 4, 2) := by decide +kernel
theorem dX0_passing_7 : decode cX0_passing 7 = .ok (.aload_n 0, 1) := by decide +kernel
theorem dX0_passing_8 : decode cX0_passing 8 = .ok (.getfield 41, 3) := by decide +kernel
theorem dX0_passing_11 : decode cX0_passing 11 = .ok (.if_icmp .ge 39, 3) := by decide +kernel
theorem dX0_passing_14 : decode cX0_passing 14 = .ok (.iload 4, 2) := by decide +kernel
theorem dX0_passing_16 : decode cX0_passing 16 = .ok (.aload_n 0, 1) := by decide +kernel
theorem dX0_passing_17 : decode cX0_passing 17 = .ok (.getfield 15, 3) := by decide +kernel
theorem dX0_passing_20 : decode cX0_passing 20 = .ok (.arraylength, 1) := by decide +kernel
theorem dX0_passing_21 : decode cX0_passing 21 = .ok (.if_icmp .ge 29, 3) := by decide +kernel
theorem dX0_passing_24 : decode cX0_passing 24 = .ok (.iload_n 1, 1) := by decide +kernel
theorem dX0_passing_25 : decode cX0_passing 25 = .ok (.iload 4, 2) := by decide +kernel
theorem dX0_passing_27 : decode cX0_passing 27 = .ok (.ishr, 1) := by decide +kernel
theorem dX0_passing_28 : decode cX0_passing 28 = .ok (.iconst 1, 1) := by decide +kernel
theorem dX0_passing_29 : decode cX0_passing 29 = .ok (.iand, 1) := by decide +kernel
theorem dX0_passing_30 : decode cX0_passing 30 = .ok (.iconst 1, 1) := by decide +kernel
theorem dX0_passing_31 : decode cX0_passing 31 = .ok (.if_icmp .ne 13, 3) := by decide +kernel
theorem dX0_passing_34 : decode cX0_passing 34 = .ok (.iload_n 3, 1) := by decide +kernel
theorem dX0_passing_35 : decode cX0_passing 35 = .ok (.aload_n 0, 1) := by decide +kernel
theorem dX0_passing_36 : decode cX0_passing 36 = .ok (.getfield 15, 3) := by decide +kernel
theorem dX0_passing_39 : decode cX0_passing 39 = .ok (.iload 4, 2) := by decide +kernel
theorem dX0_passing_41 : decode cX0_passing 41 = .ok (.iaload, 1) := by decide +kernel
theorem dX0_passing_42 : decode cX0_passing 42 = .ok (.iadd, 1) := by decide +kernel
theorem dX0_passing_43 : decode cX0_passing 43 = .ok (.istore_n 3, 1) := by decide +kernel
theorem dX0_passing_44 : decode cX0_passing 44 = .ok (.iinc 4 1, 3) := by decide +kernel
theorem dX0_passing_47 : decode cX0_passing 47 = .ok (.goto (-42), 3) := by decide +kernel
theorem dX0_passing_50 : decode cX0_passing 50 = .ok (.iconst 0, 1) := by decide +kernel
theorem dX0_passing_51 : decode cX0_passing 51 = .ok (.iload_n 2, 1) := by decide +kernel
theorem dX0_passing_52 : decode cX0_passing 52 = .ok (.invokestatic 47, 3) := by decide +kernel
theorem dX0_passing_55 : decode cX0_passing 55 = .ok (.istore 4, 2) := by decide +kernel
theorem dX0_passing_57 : decode cX0_passing 57 = .ok (.iload 4, 2) := by decide +kernel
theorem dX0_passing_59 : decode cX0_passing 59 = .ok (.aload_n 0, 1) := by decide +kernel
theorem dX0_passing_60 : decode cX0_passing 60 = .ok (.getfield 36, 3) := by decide +kernel
theorem dX0_passing_63 : decode cX0_passing 63 = .ok (.if_icmp .ge 36, 3) := by decide +kernel
theorem dX0_passing_66 : decode cX0_passing 66 = .ok (.iload 4, 2) := by decide +kernel
theorem dX0_passing_68 : decode cX0_passing 68 = .ok (.aload_n 0, 1) := by decide +kernel
theorem dX0_passing_69 : decode cX0_passing 69 = .ok (.getfield 9, 3) := by decide +kernel
theorem dX0_passing_72 : decode cX0_passing 72 = .ok (.arraylength, 1) := by decide +kernel
theorem dX0_passing_73 : decode cX0_passing 73 = .ok (.if_icmp .ge 26, 3) := by decide +kernel
theorem dX0_passing_76 : decode cX0_passing 76 = .ok (.aload_n 0, 1) := by decide +kernel
theorem dX0_passing_77 : decode cX0_passing 77 = .ok (.getfield 9, 3) := by decide +kernel
theorem dX0_passing_80 : decode cX0_passing 80 = .ok (.iload 4, 2) := by decide +kernel
theorem dX0_passing_82 : decode cX0_passing 82 = .ok (.iaload, 1) := by decide +kernel
theorem dX0_passing_83 : decode cX0_passing 83 = .ok (.iload_n 1, 1) := by decide +kernel
theorem dX0_passing_84 : decode cX0_passing 84 = .ok (.iconst (-1), 1) := by decide +kernel
theorem dX0_passing_85 : decode cX0_passing 85 = .ok (.ixor, 1) := by decide +kernel
theorem dX0_passing_86 : decode cX0_passing 86 = .ok (.iand, 1) := by decide +kernel
theorem dX0_passing_87 : decode cX0_passing 87 = .ok (.ifCond .eq 6, 3) := by decide +kernel
theorem dX0_passing_90 : decode cX0_passing 90 = .ok (.iinc 3 1, 3) := by decide +kernel
theorem dX0_passing_93 : decode cX0_passing 93 = .ok (.iinc 4 1, 3) := by decide +kernel
theorem dX0_passing_96 : decode cX0_passing 96 = .ok (.goto (-39), 3) := by decide +kernel
theorem dX0_passing_99 : decode cX0_passing 99 = .ok (.iload_n 3, 1) := by decide +kernel
theorem dX0_passing_100 : decode cX0_passing 100 = .ok (.ireturn, 1) := by decide +kernel
theorem dX0_masterFor_0 : decode cX0_masterFor 0 = .ok (.aload_n 0, 1) := by decide +kernel
theorem dX0_masterFor_1 : decode cX0_masterFor 1 = .ok (.iconst 0, 1) := by decide +kernel
theorem dX0_masterFor_2 : decode cX0_masterFor 2 = .ok (.invokevirtual 64, 3) := by decide +kernel
theorem dX0_masterFor_5 : decode cX0_masterFor 5 = .ok (.istore_n 2, 1) := by decide +kernel
theorem dX0_masterFor_6 : decode cX0_masterFor 6 = .ok (.ldc 67, 2) := by decide +kernel
theorem dX0_masterFor_8 : decode cX0_masterFor 8 = .ok (.istore_n 3, 1) := by decide +kernel
theorem dX0_masterFor_9 : decode cX0_masterFor 9 = .ok (.iconst 0, 1) := by decide +kernel
theorem dX0_masterFor_10 : decode cX0_masterFor 10 = .ok (.istore 4, 2) := by decide +kernel
theorem dX0_masterFor_12 : decode cX0_masterFor 12 = .ok (.iload 4, 2) := by decide +kernel
theorem dX0_masterFor_14 : decode cX0_masterFor 14 = .ok (.iload_n 1, 1) := by decide +kernel
theorem dX0_masterFor_15 : decode cX0_masterFor 15 = .ok (.if_icmp .gt 35, 3) := by decide +kernel
theorem dX0_masterFor_18 : decode cX0_masterFor 18 = .ok (.iload 4, 2) := by decide +kernel
theorem dX0_masterFor_20 : decode cX0_masterFor 20 = .ok (.aload_n 0, 1) := by decide +kernel
theorem dX0_masterFor_21 : decode cX0_masterFor 21 = .ok (.getfield 36, 3) := by decide +kernel
theorem dX0_masterFor_24 : decode cX0_masterFor 24 = .ok (.if_icmp .ge 26, 3) := by decide +kernel
theorem dX0_masterFor_27 : decode cX0_masterFor 27 = .ok (.aload_n 0, 1) := by decide +kernel
theorem dX0_masterFor_28 : decode cX0_masterFor 28 = .ok (.iload 4, 2) := by decide +kernel
theorem dX0_masterFor_30 : decode cX0_masterFor 30 = .ok (.iload_n 2, 1) := by decide +kernel
theorem dX0_masterFor_31 : decode cX0_masterFor 31 = .ok (.invokevirtual 68, 3) := by decide +kernel
theorem dX0_masterFor_34 : decode cX0_masterFor 34 = .ok (.istore_n 3, 1) := by decide +kernel
theorem dX0_masterFor_35 : decode cX0_masterFor 35 = .ok (.iload_n 3, 1) := by decide +kernel
theorem dX0_masterFor_36 : decode cX0_masterFor 36 = .ok (.ldc 67, 2) := by decide +kernel
theorem dX0_masterFor_38 : decode cX0_masterFor 38 = .ok (.if_icmp .eq 6, 3) := by decide +kernel
theorem dX0_masterFor_41 : decode cX0_masterFor 41 = .ok (.iinc 2 (-1), 3) := by decide +kernel
theorem dX0_masterFor_44 : decode cX0_masterFor 44 = .ok (.iinc 4 1, 3) := by decide +kernel
theorem dX0_masterFor_47 : decode cX0_masterFor 47 = .ok (.goto (-35), 3) := by decide +kernel
theorem dX0_masterFor_50 : decode cX0_masterFor 50 = .ok (.iload_n 3, 1) := by decide +kernel
theorem dX0_masterFor_51 : decode cX0_masterFor 51 = .ok (.ireturn, 1) := by decide +kernel
theorem dX0_take_0 : decode cX0_take 0 = .ok (.iload_n 1, 1) := by decide +kernel
theorem dX0_take_1 : decode cX0_take 1 = .ok (.ifCond .lt 12, 3) := by decide +kernel
theorem dX0_take_4 : decode cX0_take 4 = .ok (.iload_n 1, 1) := by decide +kernel
theorem dX0_take_5 : decode cX0_take 5 = .ok (.aload_n 0, 1) := by decide +kernel
theorem dX0_take_6 : decode cX0_take 6 = .ok (.getfield 9, 3) := by decide +kernel
theorem dX0_take_9 : decode cX0_take 9 = .ok (.arraylength, 1) := by decide +kernel
theorem dX0_take_10 : decode cX0_take 10 = .ok (.if_icmp .lt 6, 3) := by decide +kernel
theorem dX0_take_13 : decode cX0_take 13 = .ok (.ldc 67, 2) := by decide +kernel
theorem dX0_take_15 : decode cX0_take 15 = .ok (.ireturn, 1) := by decide +kernel
theorem dX0_take_16 : decode cX0_take 16 = .ok (.iconst 0, 1) := by decide +kernel
theorem dX0_take_17 : decode cX0_take 17 = .ok (.istore_n 3, 1) := by decide +kernel
theorem dX0_take_18 : decode cX0_take 18 = .ok (.iload_n 3, 1) := by decide +kernel
theorem dX0_take_19 : decode cX0_take 19 = .ok (.aload_n 0, 1) := by decide +kernel
theorem dX0_take_20 : decode cX0_take 20 = .ok (.getfield 41, 3) := by decide +kernel
theorem dX0_take_23 : decode cX0_take 23 = .ok (.if_icmp .ge 76, 3) := by decide +kernel
theorem dX0_take_26 : decode cX0_take 26 = .ok (.iload_n 3, 1) := by decide +kernel
theorem dX0_take_27 : decode cX0_take 27 = .ok (.aload_n 0, 1) := by decide +kernel
theorem dX0_take_28 : decode cX0_take 28 = .ok (.getfield 15, 3) := by decide +kernel
theorem dX0_take_31 : decode cX0_take 31 = .ok (.arraylength, 1) := by decide +kernel
theorem dX0_take_32 : decode cX0_take 32 = .ok (.if_icmp .ge 67, 3) := by decide +kernel
theorem dX0_take_35 : decode cX0_take 35 = .ok (.aload_n 0, 1) := by decide +kernel
theorem dX0_take_36 : decode cX0_take 36 = .ok (.getfield 9, 3) := by decide +kernel
theorem dX0_take_39 : decode cX0_take 39 = .ok (.iload_n 1, 1) := by decide +kernel
theorem dX0_take_40 : decode cX0_take 40 = .ok (.iaload, 1) := by decide +kernel
theorem dX0_take_41 : decode cX0_take 41 = .ok (.iload_n 3, 1) := by decide +kernel
theorem dX0_take_42 : decode cX0_take 42 = .ok (.ishr, 1) := by decide +kernel
theorem dX0_take_43 : decode cX0_take 43 = .ok (.iconst 1, 1) := by decide +kernel
theorem dX0_take_44 : decode cX0_take 44 = .ok (.iand, 1) := by decide +kernel
theorem dX0_take_45 : decode cX0_take 45 = .ok (.iconst 1, 1) := by decide +kernel
theorem dX0_take_46 : decode cX0_take 46 = .ok (.if_icmp .ne 47, 3) := by decide +kernel
theorem dX0_take_49 : decode cX0_take 49 = .ok (.aload_n 0, 1) := by decide +kernel
theorem dX0_take_50 : decode cX0_take 50 = .ok (.getfield 15, 3) := by decide +kernel
theorem dX0_take_53 : decode cX0_take 53 = .ok (.iload_n 3, 1) := by decide +kernel
theorem dX0_take_54 : decode cX0_take 54 = .ok (.iaload, 1) := by decide +kernel
theorem dX0_take_55 : decode cX0_take 55 = .ok (.ifCond .le 38, 3) := by decide +kernel
theorem dX0_take_58 : decode cX0_take 58 = .ok (.aload_n 0, 1) := by decide +kernel
theorem dX0_take_59 : decode cX0_take 59 = .ok (.getfield 15, 3) := by decide +kernel
theorem dX0_take_62 : decode cX0_take 62 = .ok (.iload_n 3, 1) := by decide +kernel
theorem dX0_take_63 : decode cX0_take 63 = .ok (.dup2, 1) := by decide +kernel
theorem dX0_take_64 : decode cX0_take 64 = .ok (.iaload, 1) := by decide +kernel
theorem dX0_take_65 : decode cX0_take 65 = .ok (.iconst 1, 1) := by decide +kernel
theorem dX0_take_66 : decode cX0_take 66 = .ok (.isub, 1) := by decide +kernel
theorem dX0_take_67 : decode cX0_take 67 = .ok (.iastore, 1) := by decide +kernel
theorem dX0_take_68 : decode cX0_take 68 = .ok (.aload_n 0, 1) := by decide +kernel
theorem dX0_take_69 : decode cX0_take 69 = .ok (.iload_n 1, 1) := by decide +kernel
theorem dX0_take_70 : decode cX0_take 70 = .ok (.iconst 1, 1) := by decide +kernel
theorem dX0_take_71 : decode cX0_take 71 = .ok (.iadd, 1) := by decide +kernel
theorem dX0_take_72 : decode cX0_take 72 = .ok (.invokevirtual 64, 3) := by decide +kernel
theorem dX0_take_75 : decode cX0_take 75 = .ok (.iconst 1, 1) := by decide +kernel
theorem dX0_take_76 : decode cX0_take 76 = .ok (.iadd, 1) := by decide +kernel
theorem dX0_take_77 : decode cX0_take 77 = .ok (.iload_n 2, 1) := by decide +kernel
theorem dX0_take_78 : decode cX0_take 78 = .ok (.if_icmp .ne 5, 3) := by decide +kernel
theorem dX0_take_81 : decode cX0_take 81 = .ok (.iload_n 3, 1) := by decide +kernel
theorem dX0_take_82 : decode cX0_take 82 = .ok (.ireturn, 1) := by decide +kernel
theorem dX0_take_83 : decode cX0_take 83 = .ok (.aload_n 0, 1) := by decide +kernel
theorem dX0_take_84 : decode cX0_take 84 = .ok (.getfield 15, 3) := by decide +kernel
theorem dX0_take_87 : decode cX0_take 87 = .ok (.iload_n 3, 1) := by decide +kernel
theorem dX0_take_88 : decode cX0_take 88 = .ok (.dup2, 1) := by decide +kernel
theorem dX0_take_89 : decode cX0_take 89 = .ok (.iaload, 1) := by decide +kernel
theorem dX0_take_90 : decode cX0_take 90 = .ok (.iconst 1, 1) := by decide +kernel
theorem dX0_take_91 : decode cX0_take 91 = .ok (.iadd, 1) := by decide +kernel
theorem dX0_take_92 : decode cX0_take 92 = .ok (.iastore, 1) := by decide +kernel
theorem dX0_take_93 : decode cX0_take 93 = .ok (.iinc 3 1, 3) := by decide +kernel
theorem dX0_take_96 : decode cX0_take 96 = .ok (.goto (-78), 3) := by decide +kernel
theorem dX0_take_99 : decode cX0_take 99 = .ok (.ldc 67, 2) := by decide +kernel
theorem dX0_take_101 : decode cX0_take 101 = .ok (.ireturn, 1) := by decide +kernel
theorem dX1_init_0 : decode cX1_init 0 = .ok (.aload_n 0, 1) := by decide +kernel
theorem dX1_init_1 : decode cX1_init 1 = .ok (.invokespecial 3, 3) := by decide +kernel
theorem dX1_init_4 : decode cX1_init 4 = .ok (.aload_n 0, 1) := by decide +kernel
theorem dX1_init_5 : decode cX1_init 5 = .ok (.bipush 14, 2) := by decide +kernel
theorem dX1_init_7 : decode cX1_init 7 = .ok (.anewarray 9, 3) := by decide +kernel
theorem dX1_init_10 : decode cX1_init 10 = .ok (.putfield 11, 3) := by decide +kernel
theorem dX1_init_13 : decode cX1_init 13 = .ok (.return_, 1) := by decide +kernel
theorem dX1_add_0 : decode cX1_add 0 = .ok (.aload_n 0, 1) := by decide +kernel
theorem dX1_add_1 : decode cX1_add 1 = .ok (.getfield 17, 3) := by decide +kernel
theorem dX1_add_4 : decode cX1_add 4 = .ok (.istore_n 2, 1) := by decide +kernel
theorem dX1_add_5 : decode cX1_add 5 = .ok (.iload_n 2, 1) := by decide +kernel
theorem dX1_add_6 : decode cX1_add 6 = .ok (.ifCond .lt 12, 3) := by decide +kernel
theorem dX1_add_9 : decode cX1_add 9 = .ok (.iload_n 2, 1) := by decide +kernel
theorem dX1_add_10 : decode cX1_add 10 = .ok (.aload_n 0, 1) := by decide +kernel
theorem dX1_add_11 : decode cX1_add 11 = .ok (.getfield 11, 3) := by decide +kernel
theorem dX1_add_14 : decode cX1_add 14 = .ok (.arraylength, 1) := by decide +kernel
theorem dX1_add_15 : decode cX1_add 15 = .ok (.if_icmp .lt 6, 3) := by decide +kernel
theorem dX1_add_18 : decode cX1_add 18 = .ok (.ldc 21, 2) := by decide +kernel
theorem dX1_add_20 : decode cX1_add 20 = .ok (.ireturn, 1) := by decide +kernel
theorem dX1_add_21 : decode cX1_add 21 = .ok (.aload_n 0, 1) := by decide +kernel
theorem dX1_add_22 : decode cX1_add 22 = .ok (.getfield 11, 3) := by decide +kernel
theorem dX1_add_25 : decode cX1_add 25 = .ok (.iload_n 2, 1) := by decide +kernel
theorem dX1_add_26 : decode cX1_add 26 = .ok (.aload_n 1, 1) := by decide +kernel
theorem dX1_add_27 : decode cX1_add 27 = .ok (.aastore, 1) := by decide +kernel
theorem dX1_add_28 : decode cX1_add 28 = .ok (.aload_n 0, 1) := by decide +kernel
theorem dX1_add_29 : decode cX1_add 29 = .ok (.dup, 1) := by decide +kernel
theorem dX1_add_30 : decode cX1_add 30 = .ok (.getfield 17, 3) := by decide +kernel
theorem dX1_add_33 : decode cX1_add 33 = .ok (.iconst 1, 1) := by decide +kernel
theorem dX1_add_34 : decode cX1_add 34 = .ok (.iadd, 1) := by decide +kernel
theorem dX1_add_35 : decode cX1_add 35 = .ok (.putfield 17, 3) := by decide +kernel
theorem dX1_add_38 : decode cX1_add 38 = .ok (.iload_n 2, 1) := by decide +kernel
theorem dX1_add_39 : decode cX1_add 39 = .ok (.ireturn, 1) := by decide +kernel
theorem dX1_textAt_0 : decode cX1_textAt 0 = .ok (.iload_n 1, 1) := by decide +kernel
theorem dX1_textAt_1 : decode cX1_textAt 1 = .ok (.ifCond .lt 29, 3) := by decide +kernel
theorem dX1_textAt_4 : decode cX1_textAt 4 = .ok (.iload_n 1, 1) := by decide +kernel
theorem dX1_textAt_5 : decode cX1_textAt 5 = .ok (.aload_n 0, 1) := by decide +kernel
theorem dX1_textAt_6 : decode cX1_textAt 6 = .ok (.getfield 17, 3) := by decide +kernel
theorem dX1_textAt_9 : decode cX1_textAt 9 = .ok (.if_icmp .ge 21, 3) := by decide +kernel
theorem dX1_textAt_12 : decode cX1_textAt 12 = .ok (.iload_n 1, 1) := by decide +kernel
theorem dX1_textAt_13 : decode cX1_textAt 13 = .ok (.aload_n 0, 1) := by decide +kernel
theorem dX1_textAt_14 : decode cX1_textAt 14 = .ok (.getfield 11, 3) := by decide +kernel
theorem dX1_textAt_17 : decode cX1_textAt 17 = .ok (.arraylength, 1) := by decide +kernel
theorem dX1_textAt_18 : decode cX1_textAt 18 = .ok (.if_icmp .ge 12, 3) := by decide +kernel
theorem dX1_textAt_21 : decode cX1_textAt 21 = .ok (.aload_n 0, 1) := by decide +kernel
theorem dX1_textAt_22 : decode cX1_textAt 22 = .ok (.getfield 11, 3) := by decide +kernel
theorem dX1_textAt_25 : decode cX1_textAt 25 = .ok (.iload_n 1, 1) := by decide +kernel
theorem dX1_textAt_26 : decode cX1_textAt 26 = .ok (.aaload, 1) := by decide +kernel
theorem dX1_textAt_27 : decode cX1_textAt 27 = .ok (.goto 4, 3) := by decide +kernel
theorem dX1_textAt_30 : decode cX1_textAt 30 = .ok (.aconst_null, 1) := by decide +kernel
theorem dX1_textAt_31 : decode cX1_textAt 31 = .ok (.areturn, 1) := by decide +kernel
theorem dX1_counting_0 : decode cX1_counting 0 = .ok (.iconst (-1), 1) := by decide +kernel
theorem dX1_counting_1 : decode cX1_counting 1 = .ok (.istore_n 3, 1) := by decide +kernel
theorem dX1_counting_2 : decode cX1_counting 2 = .ok (.iconst 0, 1) := by decide +kernel
theorem dX1_counting_3 : decode cX1_counting 3 = .ok (.istore 4, 2) := by decide +kernel
theorem dX1_counting_5 : decode cX1_counting 5 = .ok (.iconst 0, 1) := by decide +kernel
theorem dX1_counting_6 : decode cX1_counting 6 = .ok (.istore 5, 2) := by decide +kernel
theorem dX1_counting_8 : decode cX1_counting 8 = .ok (.iload 5, 2) := by decide +kernel
theorem dX1_counting_10 : decode cX1_counting 10 = .ok (.aload_n 0, 1) := by decide +kernel
theorem dX1_counting_11 : decode cX1_counting 11 = .ok (.getfield 17, 3) := by decide +kernel
theorem dX1_counting_14 : decode cX1_counting 14 = .ok (.if_icmp .ge 60, 3) := by decide +kernel
theorem dX1_counting_17 : decode cX1_counting 17 = .ok (.aload_n 0, 1) := by decide +kernel
theorem dX1_counting_18 : decode cX1_counting 18 = .ok (.iload 5, 2) := by decide +kernel
theorem dX1_counting_20 : decode cX1_counting 20 = .ok (.invokevirtual 22, 3) := by decide +kernel
theorem dX1_counting_23 : decode cX1_counting 23 = .ok (.astore 6, 2) := by decide +kernel
theorem dX1_counting_25 : decode cX1_counting 25 = .ok (.aload 6, 2) := by decide +kernel
theorem dX1_counting_27 : decode cX1_counting 27 = .ok (.ifnull 41, 3) := by decide +kernel
theorem dX1_counting_30 : decode cX1_counting 30 = .ok (.aload 6, 2) := by decide +kernel
theorem dX1_counting_32 : decode cX1_counting 32 = .ok (.getfield 26, 3) := by decide +kernel
theorem dX1_counting_35 : decode cX1_counting 35 = .ok (.iload_n 1, 1) := by decide +kernel
theorem dX1_counting_36 : decode cX1_counting 36 = .ok (.if_icmp .ne 32, 3) := by decide +kernel
theorem dX1_counting_39 : decode cX1_counting 39 = .ok (.aload 6, 2) := by decide +kernel
theorem dX1_counting_41 : decode cX1_counting 41 = .ok (.getfield 29, 3) := by decide +kernel
theorem dX1_counting_44 : decode cX1_counting 44 = .ok (.iload_n 2, 1) := by decide +kernel
theorem dX1_counting_45 : decode cX1_counting 45 = .ok (.if_icmp .gt 23, 3) := by decide +kernel
theorem dX1_counting_48 : decode cX1_counting 48 = .ok (.aload 6, 2) := by decide +kernel
theorem dX1_counting_50 : decode cX1_counting 50 = .ok (.getfield 29, 3) := by decide +kernel
theorem dX1_counting_53 : decode cX1_counting 53 = .ok (.iload 4, 2) := by decide +kernel
theorem dX1_counting_55 : decode cX1_counting 55 = .ok (.if_icmp .lt 13, 3) := by decide +kernel
theorem dX1_counting_58 : decode cX1_counting 58 = .ok (.iload 5, 2) := by decide +kernel
theorem dX1_counting_60 : decode cX1_counting 60 = .ok (.istore_n 3, 1) := by decide +kernel
theorem dX1_counting_61 : decode cX1_counting 61 = .ok (.aload 6, 2) := by decide +kernel
theorem dX1_counting_63 : decode cX1_counting 63 = .ok (.getfield 29, 3) := by decide +kernel
theorem dX1_counting_66 : decode cX1_counting 66 = .ok (.istore 4, 2) := by decide +kernel
theorem dX1_counting_68 : decode cX1_counting 68 = .ok (.iinc 5 1, 3) := by decide +kernel
theorem dX1_counting_71 : decode cX1_counting 71 = .ok (.goto (-63), 3) := by decide +kernel
theorem dX1_counting_74 : decode cX1_counting 74 = .ok (.iload_n 3, 1) := by decide +kernel
theorem dX1_counting_75 : decode cX1_counting 75 = .ok (.ireturn, 1) := by decide +kernel
theorem dX1_rule_0 : decode cX1_rule 0 = .ok (.aload_n 0, 1) := by decide +kernel
theorem dX1_rule_1 : decode cX1_rule 1 = .ok (.aload_n 0, 1) := by decide +kernel
theorem dX1_rule_2 : decode cX1_rule 2 = .ok (.iload_n 1, 1) := by decide +kernel
theorem dX1_rule_3 : decode cX1_rule 3 = .ok (.iload_n 2, 1) := by decide +kernel
theorem dX1_rule_4 : decode cX1_rule 4 = .ok (.invokevirtual 32, 3) := by decide +kernel
theorem dX1_rule_7 : decode cX1_rule 7 = .ok (.invokevirtual 22, 3) := by decide +kernel
theorem dX1_rule_10 : decode cX1_rule 10 = .ok (.astore 6, 2) := by decide +kernel
theorem dX1_rule_12 : decode cX1_rule 12 = .ok (.aload 6, 2) := by decide +kernel
theorem dX1_rule_14 : decode cX1_rule 14 = .ok (.ifnonnull 11, 3) := by decide +kernel
theorem dX1_rule_17 : decode cX1_rule 17 = .ok (.iload_n 1, 1) := by decide +kernel
theorem dX1_rule_18 : decode cX1_rule 18 = .ok (.iload_n 3, 1) := by decide +kernel
theorem dX1_rule_19 : decode cX1_rule 19 = .ok (.invokestatic 36, 3) := by decide +kernel
theorem dX1_rule_22 : decode cX1_rule 22 = .ok (.goto 13, 3) := by decide +kernel
theorem dX1_rule_25 : decode cX1_rule 25 = .ok (.aload 6, 2) := by decide +kernel
theorem dX1_rule_27 : decode cX1_rule 27 = .ok (.iload_n 3, 1) := by decide +kernel
theorem dX1_rule_28 : decode cX1_rule 28 = .ok (.iload 4, 2) := by decide +kernel
theorem dX1_rule_30 : decode cX1_rule 30 = .ok (.iload 5, 2) := by decide +kernel
theorem dX1_rule_32 : decode cX1_rule 32 = .ok (.invokevirtual 39, 3) := by decide +kernel
theorem dX1_rule_35 : decode cX1_rule 35 = .ok (.istore 7, 2) := by decide +kernel
theorem dX1_rule_37 : decode cX1_rule 37 = .ok (.iload_n 1, 1) := by decide +kernel
theorem dX1_rule_38 : decode cX1_rule 38 = .ok (.tableswitch 49 2 4 #[26, 34, 42], 26) := by decide +kernel
theorem dX1_rule_64 : decode cX1_rule 64 = .ok (.iload 7, 2) := by decide +kernel
theorem dX1_rule_66 : decode cX1_rule 66 = .ok (.bipush 99, 2) := by decide +kernel
theorem dX1_rule_68 : decode cX1_rule 68 = .ok (.invokestatic 43, 3) := by decide +kernel
theorem dX1_rule_71 : decode cX1_rule 71 = .ok (.ireturn, 1) := by decide +kernel
theorem dX1_rule_72 : decode cX1_rule 72 = .ok (.iload 7, 2) := by decide +kernel
theorem dX1_rule_74 : decode cX1_rule 74 = .ok (.bipush 100, 2) := by decide +kernel
theorem dX1_rule_76 : decode cX1_rule 76 = .ok (.invokestatic 43, 3) := by decide +kernel
theorem dX1_rule_79 : decode cX1_rule 79 = .ok (.ireturn, 1) := by decide +kernel
theorem dX1_rule_80 : decode cX1_rule 80 = .ok (.iload 7, 2) := by decide +kernel
theorem dX1_rule_82 : decode cX1_rule 82 = .ok (.iload_n 3, 1) := by decide +kernel
theorem dX1_rule_83 : decode cX1_rule 83 = .ok (.invokestatic 43, 3) := by decide +kernel
theorem dX1_rule_86 : decode cX1_rule 86 = .ok (.ireturn, 1) := by decide +kernel
theorem dX1_rule_87 : decode cX1_rule 87 = .ok (.iload 7, 2) := by decide +kernel
theorem dX1_rule_89 : decode cX1_rule 89 = .ok (.ireturn, 1) := by decide +kernel
theorem dX1_unwritten_0 : decode cX1_unwritten 0 = .ok (.iload_n 0, 1) := by decide +kernel
theorem dX1_unwritten_1 : decode cX1_unwritten 1 = .ok (.ifCond .ne 16, 3) := by decide +kernel
theorem dX1_unwritten_4 : decode cX1_unwritten 4 = .ok (.iload_n 1, 1) := by decide +kernel
theorem dX1_unwritten_5 : decode cX1_unwritten 5 = .ok (.sipush 208, 3) := by decide +kernel
theorem dX1_unwritten_8 : decode cX1_unwritten 8 = .ok (.if_icmp .le 7, 3) := by decide +kernel
theorem dX1_unwritten_11 : decode cX1_unwritten 11 = .ok (.iconst 1, 1) := by decide +kernel
theorem dX1_unwritten_12 : decode cX1_unwritten 12 = .ok (.goto 4, 3) := by decide +kernel
theorem dX1_unwritten_15 : decode cX1_unwritten 15 = .ok (.iconst 0, 1) := by decide +kernel
theorem dX1_unwritten_16 : decode cX1_unwritten 16 = .ok (.ireturn, 1) := by decide +kernel
theorem dX1_unwritten_17 : decode cX1_unwritten 17 = .ok (.iload_n 0, 1) := by decide +kernel
theorem dX1_unwritten_18 : decode cX1_unwritten 18 = .ok (.iconst 2, 1) := by decide +kernel
theorem dX1_unwritten_19 : decode cX1_unwritten 19 = .ok (.if_icmp .ne 7, 3) := by decide +kernel
theorem dX1_unwritten_22 : decode cX1_unwritten 22 = .ok (.iconst 4, 1) := by decide +kernel
theorem dX1_unwritten_23 : decode cX1_unwritten 23 = .ok (.goto 4, 3) := by decide +kernel
theorem dX1_unwritten_26 : decode cX1_unwritten 26 = .ok (.iconst 0, 1) := by decide +kernel
theorem dX1_unwritten_27 : decode cX1_unwritten 27 = .ok (.ireturn, 1) := by decide +kernel
theorem dX1_held_0 : decode cX1_held 0 = .ok (.iconst 0, 1) := by decide +kernel
theorem dX1_held_1 : decode cX1_held 1 = .ok (.iload_n 0, 1) := by decide +kernel
theorem dX1_held_2 : decode cX1_held 2 = .ok (.iload_n 1, 1) := by decide +kernel
theorem dX1_held_3 : decode cX1_held 3 = .ok (.invokestatic 46, 3) := by decide +kernel
theorem dX1_held_6 : decode cX1_held 6 = .ok (.invokestatic 51, 3) := by decide +kernel
theorem dX1_held_9 : decode cX1_held 9 = .ok (.ireturn, 1) := by decide +kernel
theorem dX1_becomeAs_0 : decode cX1_becomeAs 0 = .ok (.iconst 0, 1) := by decide +kernel
theorem dX1_becomeAs_1 : decode cX1_becomeAs 1 = .ok (.istore_n 2, 1) := by decide +kernel
theorem dX1_becomeAs_2 : decode cX1_becomeAs 2 = .ok (.iload_n 2, 1) := by decide +kernel
theorem dX1_becomeAs_3 : decode cX1_becomeAs 3 = .ok (.aload_n 0, 1) := by decide +kernel
theorem dX1_becomeAs_4 : decode cX1_becomeAs 4 = .ok (.getfield 11, 3) := by decide +kernel
theorem dX1_becomeAs_7 : decode cX1_becomeAs 7 = .ok (.arraylength, 1) := by decide +kernel
theorem dX1_becomeAs_8 : decode cX1_becomeAs 8 = .ok (.if_icmp .ge 30, 3) := by decide +kernel
theorem dX1_becomeAs_11 : decode cX1_becomeAs 11 = .ok (.iload_n 2, 1) := by decide +kernel
theorem dX1_becomeAs_12 : decode cX1_becomeAs 12 = .ok (.aload_n 1, 1) := by decide +kernel
theorem dX1_becomeAs_13 : decode cX1_becomeAs 13 = .ok (.getfield 11, 3) := by decide +kernel
theorem dX1_becomeAs_16 : decode cX1_becomeAs 16 = .ok (.arraylength, 1) := by decide +kernel
theorem dX1_becomeAs_17 : decode cX1_becomeAs 17 = .ok (.if_icmp .ge 21, 3) := by decide +kernel
theorem dX1_becomeAs_20 : decode cX1_becomeAs 20 = .ok (.aload_n 0, 1) := by decide +kernel
theorem dX1_becomeAs_21 : decode cX1_becomeAs 21 = .ok (.getfield 11, 3) := by decide +kernel
theorem dX1_becomeAs_24 : decode cX1_becomeAs 24 = .ok (.iload_n 2, 1) := by decide +kernel
theorem dX1_becomeAs_25 : decode cX1_becomeAs 25 = .ok (.aload_n 1, 1) := by decide +kernel
theorem dX1_becomeAs_26 : decode cX1_becomeAs 26 = .ok (.getfield 11, 3) := by decide +kernel
theorem dX1_becomeAs_29 : decode cX1_becomeAs 29 = .ok (.iload_n 2, 1) := by decide +kernel
theorem dX1_becomeAs_30 : decode cX1_becomeAs 30 = .ok (.aaload, 1) := by decide +kernel
theorem dX1_becomeAs_31 : decode cX1_becomeAs 31 = .ok (.aastore, 1) := by decide +kernel
theorem dX1_becomeAs_32 : decode cX1_becomeAs 32 = .ok (.iinc 2 1, 3) := by decide +kernel
theorem dX1_becomeAs_35 : decode cX1_becomeAs 35 = .ok (.goto (-33), 3) := by decide +kernel
theorem dX1_becomeAs_38 : decode cX1_becomeAs 38 = .ok (.aload_n 0, 1) := by decide +kernel
theorem dX1_becomeAs_39 : decode cX1_becomeAs 39 = .ok (.aload_n 1, 1) := by decide +kernel
theorem dX1_becomeAs_40 : decode cX1_becomeAs 40 = .ok (.getfield 17, 3) := by decide +kernel
theorem dX1_becomeAs_43 : decode cX1_becomeAs 43 = .ok (.putfield 17, 3) := by decide +kernel
theorem dX1_becomeAs_46 : decode cX1_becomeAs 46 = .ok (.return_, 1) := by decide +kernel
theorem dX2_init_0 : decode cX2_init 0 = .ok (.aload_n 0, 1) := by decide +kernel
theorem dX2_init_1 : decode cX2_init 1 = .ok (.invokespecial 3, 3) := by decide +kernel
theorem dX2_init_4 : decode cX2_init 4 = .ok (.aload_n 0, 1) := by decide +kernel
theorem dX2_init_5 : decode cX2_init 5 = .ok (.iconst 4, 1) := by decide +kernel
theorem dX2_init_6 : decode cX2_init 6 = .ok (.newarray .int, 2) := by decide +kernel
theorem dX2_init_8 : decode cX2_init 8 = .ok (.dup, 1) := by decide +kernel
theorem dX2_init_9 : decode cX2_init 9 = .ok (.iconst 0, 1) := by decide +kernel
theorem dX2_init_10 : decode cX2_init 10 = .ok (.iconst (-1), 1) := by decide +kernel
theorem dX2_init_11 : decode cX2_init 11 = .ok (.iastore, 1) := by decide +kernel
theorem dX2_init_12 : decode cX2_init 12 = .ok (.dup, 1) := by decide +kernel
theorem dX2_init_13 : decode cX2_init 13 = .ok (.iconst 1, 1) := by decide +kernel
theorem dX2_init_14 : decode cX2_init 14 = .ok (.iconst (-1), 1) := by decide +kernel
theorem dX2_init_15 : decode cX2_init 15 = .ok (.iastore, 1) := by decide +kernel
theorem dX2_init_16 : decode cX2_init 16 = .ok (.dup, 1) := by decide +kernel
theorem dX2_init_17 : decode cX2_init 17 = .ok (.iconst 2, 1) := by decide +kernel
theorem dX2_init_18 : decode cX2_init 18 = .ok (.iconst (-1), 1) := by decide +kernel
theorem dX2_init_19 : decode cX2_init 19 = .ok (.iastore, 1) := by decide +kernel
theorem dX2_init_20 : decode cX2_init 20 = .ok (.dup, 1) := by decide +kernel
theorem dX2_init_21 : decode cX2_init 21 = .ok (.iconst 3, 1) := by decide +kernel
theorem dX2_init_22 : decode cX2_init 22 = .ok (.iconst (-1), 1) := by decide +kernel
theorem dX2_init_23 : decode cX2_init 23 = .ok (.iastore, 1) := by decide +kernel
theorem dX2_init_24 : decode cX2_init 24 = .ok (.putfield 11, 3) := by decide +kernel
theorem dX2_init_27 : decode cX2_init 27 = .ok (.aload_n 0, 1) := by decide +kernel
theorem dX2_init_28 : decode cX2_init 28 = .ok (.new 15, 3) := by decide +kernel
theorem dX2_init_31 : decode cX2_init 31 = .ok (.dup, 1) := by decide +kernel
theorem dX2_init_32 : decode cX2_init 32 = .ok (.iconst 1, 1) := by decide +kernel
theorem dX2_init_33 : decode cX2_init 33 = .ok (.iconst 4, 1) := by decide +kernel
theorem dX2_init_34 : decode cX2_init 34 = .ok (.invokespecial 17, 3) := by decide +kernel
theorem dX2_init_37 : decode cX2_init 37 = .ok (.putfield 20, 3) := by decide +kernel
theorem dX2_init_40 : decode cX2_init 40 = .ok (.aload_n 0, 1) := by decide +kernel
theorem dX2_init_41 : decode cX2_init 41 = .ok (.new 15, 3) := by decide +kernel
theorem dX2_init_44 : decode cX2_init 44 = .ok (.dup, 1) := by decide +kernel
theorem dX2_init_45 : decode cX2_init 45 = .ok (.bipush 24, 2) := by decide +kernel
theorem dX2_init_47 : decode cX2_init 47 = .ok (.iconst 4, 1) := by decide +kernel
theorem dX2_init_48 : decode cX2_init 48 = .ok (.invokespecial 17, 3) := by decide +kernel
theorem dX2_init_51 : decode cX2_init 51 = .ok (.putfield 24, 3) := by decide +kernel
theorem dX2_init_54 : decode cX2_init 54 = .ok (.aload_n 0, 1) := by decide +kernel
theorem dX2_init_55 : decode cX2_init 55 = .ok (.bipush 24, 2) := by decide +kernel
theorem dX2_init_57 : decode cX2_init 57 = .ok (.newarray .int, 2) := by decide +kernel
theorem dX2_init_59 : decode cX2_init 59 = .ok (.putfield 27, 3) := by decide +kernel
theorem dX2_init_62 : decode cX2_init 62 = .ok (.return_, 1) := by decide +kernel
theorem dX2_isOne_0 : decode cX2_isOne 0 = .ok (.iload_n 1, 1) := by decide +kernel
theorem dX2_isOne_1 : decode cX2_isOne 1 = .ok (.ifCond .lt 16, 3) := by decide +kernel
theorem dX2_isOne_4 : decode cX2_isOne 4 = .ok (.iload_n 1, 1) := by decide +kernel
theorem dX2_isOne_5 : decode cX2_isOne 5 = .ok (.aload_n 0, 1) := by decide +kernel
theorem dX2_isOne_6 : decode cX2_isOne 6 = .ok (.getfield 11, 3) := by decide +kernel
theorem dX2_isOne_9 : decode cX2_isOne 9 = .ok (.arraylength, 1) := by decide +kernel
theorem dX2_isOne_10 : decode cX2_isOne 10 = .ok (.if_icmp .ge 7, 3) := by decide +kernel
theorem dX2_isOne_13 : decode cX2_isOne 13 = .ok (.iconst 1, 1) := by decide +kernel
theorem dX2_isOne_14 : decode cX2_isOne 14 = .ok (.goto 4, 3) := by decide +kernel
theorem dX2_isOne_17 : decode cX2_isOne 17 = .ok (.iconst 0, 1) := by decide +kernel
theorem dX2_isOne_18 : decode cX2_isOne 18 = .ok (.ireturn, 1) := by decide +kernel
theorem dX2_sortOf_0 : decode cX2_sortOf 0 = .ok (.iload_n 1, 1) := by decide +kernel
theorem dX2_sortOf_1 : decode cX2_sortOf 1 = .ok (.ifCond .lt 21, 3) := by decide +kernel
theorem dX2_sortOf_4 : decode cX2_sortOf 4 = .ok (.iload_n 1, 1) := by decide +kernel
theorem dX2_sortOf_5 : decode cX2_sortOf 5 = .ok (.aload_n 0, 1) := by decide +kernel
theorem dX2_sortOf_6 : decode cX2_sortOf 6 = .ok (.getfield 11, 3) := by decide +kernel
theorem dX2_sortOf_9 : decode cX2_sortOf 9 = .ok (.arraylength, 1) := by decide +kernel
theorem dX2_sortOf_10 : decode cX2_sortOf 10 = .ok (.if_icmp .ge 12, 3) := by decide +kernel
theorem dX2_sortOf_13 : decode cX2_sortOf 13 = .ok (.aload_n 0, 1) := by decide +kernel
theorem dX2_sortOf_14 : decode cX2_sortOf 14 = .ok (.getfield 11, 3) := by decide +kernel
theorem dX2_sortOf_17 : decode cX2_sortOf 17 = .ok (.iload_n 1, 1) := by decide +kernel
theorem dX2_sortOf_18 : decode cX2_sortOf 18 = .ok (.iaload, 1) := by decide +kernel
theorem dX2_sortOf_19 : decode cX2_sortOf 19 = .ok (.goto 4, 3) := by decide +kernel
theorem dX2_sortOf_22 : decode cX2_sortOf 22 = .ok (.iconst (-1), 1) := by decide +kernel
theorem dX2_sortOf_23 : decode cX2_sortOf 23 = .ok (.ireturn, 1) := by decide +kernel
theorem dX2_isMissing_0 : decode cX2_isMissing 0 = .ok (.aload_n 0, 1) := by decide +kernel
theorem dX2_isMissing_1 : decode cX2_isMissing 1 = .ok (.iload_n 1, 1) := by decide +kernel
theorem dX2_isMissing_2 : decode cX2_isMissing 2 = .ok (.invokevirtual 30, 3) := by decide +kernel
theorem dX2_isMissing_5 : decode cX2_isMissing 5 = .ok (.iconst (-1), 1) := by decide +kernel
theorem dX2_isMissing_6 : decode cX2_isMissing 6 = .ok (.if_icmp .ne 7, 3) := by decide +kernel
theorem dX2_isMissing_9 : decode cX2_isMissing 9 = .ok (.iconst 1, 1) := by decide +kernel
theorem dX2_isMissing_10 : decode cX2_isMissing 10 = .ok (.goto 4, 3) := by decide +kernel
theorem dX2_isMissing_13 : decode cX2_isMissing 13 = .ok (.iconst 0, 1) := by decide +kernel
theorem dX2_isMissing_14 : decode cX2_isMissing 14 = .ok (.ireturn, 1) := by decide +kernel
theorem dX2_alike_0 : decode cX2_alike 0 = .ok (.aload_n 0, 1) := by decide +kernel
theorem dX2_alike_1 : decode cX2_alike 1 = .ok (.iload_n 1, 1) := by decide +kernel
theorem dX2_alike_2 : decode cX2_alike 2 = .ok (.invokevirtual 30, 3) := by decide +kernel
theorem dX2_alike_5 : decode cX2_alike 5 = .ok (.aload_n 0, 1) := by decide +kernel
theorem dX2_alike_6 : decode cX2_alike 6 = .ok (.iload_n 2, 1) := by decide +kernel
theorem dX2_alike_7 : decode cX2_alike 7 = .ok (.invokevirtual 30, 3) := by decide +kernel
theorem dX2_alike_10 : decode cX2_alike 10 = .ok (.if_icmp .ne 7, 3) := by decide +kernel
theorem dX2_alike_13 : decode cX2_alike 13 = .ok (.iconst 1, 1) := by decide +kernel
theorem dX2_alike_14 : decode cX2_alike 14 = .ok (.goto 4, 3) := by decide +kernel
theorem dX2_alike_17 : decode cX2_alike 17 = .ok (.iconst 0, 1) := by decide +kernel
theorem dX2_alike_18 : decode cX2_alike 18 = .ok (.ireturn, 1) := by decide +kernel
theorem dX2_hasRow_0 : decode cX2_hasRow 0 = .ok (.aload_n 0, 1) := by decide +kernel
theorem dX2_hasRow_1 : decode cX2_hasRow 1 = .ok (.getfield 20, 3) := by decide +kernel
theorem dX2_hasRow_4 : decode cX2_hasRow 4 = .ok (.iload_n 1, 1) := by decide +kernel
theorem dX2_hasRow_5 : decode cX2_hasRow 5 = .ok (.iconst 0, 1) := by decide +kernel
theorem dX2_hasRow_6 : decode cX2_hasRow 6 = .ok (.invokevirtual 34, 3) := by decide +kernel
theorem dX2_hasRow_9 : decode cX2_hasRow 9 = .ok (.istore 4, 2) := by decide +kernel
theorem dX2_hasRow_11 : decode cX2_hasRow 11 = .ok (.iload_n 2, 1) := by decide +kernel
theorem dX2_hasRow_12 : decode cX2_hasRow 12 = .ok (.ifCond .lt 25, 3) := by decide +kernel
theorem dX2_hasRow_15 : decode cX2_hasRow 15 = .ok (.iload_n 3, 1) := by decide +kernel
theorem dX2_hasRow_16 : decode cX2_hasRow 16 = .ok (.ifCond .lt 21, 3) := by decide +kernel
theorem dX2_hasRow_19 : decode cX2_hasRow 19 = .ok (.iload_n 2, 1) := by decide +kernel
theorem dX2_hasRow_20 : decode cX2_hasRow 20 = .ok (.iload 4, 2) := by decide +kernel
theorem dX2_hasRow_22 : decode cX2_hasRow 22 = .ok (.if_icmp .gt 15, 3) := by decide +kernel
theorem dX2_hasRow_25 : decode cX2_hasRow 25 = .ok (.iload_n 3, 1) := by decide +kernel
theorem dX2_hasRow_26 : decode cX2_hasRow 26 = .ok (.iload 4, 2) := by decide +kernel
theorem dX2_hasRow_28 : decode cX2_hasRow 28 = .ok (.iload_n 2, 1) := by decide +kernel
theorem dX2_hasRow_29 : decode cX2_hasRow 29 = .ok (.isub, 1) := by decide +kernel
theorem dX2_hasRow_30 : decode cX2_hasRow 30 = .ok (.if_icmp .gt 7, 3) := by decide +kernel
theorem dX2_hasRow_33 : decode cX2_hasRow 33 = .ok (.iconst 1, 1) := by decide +kernel
theorem dX2_hasRow_34 : decode cX2_hasRow 34 = .ok (.goto 4, 3) := by decide +kernel
theorem dX2_hasRow_37 : decode cX2_hasRow 37 = .ok (.iconst 0, 1) := by decide +kernel
theorem dX2_hasRow_38 : decode cX2_hasRow 38 = .ok (.ireturn, 1) := by decide +kernel
theorem dX2_finding_0 : decode cX2_finding 0 = .ok (.aload_n 0, 1) := by decide +kernel
theorem dX2_finding_1 : decode cX2_finding 1 = .ok (.iload_n 1, 1) := by decide +kernel
theorem dX2_finding_2 : decode cX2_finding 2 = .ok (.invokevirtual 38, 3) := by decide +kernel
theorem dX2_finding_5 : decode cX2_finding 5 = .ok (.ifCond .ne 6, 3) := by decide +kernel
theorem dX2_finding_8 : decode cX2_finding 8 = .ok (.ldc 42, 2) := by decide +kernel
theorem dX2_finding_10 : decode cX2_finding 10 = .ok (.ireturn, 1) := by decide +kernel
theorem dX2_finding_11 : decode cX2_finding 11 = .ok (.aload_n 0, 1) := by decide +kernel
theorem dX2_finding_12 : decode cX2_finding 12 = .ok (.iload_n 1, 1) := by decide +kernel
theorem dX2_finding_13 : decode cX2_finding 13 = .ok (.invokevirtual 43, 3) := by decide +kernel
theorem dX2_finding_16 : decode cX2_finding 16 = .ok (.ifCond .eq 6, 3) := by decide +kernel
theorem dX2_finding_19 : decode cX2_finding 19 = .ok (.ldc 46, 2) := by decide +kernel
theorem dX2_finding_21 : decode cX2_finding 21 = .ok (.ireturn, 1) := by decide +kernel
theorem dX2_finding_22 : decode cX2_finding 22 = .ok (.aload_n 0, 1) := by decide +kernel
theorem dX2_finding_23 : decode cX2_finding 23 = .ok (.iload_n 1, 1) := by decide +kernel
theorem dX2_finding_24 : decode cX2_finding 24 = .ok (.iload_n 2, 1) := by decide +kernel
theorem dX2_finding_25 : decode cX2_finding 25 = .ok (.iconst 1, 1) := by decide +kernel
theorem dX2_finding_26 : decode cX2_finding 26 = .ok (.invokevirtual 47, 3) := by decide +kernel
theorem dX2_finding_29 : decode cX2_finding 29 = .ok (.ifCond .eq 7, 3) := by decide +kernel
theorem dX2_finding_32 : decode cX2_finding 32 = .ok (.iconst 0, 1) := by decide +kernel
theorem dX2_finding_33 : decode cX2_finding 33 = .ok (.goto 5, 3) := by decide +kernel
theorem dX2_finding_36 : decode cX2_finding 36 = .ok (.ldc 51, 2) := by decide +kernel
theorem dX2_finding_38 : decode cX2_finding 38 = .ok (.ireturn, 1) := by decide +kernel
theorem dX2_shape_0 : decode cX2_shape 0 = .ok (.iload_n 1, 1) := by decide +kernel
theorem dX2_shape_1 : decode cX2_shape 1 = .ok (.ifCond .lt 19, 3) := by decide +kernel
theorem dX2_shape_4 : decode cX2_shape 4 = .ok (.iload_n 1, 1) := by decide +kernel
theorem dX2_shape_5 : decode cX2_shape 5 = .ok (.aload_n 0, 1) := by decide +kernel
theorem dX2_shape_6 : decode cX2_shape 6 = .ok (.getfield 11, 3) := by decide +kernel
theorem dX2_shape_9 : decode cX2_shape 9 = .ok (.arraylength, 1) := by decide +kernel
theorem dX2_shape_10 : decode cX2_shape 10 = .ok (.if_icmp .ge 10, 3) := by decide +kernel
theorem dX2_shape_13 : decode cX2_shape 13 = .ok (.aload_n 0, 1) := by decide +kernel
theorem dX2_shape_14 : decode cX2_shape 14 = .ok (.getfield 11, 3) := by decide +kernel
theorem dX2_shape_17 : decode cX2_shape 17 = .ok (.iload_n 1, 1) := by decide +kernel
theorem dX2_shape_18 : decode cX2_shape 18 = .ok (.iload_n 2, 1) := by decide +kernel
theorem dX2_shape_19 : decode cX2_shape 19 = .ok (.iastore, 1) := by decide +kernel
theorem dX2_shape_20 : decode cX2_shape 20 = .ok (.aload_n 0, 1) := by decide +kernel
theorem dX2_shape_21 : decode cX2_shape 21 = .ok (.getfield 20, 3) := by decide +kernel
theorem dX2_shape_24 : decode cX2_shape 24 = .ok (.iload_n 1, 1) := by decide +kernel
theorem dX2_shape_25 : decode cX2_shape 25 = .ok (.iconst 0, 1) := by decide +kernel
theorem dX2_shape_26 : decode cX2_shape 26 = .ok (.iload_n 3, 1) := by decide +kernel
theorem dX2_shape_27 : decode cX2_shape 27 = .ok (.invokevirtual 52, 3) := by decide +kernel
theorem dX2_shape_30 : decode cX2_shape 30 = .ok (.iconst 0, 1) := by decide +kernel
theorem dX2_shape_31 : decode cX2_shape 31 = .ok (.istore 4, 2) := by decide +kernel
theorem dX2_shape_33 : decode cX2_shape 33 = .ok (.iload 4, 2) := by decide +kernel
theorem dX2_shape_35 : decode cX2_shape 35 = .ok (.bipush 24, 2) := by decide +kernel
theorem dX2_shape_37 : decode cX2_shape 37 = .ok (.if_icmp .ge 20, 3) := by decide +kernel
theorem dX2_shape_40 : decode cX2_shape 40 = .ok (.aload_n 0, 1) := by decide +kernel
theorem dX2_shape_41 : decode cX2_shape 41 = .ok (.getfield 24, 3) := by decide +kernel
theorem dX2_shape_44 : decode cX2_shape 44 = .ok (.iload_n 1, 1) := by decide +kernel
theorem dX2_shape_45 : decode cX2_shape 45 = .ok (.iload 4, 2) := by decide +kernel
theorem dX2_shape_47 : decode cX2_shape 47 = .ok (.iconst 0, 1) := by decide +kernel
theorem dX2_shape_48 : decode cX2_shape 48 = .ok (.invokevirtual 52, 3) := by decide +kernel
theorem dX2_shape_51 : decode cX2_shape 51 = .ok (.iinc 4 1, 3) := by decide +kernel
theorem dX2_shape_54 : decode cX2_shape 54 = .ok (.goto (-21), 3) := by decide +kernel
theorem dX2_shape_57 : decode cX2_shape 57 = .ok (.iload_n 3, 1) := by decide +kernel
theorem dX2_shape_58 : decode cX2_shape 58 = .ok (.ireturn, 1) := by decide +kernel
theorem dX2_write_0 : decode cX2_write 0 = .ok (.aload_n 0, 1) := by decide +kernel
theorem dX2_write_1 : decode cX2_write 1 = .ok (.getfield 24, 3) := by decide +kernel
theorem dX2_write_4 : decode cX2_write 4 = .ok (.iload_n 1, 1) := by decide +kernel
theorem dX2_write_5 : decode cX2_write 5 = .ok (.iload_n 2, 1) := by decide +kernel
theorem dX2_write_6 : decode cX2_write 6 = .ok (.aload_n 0, 1) := by decide +kernel
theorem dX2_write_7 : decode cX2_write 7 = .ok (.iload_n 1, 1) := by decide +kernel
theorem dX2_write_8 : decode cX2_write 8 = .ok (.invokevirtual 30, 3) := by decide +kernel
theorem dX2_write_11 : decode cX2_write 11 = .ok (.ifCond .ne 8, 3) := by decide +kernel
theorem dX2_write_14 : decode cX2_write 14 = .ok (.iload_n 3, 1) := by decide +kernel
theorem dX2_write_15 : decode cX2_write 15 = .ok (.i2b, 1) := by decide +kernel
theorem dX2_write_16 : decode cX2_write 16 = .ok (.goto 5, 3) := by decide +kernel
theorem dX2_write_19 : decode cX2_write 19 = .ok (.iload_n 3, 1) := by decide +kernel
theorem dX2_write_20 : decode cX2_write 20 = .ok (.i2s, 1) := by decide +kernel
theorem dX2_write_21 : decode cX2_write 21 = .ok (.invokevirtual 52, 3) := by decide +kernel
theorem dX2_write_24 : decode cX2_write 24 = .ok (.return_, 1) := by decide +kernel
theorem dX2_nearest_0 : decode cX2_nearest 0 = .ok (.iload_n 1, 1) := by decide +kernel
theorem dX2_nearest_1 : decode cX2_nearest 1 = .ok (.istore_n 3, 1) := by decide +kernel
theorem dX2_nearest_2 : decode cX2_nearest 2 = .ok (.iload_n 3, 1) := by decide +kernel
theorem dX2_nearest_3 : decode cX2_nearest 3 = .ok (.ifCond .lt 37, 3) := by decide +kernel
theorem dX2_nearest_6 : decode cX2_nearest 6 = .ok (.aload_n 0, 1) := by decide +kernel
theorem dX2_nearest_7 : decode cX2_nearest 7 = .ok (.iload_n 3, 1) := by decide +kernel
theorem dX2_nearest_8 : decode cX2_nearest 8 = .ok (.iload_n 2, 1) := by decide +kernel
theorem dX2_nearest_9 : decode cX2_nearest 9 = .ok (.invokevirtual 56, 3) := by decide +kernel
theorem dX2_nearest_12 : decode cX2_nearest 12 = .ok (.ifCond .ne 22, 3) := by decide +kernel
theorem dX2_nearest_15 : decode cX2_nearest 15 = .ok (.aload_n 0, 1) := by decide +kernel
theorem dX2_nearest_16 : decode cX2_nearest 16 = .ok (.iload_n 3, 1) := by decide +kernel
theorem dX2_nearest_17 : decode cX2_nearest 17 = .ok (.iload_n 2, 1) := by decide +kernel
theorem dX2_nearest_18 : decode cX2_nearest 18 = .ok (.invokevirtual 59, 3) := by decide +kernel
theorem dX2_nearest_21 : decode cX2_nearest 21 = .ok (.ifCond .eq 13, 3) := by decide +kernel
theorem dX2_nearest_24 : decode cX2_nearest 24 = .ok (.aload_n 0, 1) := by decide +kernel
theorem dX2_nearest_25 : decode cX2_nearest 25 = .ok (.getfield 24, 3) := by decide +kernel
theorem dX2_nearest_28 : decode cX2_nearest 28 = .ok (.iload_n 3, 1) := by decide +kernel
theorem dX2_nearest_29 : decode cX2_nearest 29 = .ok (.iload_n 2, 1) := by decide +kernel
theorem dX2_nearest_30 : decode cX2_nearest 30 = .ok (.invokevirtual 34, 3) := by decide +kernel
theorem dX2_nearest_33 : decode cX2_nearest 33 = .ok (.ireturn, 1) := by decide +kernel
theorem dX2_nearest_34 : decode cX2_nearest 34 = .ok (.iinc 3 (-1), 3) := by decide +kernel
theorem dX2_nearest_37 : decode cX2_nearest 37 = .ok (.goto (-35), 3) := by decide +kernel
theorem dX2_nearest_40 : decode cX2_nearest 40 = .ok (.ldc 63, 2) := by decide +kernel
theorem dX2_nearest_42 : decode cX2_nearest 42 = .ok (.ireturn, 1) := by decide +kernel
theorem dX2_isMustered_0 : decode cX2_isMustered 0 = .ok (.aload_n 0, 1) := by decide +kernel
theorem dX2_isMustered_1 : decode cX2_isMustered 1 = .ok (.getfield 24, 3) := by decide +kernel
theorem dX2_isMustered_4 : decode cX2_isMustered 4 = .ok (.iload_n 1, 1) := by decide +kernel
theorem dX2_isMustered_5 : decode cX2_isMustered 5 = .ok (.iload_n 2, 1) := by decide +kernel
theorem dX2_isMustered_6 : decode cX2_isMustered 6 = .ok (.invokevirtual 34, 3) := by decide +kernel
theorem dX2_isMustered_9 : decode cX2_isMustered 9 = .ok (.aload_n 0, 1) := by decide +kernel
theorem dX2_isMustered_10 : decode cX2_isMustered 10 = .ok (.iload_n 1, 1) := by decide +kernel
theorem dX2_isMustered_11 : decode cX2_isMustered 11 = .ok (.invokevirtual 30, 3) := by decide +kernel
theorem dX2_isMustered_14 : decode cX2_isMustered 14 = .ok (.ifCond .ne 8, 3) := by decide +kernel
theorem dX2_isMustered_17 : decode cX2_isMustered 17 = .ok (.bipush (-128), 2) := by decide +kernel
theorem dX2_isMustered_19 : decode cX2_isMustered 19 = .ok (.goto 6, 3) := by decide +kernel
theorem dX2_isMustered_22 : decode cX2_isMustered 22 = .ok (.sipush (-32768), 3) := by decide +kernel
theorem dX2_isMustered_25 : decode cX2_isMustered 25 = .ok (.if_icmp .eq 7, 3) := by decide +kernel
theorem dX2_isMustered_28 : decode cX2_isMustered 28 = .ok (.iconst 1, 1) := by decide +kernel
theorem dX2_isMustered_29 : decode cX2_isMustered 29 = .ok (.goto 4, 3) := by decide +kernel
theorem dX2_isMustered_32 : decode cX2_isMustered 32 = .ok (.iconst 0, 1) := by decide +kernel
theorem dX2_isMustered_33 : decode cX2_isMustered 33 = .ok (.ireturn, 1) := by decide +kernel
theorem dX2_move_0 : decode cX2_move 0 = .ok (.iconst 0, 1) := by decide +kernel
theorem dX2_move_1 : decode cX2_move 1 = .ok (.istore 6, 2) := by decide +kernel
theorem dX2_move_3 : decode cX2_move 3 = .ok (.iload 6, 2) := by decide +kernel
theorem dX2_move_5 : decode cX2_move 5 = .ok (.iload 5, 2) := by decide +kernel
theorem dX2_move_7 : decode cX2_move 7 = .ok (.if_icmp .ge 38, 3) := by decide +kernel
theorem dX2_move_10 : decode cX2_move 10 = .ok (.iload 6, 2) := by decide +kernel
theorem dX2_move_12 : decode cX2_move 12 = .ok (.aload_n 0, 1) := by decide +kernel
theorem dX2_move_13 : decode cX2_move 13 = .ok (.getfield 27, 3) := by decide +kernel
theorem dX2_move_16 : decode cX2_move 16 = .ok (.arraylength, 1) := by decide +kernel
theorem dX2_move_17 : decode cX2_move 17 = .ok (.if_icmp .ge 28, 3) := by decide +kernel
theorem dX2_move_20 : decode cX2_move 20 = .ok (.aload_n 0, 1) := by decide +kernel
theorem dX2_move_21 : decode cX2_move 21 = .ok (.getfield 27, 3) := by decide +kernel
theorem dX2_move_24 : decode cX2_move 24 = .ok (.iload 6, 2) := by decide +kernel
theorem dX2_move_26 : decode cX2_move 26 = .ok (.aload_n 0, 1) := by decide +kernel
theorem dX2_move_27 : decode cX2_move 27 = .ok (.getfield 24, 3) := by decide +kernel
theorem dX2_move_30 : decode cX2_move 30 = .ok (.iload_n 1, 1) := by decide +kernel
theorem dX2_move_31 : decode cX2_move 31 = .ok (.iload_n 2, 1) := by decide +kernel
theorem dX2_move_32 : decode cX2_move 32 = .ok (.iload 6, 2) := by decide +kernel
theorem dX2_move_34 : decode cX2_move 34 = .ok (.iadd, 1) := by decide +kernel
theorem dX2_move_35 : decode cX2_move 35 = .ok (.invokevirtual 34, 3) := by decide +kernel
theorem dX2_move_38 : decode cX2_move 38 = .ok (.iastore, 1) := by decide +kernel
theorem dX2_move_39 : decode cX2_move 39 = .ok (.iinc 6 1, 3) := by decide +kernel
theorem dX2_move_42 : decode cX2_move 42 = .ok (.goto (-39), 3) := by decide +kernel
theorem dX2_move_45 : decode cX2_move 45 = .ok (.iconst 0, 1) := by decide +kernel
theorem dX2_move_46 : decode cX2_move 46 = .ok (.istore 6, 2) := by decide +kernel
theorem dX2_move_48 : decode cX2_move 48 = .ok (.iload 6, 2) := by decide +kernel
theorem dX2_move_50 : decode cX2_move 50 = .ok (.iload 5, 2) := by decide +kernel
theorem dX2_move_52 : decode cX2_move 52 = .ok (.if_icmp .ge 39, 3) := by decide +kernel
theorem dX2_move_55 : decode cX2_move 55 = .ok (.iload 6, 2) := by decide +kernel
theorem dX2_move_57 : decode cX2_move 57 = .ok (.aload_n 0, 1) := by decide +kernel
theorem dX2_move_58 : decode cX2_move 58 = .ok (.getfield 27, 3) := by decide +kernel
theorem dX2_move_61 : decode cX2_move 61 = .ok (.arraylength, 1) := by decide +kernel
theorem dX2_move_62 : decode cX2_move 62 = .ok (.if_icmp .ge 29, 3) := by decide +kernel
theorem dX2_move_65 : decode cX2_move 65 = .ok (.aload_n 0, 1) := by decide +kernel
theorem dX2_move_66 : decode cX2_move 66 = .ok (.getfield 24, 3) := by decide +kernel
theorem dX2_move_69 : decode cX2_move 69 = .ok (.iload_n 3, 1) := by decide +kernel
theorem dX2_move_70 : decode cX2_move 70 = .ok (.iload 4, 2) := by decide +kernel
theorem dX2_move_72 : decode cX2_move 72 = .ok (.iload 6, 2) := by decide +kernel
theorem dX2_move_74 : decode cX2_move 74 = .ok (.iadd, 1) := by decide +kernel
theorem dX2_move_75 : decode cX2_move 75 = .ok (.aload_n 0, 1) := by decide +kernel
theorem dX2_move_76 : decode cX2_move 76 = .ok (.getfield 27, 3) := by decide +kernel
theorem dX2_move_79 : decode cX2_move 79 = .ok (.iload 6, 2) := by decide +kernel
theorem dX2_move_81 : decode cX2_move 81 = .ok (.iaload, 1) := by decide +kernel
theorem dX2_move_82 : decode cX2_move 82 = .ok (.invokevirtual 52, 3) := by decide +kernel
theorem dX2_move_85 : decode cX2_move 85 = .ok (.iinc 6 1, 3) := by decide +kernel
theorem dX2_move_88 : decode cX2_move 88 = .ok (.goto (-40), 3) := by decide +kernel
theorem dX2_move_91 : decode cX2_move 91 = .ok (.return_, 1) := by decide +kernel
theorem dX3_reached_0 : decode cX3_reached 0 = .ok (.bipush 6, 2) := by decide +kernel
theorem dX3_reached_2 : decode cX3_reached 2 = .ok (.newarray .int, 2) := by decide +kernel
theorem dX3_reached_4 : decode cX3_reached 4 = .ok (.astore_n 3, 1) := by decide +kernel
theorem dX3_reached_5 : decode cX3_reached 5 = .ok (.iconst 0, 1) := by decide +kernel
theorem dX3_reached_6 : decode cX3_reached 6 = .ok (.istore 4, 2) := by decide +kernel
theorem dX3_reached_8 : decode cX3_reached 8 = .ok (.iload 4, 2) := by decide +kernel
theorem dX3_reached_10 : decode cX3_reached 10 = .ok (.aload_n 3, 1) := by decide +kernel
theorem dX3_reached_11 : decode cX3_reached 11 = .ok (.arraylength, 1) := by decide +kernel
theorem dX3_reached_12 : decode cX3_reached 12 = .ok (.if_icmp .ge 25, 3) := by decide +kernel
theorem dX3_reached_15 : decode cX3_reached 15 = .ok (.aload_n 3, 1) := by decide +kernel
theorem dX3_reached_16 : decode cX3_reached 16 = .ok (.iload 4, 2) := by decide +kernel
theorem dX3_reached_18 : decode cX3_reached 18 = .ok (.iload 4, 2) := by decide +kernel
theorem dX3_reached_20 : decode cX3_reached 20 = .ok (.iload_n 1, 1) := by decide +kernel
theorem dX3_reached_21 : decode cX3_reached 21 = .ok (.if_icmp .ne 7, 3) := by decide +kernel
theorem dX3_reached_24 : decode cX3_reached 24 = .ok (.iconst 0, 1) := by decide +kernel
theorem dX3_reached_25 : decode cX3_reached 25 = .ok (.goto 5, 3) := by decide +kernel
theorem dX3_reached_28 : decode cX3_reached 28 = .ok (.ldc 11, 2) := by decide +kernel
theorem dX3_reached_30 : decode cX3_reached 30 = .ok (.iastore, 1) := by decide +kernel
theorem dX3_reached_31 : decode cX3_reached 31 = .ok (.iinc 4 1, 3) := by decide +kernel
theorem dX3_reached_34 : decode cX3_reached 34 = .ok (.goto (-26), 3) := by decide +kernel
theorem dX3_reached_37 : decode cX3_reached 37 = .ok (.iconst 1, 1) := by decide +kernel
theorem dX3_reached_38 : decode cX3_reached 38 = .ok (.istore 4, 2) := by decide +kernel
theorem dX3_reached_40 : decode cX3_reached 40 = .ok (.iload 4, 2) := by decide +kernel
theorem dX3_reached_42 : decode cX3_reached 42 = .ok (.bipush 6, 2) := by decide +kernel
theorem dX3_reached_44 : decode cX3_reached 44 = .ok (.if_icmp .ge 14, 3) := by decide +kernel
theorem dX3_reached_47 : decode cX3_reached 47 = .ok (.aload_n 0, 1) := by decide +kernel
theorem dX3_reached_48 : decode cX3_reached 48 = .ok (.aload_n 3, 1) := by decide +kernel
theorem dX3_reached_49 : decode cX3_reached 49 = .ok (.invokestatic 12, 3) := by decide +kernel
theorem dX3_reached_52 : decode cX3_reached 52 = .ok (.iinc 4 1, 3) := by decide +kernel
theorem dX3_reached_55 : decode cX3_reached 55 = .ok (.goto (-15), 3) := by decide +kernel
theorem dX3_reached_58 : decode cX3_reached 58 = .ok (.iconst 0, 1) := by decide +kernel
theorem dX3_reached_59 : decode cX3_reached 59 = .ok (.istore 4, 2) := by decide +kernel
theorem dX3_reached_61 : decode cX3_reached 61 = .ok (.iconst 0, 1) := by decide +kernel
theorem dX3_reached_62 : decode cX3_reached 62 = .ok (.istore 5, 2) := by decide +kernel
theorem dX3_reached_64 : decode cX3_reached 64 = .ok (.iload 5, 2) := by decide +kernel
theorem dX3_reached_66 : decode cX3_reached 66 = .ok (.aload_n 3, 1) := by decide +kernel
theorem dX3_reached_67 : decode cX3_reached 67 = .ok (.arraylength, 1) := by decide +kernel
theorem dX3_reached_68 : decode cX3_reached 68 = .ok (.if_icmp .ge 26, 3) := by decide +kernel
theorem dX3_reached_71 : decode cX3_reached 71 = .ok (.aload_n 3, 1) := by decide +kernel
theorem dX3_reached_72 : decode cX3_reached 72 = .ok (.iload 5, 2) := by decide +kernel
theorem dX3_reached_74 : decode cX3_reached 74 = .ok (.iaload, 1) := by decide +kernel
theorem dX3_reached_75 : decode cX3_reached 75 = .ok (.iload_n 2, 1) := by decide +kernel
theorem dX3_reached_76 : decode cX3_reached 76 = .ok (.if_icmp .gt 12, 3) := by decide +kernel
theorem dX3_reached_79 : decode cX3_reached 79 = .ok (.iload 4, 2) := by decide +kernel
theorem dX3_reached_81 : decode cX3_reached 81 = .ok (.iconst 1, 1) := by decide +kernel
theorem dX3_reached_82 : decode cX3_reached 82 = .ok (.iload 5, 2) := by decide +kernel
theorem dX3_reached_84 : decode cX3_reached 84 = .ok (.ishl, 1) := by decide +kernel
theorem dX3_reached_85 : decode cX3_reached 85 = .ok (.ior, 1) := by decide +kernel
theorem dX3_reached_86 : decode cX3_reached 86 = .ok (.istore 4, 2) := by decide +kernel
theorem dX3_reached_88 : decode cX3_reached 88 = .ok (.iinc 5 1, 3) := by decide +kernel
theorem dX3_reached_91 : decode cX3_reached 91 = .ok (.goto (-27), 3) := by decide +kernel
theorem dX3_reached_94 : decode cX3_reached 94 = .ok (.iload 4, 2) := by decide +kernel
theorem dX3_reached_96 : decode cX3_reached 96 = .ok (.ireturn, 1) := by decide +kernel
theorem dX3_shorten_0 : decode cX3_shorten 0 = .ok (.iconst 0, 1) := by decide +kernel
theorem dX3_shorten_1 : decode cX3_shorten 1 = .ok (.istore_n 2, 1) := by decide +kernel
theorem dX3_shorten_2 : decode cX3_shorten 2 = .ok (.iload_n 2, 1) := by decide +kernel
theorem dX3_shorten_3 : decode cX3_shorten 3 = .ok (.aload_n 1, 1) := by decide +kernel
theorem dX3_shorten_4 : decode cX3_shorten 4 = .ok (.arraylength, 1) := by decide +kernel
theorem dX3_shorten_5 : decode cX3_shorten 5 = .ok (.if_icmp .ge 57, 3) := by decide +kernel
theorem dX3_shorten_8 : decode cX3_shorten 8 = .ok (.iconst 0, 1) := by decide +kernel
theorem dX3_shorten_9 : decode cX3_shorten 9 = .ok (.istore_n 3, 1) := by decide +kernel
theorem dX3_shorten_10 : decode cX3_shorten 10 = .ok (.iload_n 3, 1) := by decide +kernel
theorem dX3_shorten_11 : decode cX3_shorten 11 = .ok (.aload_n 1, 1) := by decide +kernel
theorem dX3_shorten_12 : decode cX3_shorten 12 = .ok (.arraylength, 1) := by decide +kernel
theorem dX3_shorten_13 : decode cX3_shorten 13 = .ok (.if_icmp .ge 43, 3) := by decide +kernel
theorem dX3_shorten_16 : decode cX3_shorten 16 = .ok (.aload_n 0, 1) := by decide +kernel
theorem dX3_shorten_17 : decode cX3_shorten 17 = .ok (.iload_n 2, 1) := by decide +kernel
theorem dX3_shorten_18 : decode cX3_shorten 18 = .ok (.iload_n 3, 1) := by decide +kernel
theorem dX3_shorten_19 : decode cX3_shorten 19 = .ok (.invokevirtual 16, 3) := by decide +kernel
theorem dX3_shorten_22 : decode cX3_shorten 22 = .ok (.istore 4, 2) := by decide +kernel
theorem dX3_shorten_24 : decode cX3_shorten 24 = .ok (.iload 4, 2) := by decide +kernel
theorem dX3_shorten_26 : decode cX3_shorten 26 = .ok (.ifCond .le 24, 3) := by decide +kernel
theorem dX3_shorten_29 : decode cX3_shorten 29 = .ok (.aload_n 1, 1) := by decide +kernel
theorem dX3_shorten_30 : decode cX3_shorten 30 = .ok (.iload_n 2, 1) := by decide +kernel
theorem dX3_shorten_31 : decode cX3_shorten 31 = .ok (.iaload, 1) := by decide +kernel
theorem dX3_shorten_32 : decode cX3_shorten 32 = .ok (.iload 4, 2) := by decide +kernel
theorem dX3_shorten_34 : decode cX3_shorten 34 = .ok (.iadd, 1) := by decide +kernel
theorem dX3_shorten_35 : decode cX3_shorten 35 = .ok (.aload_n 1, 1) := by decide +kernel
theorem dX3_shorten_36 : decode cX3_shorten 36 = .ok (.iload_n 3, 1) := by decide +kernel
theorem dX3_shorten_37 : decode cX3_shorten 37 = .ok (.iaload, 1) := by decide +kernel
theorem dX3_shorten_38 : decode cX3_shorten 38 = .ok (.if_icmp .ge 12, 3) := by decide +kernel
theorem dX3_shorten_41 : decode cX3_shorten 41 = .ok (.aload_n 1, 1) := by decide +kernel
theorem dX3_shorten_42 : decode cX3_shorten 42 = .ok (.iload_n 3, 1) := by decide +kernel
theorem dX3_shorten_43 : decode cX3_shorten 43 = .ok (.aload_n 1, 1) := by decide +kernel
theorem dX3_shorten_44 : decode cX3_shorten 44 = .ok (.iload_n 2, 1) := by decide +kernel
theorem dX3_shorten_45 : decode cX3_shorten 45 = .ok (.iaload, 1) := by decide +kernel
theorem dX3_shorten_46 : decode cX3_shorten 46 = .ok (.iload 4, 2) := by decide +kernel
theorem dX3_shorten_48 : decode cX3_shorten 48 = .ok (.iadd, 1) := by decide +kernel
theorem dX3_shorten_49 : decode cX3_shorten 49 = .ok (.iastore, 1) := by decide +kernel
theorem dX3_shorten_50 : decode cX3_shorten 50 = .ok (.iinc 3 1, 3) := by decide +kernel
theorem dX3_shorten_53 : decode cX3_shorten 53 = .ok (.goto (-43), 3) := by decide +kernel
theorem dX3_shorten_56 : decode cX3_shorten 56 = .ok (.iinc 2 1, 3) := by decide +kernel
theorem dX3_shorten_59 : decode cX3_shorten 59 = .ok (.goto (-57), 3) := by decide +kernel
theorem dX3_shorten_62 : decode cX3_shorten 62 = .ok (.return_, 1) := by decide +kernel
theorem dX3_meanLashes_0 : decode cX3_meanLashes 0 = .ok (.iconst 0, 1) := by decide +kernel
theorem dX3_meanLashes_1 : decode cX3_meanLashes 1 = .ok (.istore 4, 2) := by decide +kernel
theorem dX3_meanLashes_3 : decode cX3_meanLashes 3 = .ok (.iconst 0, 1) := by decide +kernel
theorem dX3_meanLashes_4 : decode cX3_meanLashes 4 = .ok (.istore 5, 2) := by decide +kernel
theorem dX3_meanLashes_6 : decode cX3_meanLashes 6 = .ok (.iconst 0, 1) := by decide +kernel
theorem dX3_meanLashes_7 : decode cX3_meanLashes 7 = .ok (.istore 6, 2) := by decide +kernel
theorem dX3_meanLashes_9 : decode cX3_meanLashes 9 = .ok (.iload 6, 2) := by decide +kernel
theorem dX3_meanLashes_11 : decode cX3_meanLashes 11 = .ok (.aload_n 0, 1) := by decide +kernel
theorem dX3_meanLashes_12 : decode cX3_meanLashes 12 = .ok (.getfield 22, 3) := by decide +kernel
theorem dX3_meanLashes_15 : decode cX3_meanLashes 15 = .ok (.if_icmp .ge 59, 3) := by decide +kernel
theorem dX3_meanLashes_18 : decode cX3_meanLashes 18 = .ok (.aload_n 0, 1) := by decide +kernel
theorem dX3_meanLashes_19 : decode cX3_meanLashes 19 = .ok (.iload 6, 2) := by decide +kernel
theorem dX3_meanLashes_21 : decode cX3_meanLashes 21 = .ok (.iconst 0, 1) := by decide +kernel
theorem dX3_meanLashes_22 : decode cX3_meanLashes 22 = .ok (.invokevirtual 16, 3) := by decide +kernel
theorem dX3_meanLashes_25 : decode cX3_meanLashes 25 = .ok (.iload_n 1, 1) := by decide +kernel
theorem dX3_meanLashes_26 : decode cX3_meanLashes 26 = .ok (.if_icmp .ne 7, 3) := by decide +kernel
theorem dX3_meanLashes_29 : decode cX3_meanLashes 29 = .ok (.iconst 1, 1) := by decide +kernel
theorem dX3_meanLashes_30 : decode cX3_meanLashes 30 = .ok (.goto 4, 3) := by decide +kernel
theorem dX3_meanLashes_33 : decode cX3_meanLashes 33 = .ok (.iconst 0, 1) := by decide +kernel
theorem dX3_meanLashes_34 : decode cX3_meanLashes 34 = .ok (.istore 7, 2) := by decide +kernel
theorem dX3_meanLashes_36 : decode cX3_meanLashes 36 = .ok (.iload 7, 2) := by decide +kernel
theorem dX3_meanLashes_38 : decode cX3_meanLashes 38 = .ok (.iload_n 3, 1) := by decide +kernel
theorem dX3_meanLashes_39 : decode cX3_meanLashes 39 = .ok (.if_icmp .ne 29, 3) := by decide +kernel
theorem dX3_meanLashes_42 : decode cX3_meanLashes 42 = .ok (.aload_n 0, 1) := by decide +kernel
theorem dX3_meanLashes_43 : decode cX3_meanLashes 43 = .ok (.iload 6, 2) := by decide +kernel
theorem dX3_meanLashes_45 : decode cX3_meanLashes 45 = .ok (.iconst 1, 1) := by decide +kernel
theorem dX3_meanLashes_46 : decode cX3_meanLashes 46 = .ok (.invokevirtual 16, 3) := by decide +kernel
theorem dX3_meanLashes_49 : decode cX3_meanLashes 49 = .ok (.iload_n 2, 1) := by decide +kernel
theorem dX3_meanLashes_50 : decode cX3_meanLashes 50 = .ok (.if_icmp .ne 18, 3) := by decide +kernel
theorem dX3_meanLashes_53 : decode cX3_meanLashes 53 = .ok (.iload 4, 2) := by decide +kernel
theorem dX3_meanLashes_55 : decode cX3_meanLashes 55 = .ok (.aload_n 0, 1) := by decide +kernel
theorem dX3_meanLashes_56 : decode cX3_meanLashes 56 = .ok (.iload 6, 2) := by decide +kernel
theorem dX3_meanLashes_58 : decode cX3_meanLashes 58 = .ok (.iconst 2, 1) := by decide +kernel
theorem dX3_meanLashes_59 : decode cX3_meanLashes 59 = .ok (.invokevirtual 16, 3) := by decide +kernel
theorem dX3_meanLashes_62 : decode cX3_meanLashes 62 = .ok (.iadd, 1) := by decide +kernel
theorem dX3_meanLashes_63 : decode cX3_meanLashes 63 = .ok (.istore 4, 2) := by decide +kernel
theorem dX3_meanLashes_65 : decode cX3_meanLashes 65 = .ok (.iinc 5 1, 3) := by decide +kernel
theorem dX3_meanLashes_68 : decode cX3_meanLashes 68 = .ok (.iinc 6 1, 3) := by decide +kernel
theorem dX3_meanLashes_71 : decode cX3_meanLashes 71 = .ok (.goto (-62), 3) := by decide +kernel
theorem dX3_meanLashes_74 : decode cX3_meanLashes 74 = .ok (.iload 5, 2) := by decide +kernel
theorem dX3_meanLashes_76 : decode cX3_meanLashes 76 = .ok (.ifCond .ne 8, 3) := by decide +kernel
theorem dX3_meanLashes_79 : decode cX3_meanLashes 79 = .ok (.ldc 26, 2) := by decide +kernel
theorem dX3_meanLashes_81 : decode cX3_meanLashes 81 = .ok (.goto 8, 3) := by decide +kernel
theorem dX3_meanLashes_84 : decode cX3_meanLashes 84 = .ok (.iload 4, 2) := by decide +kernel
theorem dX3_meanLashes_86 : decode cX3_meanLashes 86 = .ok (.iload 5, 2) := by decide +kernel
theorem dX3_meanLashes_88 : decode cX3_meanLashes 88 = .ok (.idiv, 1) := by decide +kernel
theorem dX3_meanLashes_89 : decode cX3_meanLashes 89 = .ok (.ireturn, 1) := by decide +kernel
theorem dX3_harshJudges_0 : decode cX3_harshJudges 0 = .ok (.iconst 0, 1) := by decide +kernel
theorem dX3_harshJudges_1 : decode cX3_harshJudges 1 = .ok (.istore_n 2, 1) := by decide +kernel
theorem dX3_harshJudges_2 : decode cX3_harshJudges 2 = .ok (.iconst 0, 1) := by decide +kernel
theorem dX3_harshJudges_3 : decode cX3_harshJudges 3 = .ok (.istore_n 3, 1) := by decide +kernel
theorem dX3_harshJudges_4 : decode cX3_harshJudges 4 = .ok (.iload_n 3, 1) := by decide +kernel
theorem dX3_harshJudges_5 : decode cX3_harshJudges 5 = .ok (.iconst 4, 1) := by decide +kernel
theorem dX3_harshJudges_6 : decode cX3_harshJudges 6 = .ok (.if_icmp .ge 56, 3) := by decide +kernel
theorem dX3_harshJudges_9 : decode cX3_harshJudges 9 = .ok (.aload_n 0, 1) := by decide +kernel
theorem dX3_harshJudges_10 : decode cX3_harshJudges 10 = .ok (.iload_n 3, 1) := by decide +kernel
theorem dX3_harshJudges_11 : decode cX3_harshJudges 11 = .ok (.iload_n 1, 1) := by decide +kernel
theorem dX3_harshJudges_12 : decode cX3_harshJudges 12 = .ok (.iconst 1, 1) := by decide +kernel
theorem dX3_harshJudges_13 : decode cX3_harshJudges 13 = .ok (.invokestatic 27, 3) := by decide +kernel
theorem dX3_harshJudges_16 : decode cX3_harshJudges 16 = .ok (.istore 4, 2) := by decide +kernel
theorem dX3_harshJudges_18 : decode cX3_harshJudges 18 = .ok (.aload_n 0, 1) := by decide +kernel
theorem dX3_harshJudges_19 : decode cX3_harshJudges 19 = .ok (.iload_n 3, 1) := by decide +kernel
theorem dX3_harshJudges_20 : decode cX3_harshJudges 20 = .ok (.iload_n 1, 1) := by decide +kernel
theorem dX3_harshJudges_21 : decode cX3_harshJudges 21 = .ok (.iconst 0, 1) := by decide +kernel
theorem dX3_harshJudges_22 : decode cX3_harshJudges 22 = .ok (.invokestatic 27, 3) := by decide +kernel
theorem dX3_harshJudges_25 : decode cX3_harshJudges 25 = .ok (.istore 5, 2) := by decide +kernel
theorem dX3_harshJudges_27 : decode cX3_harshJudges 27 = .ok (.iload 4, 2) := by decide +kernel
theorem dX3_harshJudges_29 : decode cX3_harshJudges 29 = .ok (.ldc 26, 2) := by decide +kernel
theorem dX3_harshJudges_31 : decode cX3_harshJudges 31 = .ok (.if_icmp .eq 25, 3) := by decide +kernel
theorem dX3_harshJudges_34 : decode cX3_harshJudges 34 = .ok (.iload 5, 2) := by decide +kernel
theorem dX3_harshJudges_36 : decode cX3_harshJudges 36 = .ok (.ldc 26, 2) := by decide +kernel
theorem dX3_harshJudges_38 : decode cX3_harshJudges 38 = .ok (.if_icmp .eq 18, 3) := by decide +kernel
theorem dX3_harshJudges_41 : decode cX3_harshJudges 41 = .ok (.iload 4, 2) := by decide +kernel
theorem dX3_harshJudges_43 : decode cX3_harshJudges 43 = .ok (.iconst 2, 1) := by decide +kernel
theorem dX3_harshJudges_44 : decode cX3_harshJudges 44 = .ok (.iload 5, 2) := by decide +kernel
theorem dX3_harshJudges_46 : decode cX3_harshJudges 46 = .ok (.imul, 1) := by decide +kernel
theorem dX3_harshJudges_47 : decode cX3_harshJudges 47 = .ok (.if_icmp .le 9, 3) := by decide +kernel
theorem dX3_harshJudges_50 : decode cX3_harshJudges 50 = .ok (.iload_n 2, 1) := by decide +kernel
theorem dX3_harshJudges_51 : decode cX3_harshJudges 51 = .ok (.iconst 1, 1) := by decide +kernel
theorem dX3_harshJudges_52 : decode cX3_harshJudges 52 = .ok (.iload_n 3, 1) := by decide +kernel
theorem dX3_harshJudges_53 : decode cX3_harshJudges 53 = .ok (.ishl, 1) := by decide +kernel
theorem dX3_harshJudges_54 : decode cX3_harshJudges 54 = .ok (.ior, 1) := by decide +kernel
theorem dX3_harshJudges_55 : decode cX3_harshJudges 55 = .ok (.istore_n 2, 1) := by decide +kernel
theorem dX3_harshJudges_56 : decode cX3_harshJudges 56 = .ok (.iinc 3 1, 3) := by decide +kernel
theorem dX3_harshJudges_59 : decode cX3_harshJudges 59 = .ok (.goto (-55), 3) := by decide +kernel
theorem dX3_harshJudges_62 : decode cX3_harshJudges 62 = .ok (.iload_n 2, 1) := by decide +kernel
theorem dX3_harshJudges_63 : decode cX3_harshJudges 63 = .ok (.ireturn, 1) := by decide +kernel
theorem dX3_carryingSet_0 : decode cX3_carryingSet 0 = .ok (.ldc 26, 2) := by decide +kernel
theorem dX3_carryingSet_2 : decode cX3_carryingSet 2 = .ok (.istore_n 2, 1) := by decide +kernel
theorem dX3_carryingSet_3 : decode cX3_carryingSet 3 = .ok (.bipush 9, 2) := by decide +kernel
theorem dX3_carryingSet_5 : decode cX3_carryingSet 5 = .ok (.istore_n 3, 1) := by decide +kernel
theorem dX3_carryingSet_6 : decode cX3_carryingSet 6 = .ok (.iconst 0, 1) := by decide +kernel
theorem dX3_carryingSet_7 : decode cX3_carryingSet 7 = .ok (.istore 4, 2) := by decide +kernel
theorem dX3_carryingSet_9 : decode cX3_carryingSet 9 = .ok (.iload 4, 2) := by decide +kernel
theorem dX3_carryingSet_11 : decode cX3_carryingSet 11 = .ok (.sipush 255, 3) := by decide +kernel
theorem dX3_carryingSet_14 : decode cX3_carryingSet 14 = .ok (.if_icmp .gt 38, 3) := by decide +kernel
theorem dX3_carryingSet_17 : decode cX3_carryingSet 17 = .ok (.iload 4, 2) := by decide +kernel
theorem dX3_carryingSet_19 : decode cX3_carryingSet 19 = .ok (.invokestatic 31, 3) := by decide +kernel
theorem dX3_carryingSet_22 : decode cX3_carryingSet 22 = .ok (.istore 5, 2) := by decide +kernel
theorem dX3_carryingSet_24 : decode cX3_carryingSet 24 = .ok (.iload 5, 2) := by decide +kernel
theorem dX3_carryingSet_26 : decode cX3_carryingSet 26 = .ok (.iload_n 3, 1) := by decide +kernel
theorem dX3_carryingSet_27 : decode cX3_carryingSet 27 = .ok (.if_icmp .ge 19, 3) := by decide +kernel
theorem dX3_carryingSet_30 : decode cX3_carryingSet 30 = .ok (.aload_n 0, 1) := by decide +kernel
theorem dX3_carryingSet_31 : decode cX3_carryingSet 31 = .ok (.iload 4, 2) := by decide +kernel
theorem dX3_carryingSet_33 : decode cX3_carryingSet 33 = .ok (.invokestatic 37, 3) := by decide +kernel
theorem dX3_carryingSet_36 : decode cX3_carryingSet 36 = .ok (.iload_n 1, 1) := by decide +kernel
theorem dX3_carryingSet_37 : decode cX3_carryingSet 37 = .ok (.if_icmp .lt 9, 3) := by decide +kernel
theorem dX3_carryingSet_40 : decode cX3_carryingSet 40 = .ok (.iload 4, 2) := by decide +kernel
theorem dX3_carryingSet_42 : decode cX3_carryingSet 42 = .ok (.istore_n 2, 1) := by decide +kernel
theorem dX3_carryingSet_43 : decode cX3_carryingSet 43 = .ok (.iload 5, 2) := by decide +kernel
theorem dX3_carryingSet_45 : decode cX3_carryingSet 45 = .ok (.istore_n 3, 1) := by decide +kernel
theorem dX3_carryingSet_46 : decode cX3_carryingSet 46 = .ok (.iinc 4 1, 3) := by decide +kernel
theorem dX3_carryingSet_49 : decode cX3_carryingSet 49 = .ok (.goto (-40), 3) := by decide +kernel
theorem dX3_carryingSet_52 : decode cX3_carryingSet 52 = .ok (.iload_n 2, 1) := by decide +kernel
theorem dX3_carryingSet_53 : decode cX3_carryingSet 53 = .ok (.ireturn, 1) := by decide +kernel
theorem dX3_yesVotes_0 : decode cX3_yesVotes 0 = .ok (.iconst 0, 1) := by decide +kernel
theorem dX3_yesVotes_1 : decode cX3_yesVotes 1 = .ok (.istore_n 2, 1) := by decide +kernel
theorem dX3_yesVotes_2 : decode cX3_yesVotes 2 = .ok (.iconst 0, 1) := by decide +kernel
theorem dX3_yesVotes_3 : decode cX3_yesVotes 3 = .ok (.istore_n 3, 1) := by decide +kernel
theorem dX3_yesVotes_4 : decode cX3_yesVotes 4 = .ok (.iload_n 3, 1) := by decide +kernel
theorem dX3_yesVotes_5 : decode cX3_yesVotes 5 = .ok (.bipush 7, 2) := by decide +kernel
theorem dX3_yesVotes_7 : decode cX3_yesVotes 7 = .ok (.if_icmp .ge 58, 3) := by decide +kernel
theorem dX3_yesVotes_10 : decode cX3_yesVotes 10 = .ok (.aload_n 0, 1) := by decide +kernel
theorem dX3_yesVotes_11 : decode cX3_yesVotes 11 = .ok (.iload_n 3, 1) := by decide +kernel
theorem dX3_yesVotes_12 : decode cX3_yesVotes 12 = .ok (.iconst 1, 1) := by decide +kernel
theorem dX3_yesVotes_13 : decode cX3_yesVotes 13 = .ok (.invokevirtual 16, 3) := by decide +kernel
theorem dX3_yesVotes_16 : decode cX3_yesVotes 16 = .ok (.istore 4, 2) := by decide +kernel
theorem dX3_yesVotes_18 : decode cX3_yesVotes 18 = .ok (.iload 4, 2) := by decide +kernel
theorem dX3_yesVotes_20 : decode cX3_yesVotes 20 = .ok (.iload_n 1, 1) := by decide +kernel
theorem dX3_yesVotes_21 : decode cX3_yesVotes 21 = .ok (.iand, 1) := by decide +kernel
theorem dX3_yesVotes_22 : decode cX3_yesVotes 22 = .ok (.iload 4, 2) := by decide +kernel
theorem dX3_yesVotes_24 : decode cX3_yesVotes 24 = .ok (.if_icmp .ne 18, 3) := by decide +kernel
theorem dX3_yesVotes_27 : decode cX3_yesVotes 27 = .ok (.aload_n 0, 1) := by decide +kernel
theorem dX3_yesVotes_28 : decode cX3_yesVotes 28 = .ok (.iload_n 3, 1) := by decide +kernel
theorem dX3_yesVotes_29 : decode cX3_yesVotes 29 = .ok (.iconst 2, 1) := by decide +kernel
theorem dX3_yesVotes_30 : decode cX3_yesVotes 30 = .ok (.invokevirtual 16, 3) := by decide +kernel
theorem dX3_yesVotes_33 : decode cX3_yesVotes 33 = .ok (.iload_n 1, 1) := by decide +kernel
theorem dX3_yesVotes_34 : decode cX3_yesVotes 34 = .ok (.iand, 1) := by decide +kernel
theorem dX3_yesVotes_35 : decode cX3_yesVotes 35 = .ok (.ifCond .ne 7, 3) := by decide +kernel
theorem dX3_yesVotes_38 : decode cX3_yesVotes 38 = .ok (.iconst 1, 1) := by decide +kernel
theorem dX3_yesVotes_39 : decode cX3_yesVotes 39 = .ok (.goto 4, 3) := by decide +kernel
theorem dX3_yesVotes_42 : decode cX3_yesVotes 42 = .ok (.iconst 0, 1) := by decide +kernel
theorem dX3_yesVotes_43 : decode cX3_yesVotes 43 = .ok (.istore 5, 2) := by decide +kernel
theorem dX3_yesVotes_45 : decode cX3_yesVotes 45 = .ok (.iload 5, 2) := by decide +kernel
theorem dX3_yesVotes_47 : decode cX3_yesVotes 47 = .ok (.ifCond .eq 12, 3) := by decide +kernel
theorem dX3_yesVotes_50 : decode cX3_yesVotes 50 = .ok (.iload_n 2, 1) := by decide +kernel
theorem dX3_yesVotes_51 : decode cX3_yesVotes 51 = .ok (.aload_n 0, 1) := by decide +kernel
theorem dX3_yesVotes_52 : decode cX3_yesVotes 52 = .ok (.iload_n 3, 1) := by decide +kernel
theorem dX3_yesVotes_53 : decode cX3_yesVotes 53 = .ok (.iconst 0, 1) := by decide +kernel
theorem dX3_yesVotes_54 : decode cX3_yesVotes 54 = .ok (.invokevirtual 16, 3) := by decide +kernel
theorem dX3_yesVotes_57 : decode cX3_yesVotes 57 = .ok (.iadd, 1) := by decide +kernel
theorem dX3_yesVotes_58 : decode cX3_yesVotes 58 = .ok (.istore_n 2, 1) := by decide +kernel
theorem dX3_yesVotes_59 : decode cX3_yesVotes 59 = .ok (.iinc 3 1, 3) := by decide +kernel
theorem dX3_yesVotes_62 : decode cX3_yesVotes 62 = .ok (.goto (-58), 3) := by decide +kernel
theorem dX3_yesVotes_65 : decode cX3_yesVotes 65 = .ok (.iload_n 2, 1) := by decide +kernel
theorem dX3_yesVotes_66 : decode cX3_yesVotes 66 = .ok (.ireturn, 1) := by decide +kernel
theorem dX3_bestPlan_0 : decode cX3_bestPlan 0 = .ok (.iconst 1, 1) := by decide +kernel
theorem dX3_bestPlan_1 : decode cX3_bestPlan 1 = .ok (.istore_n 3, 1) := by decide +kernel
theorem dX3_bestPlan_2 : decode cX3_bestPlan 2 = .ok (.iconst 0, 1) := by decide +kernel
theorem dX3_bestPlan_3 : decode cX3_bestPlan 3 = .ok (.istore 4, 2) := by decide +kernel
theorem dX3_bestPlan_5 : decode cX3_bestPlan 5 = .ok (.iload 4, 2) := by decide +kernel
theorem dX3_bestPlan_7 : decode cX3_bestPlan 7 = .ok (.iload_n 1, 1) := by decide +kernel
theorem dX3_bestPlan_8 : decode cX3_bestPlan 8 = .ok (.if_icmp .ge 13, 3) := by decide +kernel
theorem dX3_bestPlan_11 : decode cX3_bestPlan 11 = .ok (.iload_n 3, 1) := by decide +kernel
theorem dX3_bestPlan_12 : decode cX3_bestPlan 12 = .ok (.iconst 3, 1) := by decide +kernel
theorem dX3_bestPlan_13 : decode cX3_bestPlan 13 = .ok (.imul, 1) := by decide +kernel
theorem dX3_bestPlan_14 : decode cX3_bestPlan 14 = .ok (.istore_n 3, 1) := by decide +kernel
theorem dX3_bestPlan_15 : decode cX3_bestPlan 15 = .ok (.iinc 4 1, 3) := by decide +kernel
theorem dX3_bestPlan_18 : decode cX3_bestPlan 18 = .ok (.goto (-13), 3) := by decide +kernel
theorem dX3_bestPlan_21 : decode cX3_bestPlan 21 = .ok (.ldc 26, 2) := by decide +kernel
theorem dX3_bestPlan_23 : decode cX3_bestPlan 23 = .ok (.istore 4, 2) := by decide +kernel
theorem dX3_bestPlan_25 : decode cX3_bestPlan 25 = .ok (.ldc 11, 2) := by decide +kernel
theorem dX3_bestPlan_27 : decode cX3_bestPlan 27 = .ok (.istore 5, 2) := by decide +kernel
theorem dX3_bestPlan_29 : decode cX3_bestPlan 29 = .ok (.iconst 0, 1) := by decide +kernel
theorem dX3_bestPlan_30 : decode cX3_bestPlan 30 = .ok (.istore 6, 2) := by decide +kernel
theorem dX3_bestPlan_32 : decode cX3_bestPlan 32 = .ok (.iload 6, 2) := by decide +kernel
theorem dX3_bestPlan_34 : decode cX3_bestPlan 34 = .ok (.iload_n 3, 1) := by decide +kernel
theorem dX3_bestPlan_35 : decode cX3_bestPlan 35 = .ok (.if_icmp .ge 46, 3) := by decide +kernel
theorem dX3_bestPlan_38 : decode cX3_bestPlan 38 = .ok (.aload_n 0, 1) := by decide +kernel
theorem dX3_bestPlan_39 : decode cX3_bestPlan 39 = .ok (.iload_n 1, 1) := by decide +kernel
theorem dX3_bestPlan_40 : decode cX3_bestPlan 40 = .ok (.iload 6, 2) := by decide +kernel
theorem dX3_bestPlan_42 : decode cX3_bestPlan 42 = .ok (.iconst 0, 1) := by decide +kernel
theorem dX3_bestPlan_43 : decode cX3_bestPlan 43 = .ok (.invokestatic 41, 3) := by decide +kernel
theorem dX3_bestPlan_46 : decode cX3_bestPlan 46 = .ok (.istore 7, 2) := by decide +kernel
theorem dX3_bestPlan_48 : decode cX3_bestPlan 48 = .ok (.iload 7, 2) := by decide +kernel
theorem dX3_bestPlan_50 : decode cX3_bestPlan 50 = .ok (.iload 5, 2) := by decide +kernel
theorem dX3_bestPlan_52 : decode cX3_bestPlan 52 = .ok (.if_icmp .ge 23, 3) := by decide +kernel
theorem dX3_bestPlan_55 : decode cX3_bestPlan 55 = .ok (.aload_n 0, 1) := by decide +kernel
theorem dX3_bestPlan_56 : decode cX3_bestPlan 56 = .ok (.iload_n 1, 1) := by decide +kernel
theorem dX3_bestPlan_57 : decode cX3_bestPlan 57 = .ok (.iload 6, 2) := by decide +kernel
theorem dX3_bestPlan_59 : decode cX3_bestPlan 59 = .ok (.iconst 1, 1) := by decide +kernel
theorem dX3_bestPlan_60 : decode cX3_bestPlan 60 = .ok (.invokestatic 41, 3) := by decide +kernel
theorem dX3_bestPlan_63 : decode cX3_bestPlan 63 = .ok (.iload_n 2, 1) := by decide +kernel
theorem dX3_bestPlan_64 : decode cX3_bestPlan 64 = .ok (.if_icmp .gt 11, 3) := by decide +kernel
theorem dX3_bestPlan_67 : decode cX3_bestPlan 67 = .ok (.iload 6, 2) := by decide +kernel
theorem dX3_bestPlan_69 : decode cX3_bestPlan 69 = .ok (.istore 4, 2) := by decide +kernel
theorem dX3_bestPlan_71 : decode cX3_bestPlan 71 = .ok (.iload 7, 2) := by decide +kernel
theorem dX3_bestPlan_73 : decode cX3_bestPlan 73 = .ok (.istore 5, 2) := by decide +kernel
theorem dX3_bestPlan_75 : decode cX3_bestPlan 75 = .ok (.iinc 6 1, 3) := by decide +kernel
theorem dX3_bestPlan_78 : decode cX3_bestPlan 78 = .ok (.goto (-46), 3) := by decide +kernel
theorem dX3_bestPlan_81 : decode cX3_bestPlan 81 = .ok (.iload 4, 2) := by decide +kernel
theorem dX3_bestPlan_83 : decode cX3_bestPlan 83 = .ok (.ireturn, 1) := by decide +kernel
theorem dX3_planSum_0 : decode cX3_planSum 0 = .ok (.iconst 0, 1) := by decide +kernel
theorem dX3_planSum_1 : decode cX3_planSum 1 = .ok (.istore 4, 2) := by decide +kernel
theorem dX3_planSum_3 : decode cX3_planSum 3 = .ok (.iload_n 2, 1) := by decide +kernel
theorem dX3_planSum_4 : decode cX3_planSum 4 = .ok (.istore 5, 2) := by decide +kernel
theorem dX3_planSum_6 : decode cX3_planSum 6 = .ok (.iload_n 1, 1) := by decide +kernel
theorem dX3_planSum_7 : decode cX3_planSum 7 = .ok (.iconst 1, 1) := by decide +kernel
theorem dX3_planSum_8 : decode cX3_planSum 8 = .ok (.isub, 1) := by decide +kernel
theorem dX3_planSum_9 : decode cX3_planSum 9 = .ok (.istore 6, 2) := by decide +kernel
theorem dX3_planSum_11 : decode cX3_planSum 11 = .ok (.iload 6, 2) := by decide +kernel
theorem dX3_planSum_13 : decode cX3_planSum 13 = .ok (.ifCond .lt 34, 3) := by decide +kernel
theorem dX3_planSum_16 : decode cX3_planSum 16 = .ok (.iload 4, 2) := by decide +kernel
theorem dX3_planSum_18 : decode cX3_planSum 18 = .ok (.aload_n 0, 1) := by decide +kernel
theorem dX3_planSum_19 : decode cX3_planSum 19 = .ok (.iload 6, 2) := by decide +kernel
theorem dX3_planSum_21 : decode cX3_planSum 21 = .ok (.iload 5, 2) := by decide +kernel
theorem dX3_planSum_23 : decode cX3_planSum 23 = .ok (.iconst 3, 1) := by decide +kernel
theorem dX3_planSum_24 : decode cX3_planSum 24 = .ok (.irem, 1) := by decide +kernel
theorem dX3_planSum_25 : decode cX3_planSum 25 = .ok (.iconst 2, 1) := by decide +kernel
theorem dX3_planSum_26 : decode cX3_planSum 26 = .ok (.imul, 1) := by decide +kernel
theorem dX3_planSum_27 : decode cX3_planSum 27 = .ok (.iload_n 3, 1) := by decide +kernel
theorem dX3_planSum_28 : decode cX3_planSum 28 = .ok (.iadd, 1) := by decide +kernel
theorem dX3_planSum_29 : decode cX3_planSum 29 = .ok (.invokevirtual 16, 3) := by decide +kernel
theorem dX3_planSum_32 : decode cX3_planSum 32 = .ok (.iadd, 1) := by decide +kernel
theorem dX3_planSum_33 : decode cX3_planSum 33 = .ok (.istore 4, 2) := by decide +kernel
theorem dX3_planSum_35 : decode cX3_planSum 35 = .ok (.iload 5, 2) := by decide +kernel
theorem dX3_planSum_37 : decode cX3_planSum 37 = .ok (.iconst 3, 1) := by decide +kernel
theorem dX3_planSum_38 : decode cX3_planSum 38 = .ok (.idiv, 1) := by decide +kernel
theorem dX3_planSum_39 : decode cX3_planSum 39 = .ok (.istore 5, 2) := by decide +kernel
theorem dX3_planSum_41 : decode cX3_planSum 41 = .ok (.iinc 6 (-1), 3) := by decide +kernel
theorem dX3_planSum_44 : decode cX3_planSum 44 = .ok (.goto (-33), 3) := by decide +kernel
theorem dX3_planSum_47 : decode cX3_planSum 47 = .ok (.iload 4, 2) := by decide +kernel
theorem dX3_planSum_49 : decode cX3_planSum 49 = .ok (.ireturn, 1) := by decide +kernel
theorem dX4_init_0 : decode cX4_init 0 = .ok (.aload_n 0, 1) := by decide +kernel
theorem dX4_init_1 : decode cX4_init 1 = .ok (.invokespecial 3, 3) := by decide +kernel
theorem dX4_init_4 : decode cX4_init 4 = .ok (.aload_n 0, 1) := by decide +kernel
theorem dX4_init_5 : decode cX4_init 5 = .ok (.new 9, 3) := by decide +kernel
theorem dX4_init_8 : decode cX4_init 8 = .ok (.dup, 1) := by decide +kernel
theorem dX4_init_9 : decode cX4_init 9 = .ok (.iconst 2, 1) := by decide +kernel
theorem dX4_init_10 : decode cX4_init 10 = .ok (.bipush 8, 2) := by decide +kernel
theorem dX4_init_12 : decode cX4_init 12 = .ok (.invokespecial 11, 3) := by decide +kernel
theorem dX4_init_15 : decode cX4_init 15 = .ok (.putfield 14, 3) := by decide +kernel
theorem dX4_init_18 : decode cX4_init 18 = .ok (.aload_n 0, 1) := by decide +kernel
theorem dX4_init_19 : decode cX4_init 19 = .ok (.new 9, 3) := by decide +kernel
theorem dX4_init_22 : decode cX4_init 22 = .ok (.dup, 1) := by decide +kernel
theorem dX4_init_23 : decode cX4_init 23 = .ok (.bipush 14, 2) := by decide +kernel
theorem dX4_init_25 : decode cX4_init 25 = .ok (.bipush 14, 2) := by decide +kernel
theorem dX4_init_27 : decode cX4_init 27 = .ok (.invokespecial 11, 3) := by decide +kernel
theorem dX4_init_30 : decode cX4_init 30 = .ok (.putfield 20, 3) := by decide +kernel
theorem dX4_init_33 : decode cX4_init 33 = .ok (.aload_n 0, 1) := by decide +kernel
theorem dX4_init_34 : decode cX4_init 34 = .ok (.new 9, 3) := by decide +kernel
theorem dX4_init_37 : decode cX4_init 37 = .ok (.dup, 1) := by decide +kernel
theorem dX4_init_38 : decode cX4_init 38 = .ok (.iconst 4, 1) := by decide +kernel
theorem dX4_init_39 : decode cX4_init 39 = .ok (.bipush 6, 2) := by decide +kernel
theorem dX4_init_41 : decode cX4_init 41 = .ok (.invokespecial 11, 3) := by decide +kernel
theorem dX4_init_44 : decode cX4_init 44 = .ok (.putfield 23, 3) := by decide +kernel
theorem dX4_init_47 : decode cX4_init 47 = .ok (.aload_n 0, 1) := by decide +kernel
theorem dX4_init_48 : decode cX4_init 48 = .ok (.new 9, 3) := by decide +kernel
theorem dX4_init_51 : decode cX4_init 51 = .ok (.dup, 1) := by decide +kernel
theorem dX4_init_52 : decode cX4_init 52 = .ok (.iconst 4, 1) := by decide +kernel
theorem dX4_init_53 : decode cX4_init 53 = .ok (.bipush 40, 2) := by decide +kernel
theorem dX4_init_55 : decode cX4_init 55 = .ok (.invokespecial 11, 3) := by decide +kernel
theorem dX4_init_58 : decode cX4_init 58 = .ok (.putfield 26, 3) := by decide +kernel
theorem dX4_init_61 : decode cX4_init 61 = .ok (.aload_n 0, 1) := by decide +kernel
theorem dX4_init_62 : decode cX4_init 62 = .ok (.new 9, 3) := by decide +kernel
theorem dX4_init_65 : decode cX4_init 65 = .ok (.dup, 1) := by decide +kernel
theorem dX4_init_66 : decode cX4_init 66 = .ok (.iconst 5, 1) := by decide +kernel
theorem dX4_init_67 : decode cX4_init 67 = .ok (.bipush 20, 2) := by decide +kernel
theorem dX4_init_69 : decode cX4_init 69 = .ok (.invokespecial 11, 3) := by decide +kernel
theorem dX4_init_72 : decode cX4_init 72 = .ok (.putfield 29, 3) := by decide +kernel
theorem dX4_init_75 : decode cX4_init 75 = .ok (.aload_n 0, 1) := by decide +kernel
theorem dX4_init_76 : decode cX4_init 76 = .ok (.new 9, 3) := by decide +kernel
theorem dX4_init_79 : decode cX4_init 79 = .ok (.dup, 1) := by decide +kernel
theorem dX4_init_80 : decode cX4_init 80 = .ok (.iconst 4, 1) := by decide +kernel
theorem dX4_init_81 : decode cX4_init 81 = .ok (.bipush 10, 2) := by decide +kernel
theorem dX4_init_83 : decode cX4_init 83 = .ok (.invokespecial 11, 3) := by decide +kernel
theorem dX4_init_86 : decode cX4_init 86 = .ok (.putfield 32, 3) := by decide +kernel
theorem dX4_init_89 : decode cX4_init 89 = .ok (.aload_n 0, 1) := by decide +kernel
theorem dX4_init_90 : decode cX4_init 90 = .ok (.new 9, 3) := by decide +kernel
theorem dX4_init_93 : decode cX4_init 93 = .ok (.dup, 1) := by decide +kernel
theorem dX4_init_94 : decode cX4_init 94 = .ok (.iconst 3, 1) := by decide +kernel
theorem dX4_init_95 : decode cX4_init 95 = .ok (.bipush 30, 2) := by decide +kernel
theorem dX4_init_97 : decode cX4_init 97 = .ok (.invokespecial 11, 3) := by decide +kernel
theorem dX4_init_100 : decode cX4_init 100 = .ok (.putfield 35, 3) := by decide +kernel
theorem dX4_init_103 : decode cX4_init 103 = .ok (.aload_n 0, 1) := by decide +kernel
theorem dX4_init_104 : decode cX4_init 104 = .ok (.new 9, 3) := by decide +kernel
theorem dX4_init_107 : decode cX4_init 107 = .ok (.dup, 1) := by decide +kernel
theorem dX4_init_108 : decode cX4_init 108 = .ok (.iconst 2, 1) := by decide +kernel
theorem dX4_init_109 : decode cX4_init 109 = .ok (.bipush 6, 2) := by decide +kernel
theorem dX4_init_111 : decode cX4_init 111 = .ok (.invokespecial 11, 3) := by decide +kernel
theorem dX4_init_114 : decode cX4_init 114 = .ok (.putfield 38, 3) := by decide +kernel
theorem dX4_init_117 : decode cX4_init 117 = .ok (.aload_n 0, 1) := by decide +kernel
theorem dX4_init_118 : decode cX4_init 118 = .ok (.new 9, 3) := by decide +kernel
theorem dX4_init_121 : decode cX4_init 121 = .ok (.dup, 1) := by decide +kernel
theorem dX4_init_122 : decode cX4_init 122 = .ok (.bipush 6, 2) := by decide +kernel
theorem dX4_init_124 : decode cX4_init 124 = .ok (.bipush 6, 2) := by decide +kernel
theorem dX4_init_126 : decode cX4_init 126 = .ok (.invokespecial 11, 3) := by decide +kernel
theorem dX4_init_129 : decode cX4_init 129 = .ok (.putfield 41, 3) := by decide +kernel
theorem dX4_init_132 : decode cX4_init 132 = .ok (.aload_n 0, 1) := by decide +kernel
theorem dX4_init_133 : decode cX4_init 133 = .ok (.new 9, 3) := by decide +kernel
theorem dX4_init_136 : decode cX4_init 136 = .ok (.dup, 1) := by decide +kernel
theorem dX4_init_137 : decode cX4_init 137 = .ok (.iconst 3, 1) := by decide +kernel
theorem dX4_init_138 : decode cX4_init 138 = .ok (.bipush 7, 2) := by decide +kernel
theorem dX4_init_140 : decode cX4_init 140 = .ok (.invokespecial 11, 3) := by decide +kernel
theorem dX4_init_143 : decode cX4_init 143 = .ok (.putfield 44, 3) := by decide +kernel
theorem dX4_init_146 : decode cX4_init 146 = .ok (.aload_n 0, 1) := by decide +kernel
theorem dX4_init_147 : decode cX4_init 147 = .ok (.new 9, 3) := by decide +kernel
theorem dX4_init_150 : decode cX4_init 150 = .ok (.dup, 1) := by decide +kernel
theorem dX4_init_151 : decode cX4_init 151 = .ok (.bipush 6, 2) := by decide +kernel
theorem dX4_init_153 : decode cX4_init 153 = .ok (.bipush 6, 2) := by decide +kernel
theorem dX4_init_155 : decode cX4_init 155 = .ok (.invokespecial 11, 3) := by decide +kernel
theorem dX4_init_158 : decode cX4_init 158 = .ok (.putfield 47, 3) := by decide +kernel
theorem dX4_init_161 : decode cX4_init 161 = .ok (.aload_n 0, 1) := by decide +kernel
theorem dX4_init_162 : decode cX4_init 162 = .ok (.new 50, 3) := by decide +kernel
theorem dX4_init_165 : decode cX4_init 165 = .ok (.dup, 1) := by decide +kernel
theorem dX4_init_166 : decode cX4_init 166 = .ok (.invokespecial 52, 3) := by decide +kernel
theorem dX4_init_169 : decode cX4_init 169 = .ok (.putfield 53, 3) := by decide +kernel
theorem dX4_init_172 : decode cX4_init 172 = .ok (.return_, 1) := by decide +kernel
theorem dX4_becomeAs_0 : decode cX4_becomeAs 0 = .ok (.aload_n 0, 1) := by decide +kernel
theorem dX4_becomeAs_1 : decode cX4_becomeAs 1 = .ok (.getfield 14, 3) := by decide +kernel
theorem dX4_becomeAs_4 : decode cX4_becomeAs 4 = .ok (.aload_n 1, 1) := by decide +kernel
theorem dX4_becomeAs_5 : decode cX4_becomeAs 5 = .ok (.getfield 14, 3) := by decide +kernel
theorem dX4_becomeAs_8 : decode cX4_becomeAs 8 = .ok (.invokevirtual 57, 3) := by decide +kernel
theorem dX4_becomeAs_11 : decode cX4_becomeAs 11 = .ok (.aload_n 0, 1) := by decide +kernel
theorem dX4_becomeAs_12 : decode cX4_becomeAs 12 = .ok (.getfield 20, 3) := by decide +kernel
theorem dX4_becomeAs_15 : decode cX4_becomeAs 15 = .ok (.aload_n 1, 1) := by decide +kernel
theorem dX4_becomeAs_16 : decode cX4_becomeAs 16 = .ok (.getfield 20, 3) := by decide +kernel
theorem dX4_becomeAs_19 : decode cX4_becomeAs 19 = .ok (.invokevirtual 57, 3) := by decide +kernel
theorem dX4_becomeAs_22 : decode cX4_becomeAs 22 = .ok (.aload_n 0, 1) := by decide +kernel
theorem dX4_becomeAs_23 : decode cX4_becomeAs 23 = .ok (.getfield 23, 3) := by decide +kernel
theorem dX4_becomeAs_26 : decode cX4_becomeAs 26 = .ok (.aload_n 1, 1) := by decide +kernel
theorem dX4_becomeAs_27 : decode cX4_becomeAs 27 = .ok (.getfield 23, 3) := by decide +kernel
theorem dX4_becomeAs_30 : decode cX4_becomeAs 30 = .ok (.invokevirtual 57, 3) := by decide +kernel
theorem dX4_becomeAs_33 : decode cX4_becomeAs 33 = .ok (.aload_n 0, 1) := by decide +kernel
theorem dX4_becomeAs_34 : decode cX4_becomeAs 34 = .ok (.getfield 26, 3) := by decide +kernel
theorem dX4_becomeAs_37 : decode cX4_becomeAs 37 = .ok (.aload_n 1, 1) := by decide +kernel
theorem dX4_becomeAs_38 : decode cX4_becomeAs 38 = .ok (.getfield 26, 3) := by decide +kernel
theorem dX4_becomeAs_41 : decode cX4_becomeAs 41 = .ok (.invokevirtual 57, 3) := by decide +kernel
theorem dX4_becomeAs_44 : decode cX4_becomeAs 44 = .ok (.aload_n 0, 1) := by decide +kernel
theorem dX4_becomeAs_45 : decode cX4_becomeAs 45 = .ok (.getfield 29, 3) := by decide +kernel
theorem dX4_becomeAs_48 : decode cX4_becomeAs 48 = .ok (.aload_n 1, 1) := by decide +kernel
theorem dX4_becomeAs_49 : decode cX4_becomeAs 49 = .ok (.getfield 29, 3) := by decide +kernel
theorem dX4_becomeAs_52 : decode cX4_becomeAs 52 = .ok (.invokevirtual 57, 3) := by decide +kernel
theorem dX4_becomeAs_55 : decode cX4_becomeAs 55 = .ok (.aload_n 0, 1) := by decide +kernel
theorem dX4_becomeAs_56 : decode cX4_becomeAs 56 = .ok (.getfield 32, 3) := by decide +kernel
theorem dX4_becomeAs_59 : decode cX4_becomeAs 59 = .ok (.aload_n 1, 1) := by decide +kernel
theorem dX4_becomeAs_60 : decode cX4_becomeAs 60 = .ok (.getfield 32, 3) := by decide +kernel
theorem dX4_becomeAs_63 : decode cX4_becomeAs 63 = .ok (.invokevirtual 57, 3) := by decide +kernel
theorem dX4_becomeAs_66 : decode cX4_becomeAs 66 = .ok (.aload_n 0, 1) := by decide +kernel
theorem dX4_becomeAs_67 : decode cX4_becomeAs 67 = .ok (.getfield 35, 3) := by decide +kernel
theorem dX4_becomeAs_70 : decode cX4_becomeAs 70 = .ok (.aload_n 1, 1) := by decide +kernel
theorem dX4_becomeAs_71 : decode cX4_becomeAs 71 = .ok (.getfield 35, 3) := by decide +kernel
theorem dX4_becomeAs_74 : decode cX4_becomeAs 74 = .ok (.invokevirtual 57, 3) := by decide +kernel
theorem dX4_becomeAs_77 : decode cX4_becomeAs 77 = .ok (.aload_n 0, 1) := by decide +kernel
theorem dX4_becomeAs_78 : decode cX4_becomeAs 78 = .ok (.getfield 38, 3) := by decide +kernel
theorem dX4_becomeAs_81 : decode cX4_becomeAs 81 = .ok (.aload_n 1, 1) := by decide +kernel
theorem dX4_becomeAs_82 : decode cX4_becomeAs 82 = .ok (.getfield 38, 3) := by decide +kernel
theorem dX4_becomeAs_85 : decode cX4_becomeAs 85 = .ok (.invokevirtual 57, 3) := by decide +kernel
theorem dX4_becomeAs_88 : decode cX4_becomeAs 88 = .ok (.aload_n 0, 1) := by decide +kernel
theorem dX4_becomeAs_89 : decode cX4_becomeAs 89 = .ok (.getfield 41, 3) := by decide +kernel
theorem dX4_becomeAs_92 : decode cX4_becomeAs 92 = .ok (.aload_n 1, 1) := by decide +kernel
theorem dX4_becomeAs_93 : decode cX4_becomeAs 93 = .ok (.getfield 41, 3) := by decide +kernel
theorem dX4_becomeAs_96 : decode cX4_becomeAs 96 = .ok (.invokevirtual 57, 3) := by decide +kernel
theorem dX4_becomeAs_99 : decode cX4_becomeAs 99 = .ok (.aload_n 0, 1) := by decide +kernel
theorem dX4_becomeAs_100 : decode cX4_becomeAs 100 = .ok (.getfield 44, 3) := by decide +kernel
theorem dX4_becomeAs_103 : decode cX4_becomeAs 103 = .ok (.aload_n 1, 1) := by decide +kernel
theorem dX4_becomeAs_104 : decode cX4_becomeAs 104 = .ok (.getfield 44, 3) := by decide +kernel
theorem dX4_becomeAs_107 : decode cX4_becomeAs 107 = .ok (.invokevirtual 57, 3) := by decide +kernel
theorem dX4_becomeAs_110 : decode cX4_becomeAs 110 = .ok (.aload_n 0, 1) := by decide +kernel
theorem dX4_becomeAs_111 : decode cX4_becomeAs 111 = .ok (.getfield 47, 3) := by decide +kernel
theorem dX4_becomeAs_114 : decode cX4_becomeAs 114 = .ok (.aload_n 1, 1) := by decide +kernel
theorem dX4_becomeAs_115 : decode cX4_becomeAs 115 = .ok (.getfield 47, 3) := by decide +kernel
theorem dX4_becomeAs_118 : decode cX4_becomeAs 118 = .ok (.invokevirtual 57, 3) := by decide +kernel
theorem dX4_becomeAs_121 : decode cX4_becomeAs 121 = .ok (.aload_n 0, 1) := by decide +kernel
theorem dX4_becomeAs_122 : decode cX4_becomeAs 122 = .ok (.getfield 53, 3) := by decide +kernel
theorem dX4_becomeAs_125 : decode cX4_becomeAs 125 = .ok (.aload_n 1, 1) := by decide +kernel
theorem dX4_becomeAs_126 : decode cX4_becomeAs 126 = .ok (.getfield 53, 3) := by decide +kernel
theorem dX4_becomeAs_129 : decode cX4_becomeAs 129 = .ok (.invokevirtual 61, 3) := by decide +kernel
theorem dX4_becomeAs_132 : decode cX4_becomeAs 132 = .ok (.aload_n 0, 1) := by decide +kernel
theorem dX4_becomeAs_133 : decode cX4_becomeAs 133 = .ok (.aload_n 1, 1) := by decide +kernel
theorem dX4_becomeAs_134 : decode cX4_becomeAs 134 = .ok (.getfield 64, 3) := by decide +kernel
theorem dX4_becomeAs_137 : decode cX4_becomeAs 137 = .ok (.putfield 64, 3) := by decide +kernel
theorem dX4_becomeAs_140 : decode cX4_becomeAs 140 = .ok (.aload_n 0, 1) := by decide +kernel
theorem dX4_becomeAs_141 : decode cX4_becomeAs 141 = .ok (.aload_n 1, 1) := by decide +kernel
theorem dX4_becomeAs_142 : decode cX4_becomeAs 142 = .ok (.getfield 68, 3) := by decide +kernel
theorem dX4_becomeAs_145 : decode cX4_becomeAs 145 = .ok (.putfield 68, 3) := by decide +kernel
theorem dX4_becomeAs_148 : decode cX4_becomeAs 148 = .ok (.aload_n 0, 1) := by decide +kernel
theorem dX4_becomeAs_149 : decode cX4_becomeAs 149 = .ok (.aload_n 1, 1) := by decide +kernel
theorem dX4_becomeAs_150 : decode cX4_becomeAs 150 = .ok (.getfield 71, 3) := by decide +kernel
theorem dX4_becomeAs_153 : decode cX4_becomeAs 153 = .ok (.putfield 71, 3) := by decide +kernel
theorem dX4_becomeAs_156 : decode cX4_becomeAs 156 = .ok (.return_, 1) := by decide +kernel
theorem dX4_embark_0 : decode cX4_embark 0 = .ok (.aload_n 0, 1) := by decide +kernel
theorem dX4_embark_1 : decode cX4_embark 1 = .ok (.iload_n 1, 1) := by decide +kernel
theorem dX4_embark_2 : decode cX4_embark 2 = .ok (.iconst 1, 1) := by decide +kernel
theorem dX4_embark_3 : decode cX4_embark 3 = .ok (.iconst 0, 1) := by decide +kernel
theorem dX4_embark_4 : decode cX4_embark 4 = .ok (.invokevirtual 74, 3) := by decide +kernel
theorem dX4_embark_7 : decode cX4_embark 7 = .ok (.aload_n 0, 1) := by decide +kernel
theorem dX4_embark_8 : decode cX4_embark 8 = .ok (.getfield 20, 3) := by decide +kernel
theorem dX4_embark_11 : decode cX4_embark 11 = .ok (.iload_n 1, 1) := by decide +kernel
theorem dX4_embark_12 : decode cX4_embark 12 = .ok (.iconst 4, 1) := by decide +kernel
theorem dX4_embark_13 : decode cX4_embark 13 = .ok (.ldc 78, 2) := by decide +kernel
theorem dX4_embark_15 : decode cX4_embark 15 = .ok (.invokevirtual 79, 3) := by decide +kernel
theorem dX4_embark_18 : decode cX4_embark 18 = .ok (.aload_n 0, 1) := by decide +kernel
theorem dX4_embark_19 : decode cX4_embark 19 = .ok (.getfield 20, 3) := by decide +kernel
theorem dX4_embark_22 : decode cX4_embark 22 = .ok (.iload_n 1, 1) := by decide +kernel
theorem dX4_embark_23 : decode cX4_embark 23 = .ok (.bipush 10, 2) := by decide +kernel
theorem dX4_embark_25 : decode cX4_embark 25 = .ok (.ldc 78, 2) := by decide +kernel
theorem dX4_embark_27 : decode cX4_embark 27 = .ok (.invokevirtual 79, 3) := by decide +kernel
theorem dX4_embark_30 : decode cX4_embark 30 = .ok (.aload_n 0, 1) := by decide +kernel
theorem dX4_embark_31 : decode cX4_embark 31 = .ok (.getfield 20, 3) := by decide +kernel
theorem dX4_embark_34 : decode cX4_embark 34 = .ok (.iload_n 1, 1) := by decide +kernel
theorem dX4_embark_35 : decode cX4_embark 35 = .ok (.bipush 12, 2) := by decide +kernel
theorem dX4_embark_37 : decode cX4_embark 37 = .ok (.iload_n 2, 1) := by decide +kernel
theorem dX4_embark_38 : decode cX4_embark 38 = .ok (.invokevirtual 79, 3) := by decide +kernel
theorem dX4_embark_41 : decode cX4_embark 41 = .ok (.aload_n 0, 1) := by decide +kernel
theorem dX4_embark_42 : decode cX4_embark 42 = .ok (.getfield 20, 3) := by decide +kernel
theorem dX4_embark_45 : decode cX4_embark 45 = .ok (.iload_n 1, 1) := by decide +kernel
theorem dX4_embark_46 : decode cX4_embark 46 = .ok (.bipush 13, 2) := by decide +kernel
theorem dX4_embark_48 : decode cX4_embark 48 = .ok (.sipush 364, 3) := by decide +kernel
theorem dX4_embark_51 : decode cX4_embark 51 = .ok (.invokevirtual 79, 3) := by decide +kernel
theorem dX4_embark_54 : decode cX4_embark 54 = .ok (.return_, 1) := by decide +kernel
theorem dX4_become_0 : decode cX4_become 0 = .ok (.aload_n 0, 1) := by decide +kernel
theorem dX4_become_1 : decode cX4_become 1 = .ok (.getfield 20, 3) := by decide +kernel
theorem dX4_become_4 : decode cX4_become 4 = .ok (.iload_n 1, 1) := by decide +kernel
theorem dX4_become_5 : decode cX4_become 5 = .ok (.iconst 5, 1) := by decide +kernel
theorem dX4_become_6 : decode cX4_become 6 = .ok (.iload_n 2, 1) := by decide +kernel
theorem dX4_become_7 : decode cX4_become 7 = .ok (.invokevirtual 79, 3) := by decide +kernel
theorem dX4_become_10 : decode cX4_become 10 = .ok (.aload_n 0, 1) := by decide +kernel
theorem dX4_become_11 : decode cX4_become 11 = .ok (.getfield 20, 3) := by decide +kernel
theorem dX4_become_14 : decode cX4_become 14 = .ok (.iload_n 1, 1) := by decide +kernel
theorem dX4_become_15 : decode cX4_become 15 = .ok (.bipush 6, 2) := by decide +kernel
theorem dX4_become_17 : decode cX4_become 17 = .ok (.iload_n 3, 1) := by decide +kernel
theorem dX4_become_18 : decode cX4_become 18 = .ok (.invokevirtual 79, 3) := by decide +kernel
theorem dX4_become_21 : decode cX4_become 21 = .ok (.aload_n 0, 1) := by decide +kernel
theorem dX4_become_22 : decode cX4_become 22 = .ok (.getfield 20, 3) := by decide +kernel
theorem dX4_become_25 : decode cX4_become 25 = .ok (.iload_n 1, 1) := by decide +kernel
theorem dX4_become_26 : decode cX4_become 26 = .ok (.bipush 7, 2) := by decide +kernel
theorem dX4_become_28 : decode cX4_become 28 = .ok (.aload_n 0, 1) := by decide +kernel
theorem dX4_become_29 : decode cX4_become 29 = .ok (.getfield 64, 3) := by decide +kernel
theorem dX4_become_32 : decode cX4_become 32 = .ok (.invokevirtual 79, 3) := by decide +kernel
theorem dX4_become_35 : decode cX4_become 35 = .ok (.return_, 1) := by decide +kernel
theorem dX4_isDead_0 : decode cX4_isDead 0 = .ok (.aload_n 0, 1) := by decide +kernel
theorem dX4_isDead_1 : decode cX4_isDead 1 = .ok (.getfield 20, 3) := by decide +kernel
theorem dX4_isDead_4 : decode cX4_isDead 4 = .ok (.iload_n 1, 1) := by decide +kernel
theorem dX4_isDead_5 : decode cX4_isDead 5 = .ok (.bipush 11, 2) := by decide +kernel
theorem dX4_isDead_7 : decode cX4_isDead 7 = .ok (.invokevirtual 82, 3) := by decide +kernel
theorem dX4_isDead_10 : decode cX4_isDead 10 = .ok (.iconst 1, 1) := by decide +kernel
theorem dX4_isDead_11 : decode cX4_isDead 11 = .ok (.if_icmp .ne 7, 3) := by decide +kernel
theorem dX4_isDead_14 : decode cX4_isDead 14 = .ok (.iconst 1, 1) := by decide +kernel
theorem dX4_isDead_15 : decode cX4_isDead 15 = .ok (.goto 4, 3) := by decide +kernel
theorem dX4_isDead_18 : decode cX4_isDead 18 = .ok (.iconst 0, 1) := by decide +kernel
theorem dX4_isDead_19 : decode cX4_isDead 19 = .ok (.ireturn, 1) := by decide +kernel
theorem dX4_hasLanded_0 : decode cX4_hasLanded 0 = .ok (.aload_n 0, 1) := by decide +kernel
theorem dX4_hasLanded_1 : decode cX4_hasLanded 1 = .ok (.getfield 20, 3) := by decide +kernel
theorem dX4_hasLanded_4 : decode cX4_hasLanded 4 = .ok (.iload_n 1, 1) := by decide +kernel
theorem dX4_hasLanded_5 : decode cX4_hasLanded 5 = .ok (.bipush 10, 2) := by decide +kernel
theorem dX4_hasLanded_7 : decode cX4_hasLanded 7 = .ok (.invokevirtual 82, 3) := by decide +kernel
theorem dX4_hasLanded_10 : decode cX4_hasLanded 10 = .ok (.ldc 78, 2) := by decide +kernel
theorem dX4_hasLanded_12 : decode cX4_hasLanded 12 = .ok (.if_icmp .eq 7, 3) := by decide +kernel
theorem dX4_hasLanded_15 : decode cX4_hasLanded 15 = .ok (.iconst 1, 1) := by decide +kernel
theorem dX4_hasLanded_16 : decode cX4_hasLanded 16 = .ok (.goto 4, 3) := by decide +kernel
theorem dX4_hasLanded_19 : decode cX4_hasLanded 19 = .ok (.iconst 0, 1) := by decide +kernel
theorem dX4_hasLanded_20 : decode cX4_hasLanded 20 = .ok (.ireturn, 1) := by decide +kernel
theorem dX4_isAboard_0 : decode cX4_isAboard 0 = .ok (.aload_n 0, 1) := by decide +kernel
theorem dX4_isAboard_1 : decode cX4_isAboard 1 = .ok (.iload_n 1, 1) := by decide +kernel
theorem dX4_isAboard_2 : decode cX4_isAboard 2 = .ok (.invokevirtual 86, 3) := by decide +kernel
theorem dX4_isAboard_5 : decode cX4_isAboard 5 = .ok (.ifCond .ne 15, 3) := by decide +kernel
theorem dX4_isAboard_8 : decode cX4_isAboard 8 = .ok (.aload_n 0, 1) := by decide +kernel
theorem dX4_isAboard_9 : decode cX4_isAboard 9 = .ok (.iload_n 1, 1) := by decide +kernel
theorem dX4_isAboard_10 : decode cX4_isAboard 10 = .ok (.invokevirtual 90, 3) := by decide +kernel
theorem dX4_isAboard_13 : decode cX4_isAboard 13 = .ok (.ifCond .ne 7, 3) := by decide +kernel
theorem dX4_isAboard_16 : decode cX4_isAboard 16 = .ok (.iconst 1, 1) := by decide +kernel
theorem dX4_isAboard_17 : decode cX4_isAboard 17 = .ok (.goto 4, 3) := by decide +kernel
theorem dX4_isAboard_20 : decode cX4_isAboard 20 = .ok (.iconst 0, 1) := by decide +kernel
theorem dX4_isAboard_21 : decode cX4_isAboard 21 = .ok (.ireturn, 1) := by decide +kernel
theorem dX4_isAtPlace_0 : decode cX4_isAtPlace 0 = .ok (.aload_n 0, 1) := by decide +kernel
theorem dX4_isAtPlace_1 : decode cX4_isAtPlace 1 = .ok (.getfield 20, 3) := by decide +kernel
theorem dX4_isAtPlace_4 : decode cX4_isAtPlace 4 = .ok (.iload_n 1, 1) := by decide +kernel
theorem dX4_isAtPlace_5 : decode cX4_isAtPlace 5 = .ok (.iconst 4, 1) := by decide +kernel
theorem dX4_isAtPlace_6 : decode cX4_isAtPlace 6 = .ok (.invokevirtual 82, 3) := by decide +kernel
theorem dX4_isAtPlace_9 : decode cX4_isAtPlace 9 = .ok (.invokestatic 93, 3) := by decide +kernel
theorem dX4_isAtPlace_12 : decode cX4_isAtPlace 12 = .ok (.ireturn, 1) := by decide +kernel
theorem dX4_isServing_0 : decode cX4_isServing 0 = .ok (.aload_n 0, 1) := by decide +kernel
theorem dX4_isServing_1 : decode cX4_isServing 1 = .ok (.getfield 20, 3) := by decide +kernel
theorem dX4_isServing_4 : decode cX4_isServing 4 = .ok (.iload_n 1, 1) := by decide +kernel
theorem dX4_isServing_5 : decode cX4_isServing 5 = .ok (.iconst 5, 1) := by decide +kernel
theorem dX4_isServing_6 : decode cX4_isServing 6 = .ok (.invokevirtual 82, 3) := by decide +kernel
theorem dX4_isServing_9 : decode cX4_isServing 9 = .ok (.iconst 1, 1) := by decide +kernel
theorem dX4_isServing_10 : decode cX4_isServing 10 = .ok (.iconst 4, 1) := by decide +kernel
theorem dX4_isServing_11 : decode cX4_isServing 11 = .ok (.invokestatic 96, 3) := by decide +kernel
theorem dX4_isServing_14 : decode cX4_isServing 14 = .ok (.ireturn, 1) := by decide +kernel
theorem dX4_marksOf_0 : decode cX4_marksOf 0 = .ok (.iconst 0, 1) := by decide +kernel
theorem dX4_marksOf_1 : decode cX4_marksOf 1 = .ok (.istore_n 2, 1) := by decide +kernel
theorem dX4_marksOf_2 : decode cX4_marksOf 2 = .ok (.iconst 0, 1) := by decide +kernel
theorem dX4_marksOf_3 : decode cX4_marksOf 3 = .ok (.istore_n 3, 1) := by decide +kernel
theorem dX4_marksOf_4 : decode cX4_marksOf 4 = .ok (.iload_n 3, 1) := by decide +kernel
theorem dX4_marksOf_5 : decode cX4_marksOf 5 = .ok (.aload_n 0, 1) := by decide +kernel
theorem dX4_marksOf_6 : decode cX4_marksOf 6 = .ok (.getfield 26, 3) := by decide +kernel
theorem dX4_marksOf_9 : decode cX4_marksOf 9 = .ok (.getfield 100, 3) := by decide +kernel
theorem dX4_marksOf_12 : decode cX4_marksOf 12 = .ok (.if_icmp .ge 37, 3) := by decide +kernel
theorem dX4_marksOf_15 : decode cX4_marksOf 15 = .ok (.aload_n 0, 1) := by decide +kernel
theorem dX4_marksOf_16 : decode cX4_marksOf 16 = .ok (.getfield 26, 3) := by decide +kernel
theorem dX4_marksOf_19 : decode cX4_marksOf 19 = .ok (.iload_n 3, 1) := by decide +kernel
theorem dX4_marksOf_20 : decode cX4_marksOf 20 = .ok (.iconst 0, 1) := by decide +kernel
theorem dX4_marksOf_21 : decode cX4_marksOf 21 = .ok (.invokevirtual 82, 3) := by decide +kernel
theorem dX4_marksOf_24 : decode cX4_marksOf 24 = .ok (.iload_n 1, 1) := by decide +kernel
theorem dX4_marksOf_25 : decode cX4_marksOf 25 = .ok (.if_icmp .ne 18, 3) := by decide +kernel
theorem dX4_marksOf_28 : decode cX4_marksOf 28 = .ok (.aload_n 0, 1) := by decide +kernel
theorem dX4_marksOf_29 : decode cX4_marksOf 29 = .ok (.getfield 26, 3) := by decide +kernel
theorem dX4_marksOf_32 : decode cX4_marksOf 32 = .ok (.iload_n 3, 1) := by decide +kernel
theorem dX4_marksOf_33 : decode cX4_marksOf 33 = .ok (.iconst 3, 1) := by decide +kernel
theorem dX4_marksOf_34 : decode cX4_marksOf 34 = .ok (.invokevirtual 82, 3) := by decide +kernel
theorem dX4_marksOf_37 : decode cX4_marksOf 37 = .ok (.ifCond .ne 6, 3) := by decide +kernel
theorem dX4_marksOf_40 : decode cX4_marksOf 40 = .ok (.iinc 2 1, 3) := by decide +kernel
theorem dX4_marksOf_43 : decode cX4_marksOf 43 = .ok (.iinc 3 1, 3) := by decide +kernel
theorem dX4_marksOf_46 : decode cX4_marksOf 46 = .ok (.goto (-42), 3) := by decide +kernel
theorem dX4_marksOf_49 : decode cX4_marksOf 49 = .ok (.iload_n 2, 1) := by decide +kernel
theorem dX4_marksOf_50 : decode cX4_marksOf 50 = .ok (.ireturn, 1) := by decide +kernel
theorem dX4_liveMarks_0 : decode cX4_liveMarks 0 = .ok (.iconst 0, 1) := by decide +kernel
theorem dX4_liveMarks_1 : decode cX4_liveMarks 1 = .ok (.istore_n 1, 1) := by decide +kernel
theorem dX4_liveMarks_2 : decode cX4_liveMarks 2 = .ok (.iconst 0, 1) := by decide +kernel
theorem dX4_liveMarks_3 : decode cX4_liveMarks 3 = .ok (.istore_n 2, 1) := by decide +kernel
theorem dX4_liveMarks_4 : decode cX4_liveMarks 4 = .ok (.iload_n 2, 1) := by decide +kernel
theorem dX4_liveMarks_5 : decode cX4_liveMarks 5 = .ok (.aload_n 0, 1) := by decide +kernel
theorem dX4_liveMarks_6 : decode cX4_liveMarks 6 = .ok (.getfield 26, 3) := by decide +kernel
theorem dX4_liveMarks_9 : decode cX4_liveMarks 9 = .ok (.getfield 100, 3) := by decide +kernel
theorem dX4_liveMarks_12 : decode cX4_liveMarks 12 = .ok (.if_icmp .ge 24, 3) := by decide +kernel
theorem dX4_liveMarks_15 : decode cX4_liveMarks 15 = .ok (.aload_n 0, 1) := by decide +kernel
theorem dX4_liveMarks_16 : decode cX4_liveMarks 16 = .ok (.getfield 26, 3) := by decide +kernel
theorem dX4_liveMarks_19 : decode cX4_liveMarks 19 = .ok (.iload_n 2, 1) := by decide +kernel
theorem dX4_liveMarks_20 : decode cX4_liveMarks 20 = .ok (.iconst 3, 1) := by decide +kernel
theorem dX4_liveMarks_21 : decode cX4_liveMarks 21 = .ok (.invokevirtual 82, 3) := by decide +kernel
theorem dX4_liveMarks_24 : decode cX4_liveMarks 24 = .ok (.ifCond .ne 6, 3) := by decide +kernel
theorem dX4_liveMarks_27 : decode cX4_liveMarks 27 = .ok (.iinc 1 1, 3) := by decide +kernel
theorem dX4_liveMarks_30 : decode cX4_liveMarks 30 = .ok (.iinc 2 1, 3) := by decide +kernel
theorem dX4_liveMarks_33 : decode cX4_liveMarks 33 = .ok (.goto (-29), 3) := by decide +kernel
theorem dX4_liveMarks_36 : decode cX4_liveMarks 36 = .ok (.iload_n 1, 1) := by decide +kernel
theorem dX4_liveMarks_37 : decode cX4_liveMarks 37 = .ok (.ireturn, 1) := by decide +kernel
theorem dX4_inBanks_0 : decode cX4_inBanks 0 = .ok (.iconst 0, 1) := by decide +kernel
theorem dX4_inBanks_1 : decode cX4_inBanks 1 = .ok (.istore_n 1, 1) := by decide +kernel
theorem dX4_inBanks_2 : decode cX4_inBanks 2 = .ok (.iconst 0, 1) := by decide +kernel
theorem dX4_inBanks_3 : decode cX4_inBanks 3 = .ok (.istore_n 2, 1) := by decide +kernel
theorem dX4_inBanks_4 : decode cX4_inBanks 4 = .ok (.iload_n 2, 1) := by decide +kernel
theorem dX4_inBanks_5 : decode cX4_inBanks 5 = .ok (.aload_n 0, 1) := by decide +kernel
theorem dX4_inBanks_6 : decode cX4_inBanks 6 = .ok (.getfield 20, 3) := by decide +kernel
theorem dX4_inBanks_9 : decode cX4_inBanks 9 = .ok (.getfield 100, 3) := by decide +kernel
theorem dX4_inBanks_12 : decode cX4_inBanks 12 = .ok (.if_icmp .ge 22, 3) := by decide +kernel
theorem dX4_inBanks_15 : decode cX4_inBanks 15 = .ok (.iload_n 1, 1) := by decide +kernel
theorem dX4_inBanks_16 : decode cX4_inBanks 16 = .ok (.aload_n 0, 1) := by decide +kernel
theorem dX4_inBanks_17 : decode cX4_inBanks 17 = .ok (.getfield 20, 3) := by decide +kernel
theorem dX4_inBanks_20 : decode cX4_inBanks 20 = .ok (.iload_n 2, 1) := by decide +kernel
theorem dX4_inBanks_21 : decode cX4_inBanks 21 = .ok (.bipush 9, 2) := by decide +kernel
theorem dX4_inBanks_23 : decode cX4_inBanks 23 = .ok (.invokevirtual 82, 3) := by decide +kernel
theorem dX4_inBanks_26 : decode cX4_inBanks 26 = .ok (.iadd, 1) := by decide +kernel
theorem dX4_inBanks_27 : decode cX4_inBanks 27 = .ok (.istore_n 1, 1) := by decide +kernel
theorem dX4_inBanks_28 : decode cX4_inBanks 28 = .ok (.iinc 2 1, 3) := by decide +kernel
theorem dX4_inBanks_31 : decode cX4_inBanks 31 = .ok (.goto (-27), 3) := by decide +kernel
theorem dX4_inBanks_34 : decode cX4_inBanks 34 = .ok (.iload_n 1, 1) := by decide +kernel
theorem dX4_inBanks_35 : decode cX4_inBanks 35 = .ok (.ireturn, 1) := by decide +kernel
theorem dX4_deadMen_0 : decode cX4_deadMen 0 = .ok (.iconst 0, 1) := by decide +kernel
theorem dX4_deadMen_1 : decode cX4_deadMen 1 = .ok (.istore_n 1, 1) := by decide +kernel
theorem dX4_deadMen_2 : decode cX4_deadMen 2 = .ok (.iconst 0, 1) := by decide +kernel
theorem dX4_deadMen_3 : decode cX4_deadMen 3 = .ok (.istore_n 2, 1) := by decide +kernel
theorem dX4_deadMen_4 : decode cX4_deadMen 4 = .ok (.iload_n 2, 1) := by decide +kernel
theorem dX4_deadMen_5 : decode cX4_deadMen 5 = .ok (.aload_n 0, 1) := by decide +kernel
theorem dX4_deadMen_6 : decode cX4_deadMen 6 = .ok (.getfield 20, 3) := by decide +kernel
theorem dX4_deadMen_9 : decode cX4_deadMen 9 = .ok (.getfield 100, 3) := by decide +kernel
theorem dX4_deadMen_12 : decode cX4_deadMen 12 = .ok (.if_icmp .ge 20, 3) := by decide +kernel
theorem dX4_deadMen_15 : decode cX4_deadMen 15 = .ok (.aload_n 0, 1) := by decide +kernel
theorem dX4_deadMen_16 : decode cX4_deadMen 16 = .ok (.iload_n 2, 1) := by decide +kernel
theorem dX4_deadMen_17 : decode cX4_deadMen 17 = .ok (.invokevirtual 86, 3) := by decide +kernel
theorem dX4_deadMen_20 : decode cX4_deadMen 20 = .ok (.ifCond .eq 6, 3) := by decide +kernel
theorem dX4_deadMen_23 : decode cX4_deadMen 23 = .ok (.iinc 1 1, 3) := by decide +kernel
theorem dX4_deadMen_26 : decode cX4_deadMen 26 = .ok (.iinc 2 1, 3) := by decide +kernel
theorem dX4_deadMen_29 : decode cX4_deadMen 29 = .ok (.goto (-25), 3) := by decide +kernel
theorem dX4_deadMen_32 : decode cX4_deadMen 32 = .ok (.iload_n 1, 1) := by decide +kernel
theorem dX4_deadMen_33 : decode cX4_deadMen 33 = .ok (.ireturn, 1) := by decide +kernel
theorem dX4_menAboard_0 : decode cX4_menAboard 0 = .ok (.iconst 0, 1) := by decide +kernel
theorem dX4_menAboard_1 : decode cX4_menAboard 1 = .ok (.istore_n 1, 1) := by decide +kernel
theorem dX4_menAboard_2 : decode cX4_menAboard 2 = .ok (.iconst 0, 1) := by decide +kernel
theorem dX4_menAboard_3 : decode cX4_menAboard 3 = .ok (.istore_n 2, 1) := by decide +kernel
theorem dX4_menAboard_4 : decode cX4_menAboard 4 = .ok (.iload_n 2, 1) := by decide +kernel
theorem dX4_menAboard_5 : decode cX4_menAboard 5 = .ok (.aload_n 0, 1) := by decide +kernel
theorem dX4_menAboard_6 : decode cX4_menAboard 6 = .ok (.getfield 20, 3) := by decide +kernel
theorem dX4_menAboard_9 : decode cX4_menAboard 9 = .ok (.getfield 100, 3) := by decide +kernel
theorem dX4_menAboard_12 : decode cX4_menAboard 12 = .ok (.if_icmp .ge 20, 3) := by decide +kernel
theorem dX4_menAboard_15 : decode cX4_menAboard 15 = .ok (.aload_n 0, 1) := by decide +kernel
theorem dX4_menAboard_16 : decode cX4_menAboard 16 = .ok (.iload_n 2, 1) := by decide +kernel
theorem dX4_menAboard_17 : decode cX4_menAboard 17 = .ok (.invokevirtual 103, 3) := by decide +kernel
theorem dX4_menAboard_20 : decode cX4_menAboard 20 = .ok (.ifCond .eq 6, 3) := by decide +kernel
theorem dX4_menAboard_23 : decode cX4_menAboard 23 = .ok (.iinc 1 1, 3) := by decide +kernel
theorem dX4_menAboard_26 : decode cX4_menAboard 26 = .ok (.iinc 2 1, 3) := by decide +kernel
theorem dX4_menAboard_29 : decode cX4_menAboard 29 = .ok (.goto (-25), 3) := by decide +kernel
theorem dX4_menAboard_32 : decode cX4_menAboard 32 = .ok (.iload_n 1, 1) := by decide +kernel
theorem dX4_menAboard_33 : decode cX4_menAboard 33 = .ok (.ireturn, 1) := by decide +kernel
theorem dX4_livingOfKind_0 : decode cX4_livingOfKind 0 = .ok (.iconst 0, 1) := by decide +kernel
theorem dX4_livingOfKind_1 : decode cX4_livingOfKind 1 = .ok (.istore_n 2, 1) := by decide +kernel
theorem dX4_livingOfKind_2 : decode cX4_livingOfKind 2 = .ok (.iconst 0, 1) := by decide +kernel
theorem dX4_livingOfKind_3 : decode cX4_livingOfKind 3 = .ok (.istore_n 3, 1) := by decide +kernel
theorem dX4_livingOfKind_4 : decode cX4_livingOfKind 4 = .ok (.iload_n 3, 1) := by decide +kernel
theorem dX4_livingOfKind_5 : decode cX4_livingOfKind 5 = .ok (.aload_n 0, 1) := by decide +kernel
theorem dX4_livingOfKind_6 : decode cX4_livingOfKind 6 = .ok (.getfield 20, 3) := by decide +kernel
theorem dX4_livingOfKind_9 : decode cX4_livingOfKind 9 = .ok (.getfield 100, 3) := by decide +kernel
theorem dX4_livingOfKind_12 : decode cX4_livingOfKind 12 = .ok (.if_icmp .ge 33, 3) := by decide +kernel
theorem dX4_livingOfKind_15 : decode cX4_livingOfKind 15 = .ok (.aload_n 0, 1) := by decide +kernel
theorem dX4_livingOfKind_16 : decode cX4_livingOfKind 16 = .ok (.iload_n 3, 1) := by decide +kernel
theorem dX4_livingOfKind_17 : decode cX4_livingOfKind 17 = .ok (.invokevirtual 86, 3) := by decide +kernel
theorem dX4_livingOfKind_20 : decode cX4_livingOfKind 20 = .ok (.ifCond .ne 19, 3) := by decide +kernel
theorem dX4_livingOfKind_23 : decode cX4_livingOfKind 23 = .ok (.aload_n 0, 1) := by decide +kernel
theorem dX4_livingOfKind_24 : decode cX4_livingOfKind 24 = .ok (.getfield 20, 3) := by decide +kernel
theorem dX4_livingOfKind_27 : decode cX4_livingOfKind 27 = .ok (.iload_n 3, 1) := by decide +kernel
theorem dX4_livingOfKind_28 : decode cX4_livingOfKind 28 = .ok (.iconst 5, 1) := by decide +kernel
theorem dX4_livingOfKind_29 : decode cX4_livingOfKind 29 = .ok (.invokevirtual 82, 3) := by decide +kernel
theorem dX4_livingOfKind_32 : decode cX4_livingOfKind 32 = .ok (.iload_n 1, 1) := by decide +kernel
theorem dX4_livingOfKind_33 : decode cX4_livingOfKind 33 = .ok (.if_icmp .ne 6, 3) := by decide +kernel
theorem dX4_livingOfKind_36 : decode cX4_livingOfKind 36 = .ok (.iinc 2 1, 3) := by decide +kernel
theorem dX4_livingOfKind_39 : decode cX4_livingOfKind 39 = .ok (.iinc 3 1, 3) := by decide +kernel
theorem dX4_livingOfKind_42 : decode cX4_livingOfKind 42 = .ok (.goto (-38), 3) := by decide +kernel
theorem dX4_livingOfKind_45 : decode cX4_livingOfKind 45 = .ok (.iload_n 2, 1) := by decide +kernel
theorem dX4_livingOfKind_46 : decode cX4_livingOfKind 46 = .ok (.ireturn, 1) := by decide +kernel
theorem dX4_assignedTo_0 : decode cX4_assignedTo 0 = .ok (.iconst 0, 1) := by decide +kernel
theorem dX4_assignedTo_1 : decode cX4_assignedTo 1 = .ok (.istore_n 2, 1) := by decide +kernel
theorem dX4_assignedTo_2 : decode cX4_assignedTo 2 = .ok (.iconst 0, 1) := by decide +kernel
theorem dX4_assignedTo_3 : decode cX4_assignedTo 3 = .ok (.istore_n 3, 1) := by decide +kernel
theorem dX4_assignedTo_4 : decode cX4_assignedTo 4 = .ok (.iload_n 3, 1) := by decide +kernel
theorem dX4_assignedTo_5 : decode cX4_assignedTo 5 = .ok (.aload_n 0, 1) := by decide +kernel
theorem dX4_assignedTo_6 : decode cX4_assignedTo 6 = .ok (.getfield 20, 3) := by decide +kernel
theorem dX4_assignedTo_9 : decode cX4_assignedTo 9 = .ok (.getfield 100, 3) := by decide +kernel
theorem dX4_assignedTo_12 : decode cX4_assignedTo 12 = .ok (.if_icmp .ge 59, 3) := by decide +kernel
theorem dX4_assignedTo_15 : decode cX4_assignedTo 15 = .ok (.aload_n 0, 1) := by decide +kernel
theorem dX4_assignedTo_16 : decode cX4_assignedTo 16 = .ok (.getfield 20, 3) := by decide +kernel
theorem dX4_assignedTo_19 : decode cX4_assignedTo 19 = .ok (.iload_n 3, 1) := by decide +kernel
theorem dX4_assignedTo_20 : decode cX4_assignedTo 20 = .ok (.iconst 5, 1) := by decide +kernel
theorem dX4_assignedTo_21 : decode cX4_assignedTo 21 = .ok (.invokevirtual 82, 3) := by decide +kernel
theorem dX4_assignedTo_24 : decode cX4_assignedTo 24 = .ok (.iconst 2, 1) := by decide +kernel
theorem dX4_assignedTo_25 : decode cX4_assignedTo 25 = .ok (.if_icmp .ne 21, 3) := by decide +kernel
theorem dX4_assignedTo_28 : decode cX4_assignedTo 28 = .ok (.aload_n 0, 1) := by decide +kernel
theorem dX4_assignedTo_29 : decode cX4_assignedTo 29 = .ok (.getfield 20, 3) := by decide +kernel
theorem dX4_assignedTo_32 : decode cX4_assignedTo 32 = .ok (.iload_n 3, 1) := by decide +kernel
theorem dX4_assignedTo_33 : decode cX4_assignedTo 33 = .ok (.bipush 6, 2) := by decide +kernel
theorem dX4_assignedTo_35 : decode cX4_assignedTo 35 = .ok (.invokevirtual 82, 3) := by decide +kernel
theorem dX4_assignedTo_38 : decode cX4_assignedTo 38 = .ok (.iload_n 1, 1) := by decide +kernel
theorem dX4_assignedTo_39 : decode cX4_assignedTo 39 = .ok (.if_icmp .ne 7, 3) := by decide +kernel
theorem dX4_assignedTo_42 : decode cX4_assignedTo 42 = .ok (.iconst 1, 1) := by decide +kernel
theorem dX4_assignedTo_43 : decode cX4_assignedTo 43 = .ok (.goto 4, 3) := by decide +kernel
theorem dX4_assignedTo_46 : decode cX4_assignedTo 46 = .ok (.iconst 0, 1) := by decide +kernel
theorem dX4_assignedTo_47 : decode cX4_assignedTo 47 = .ok (.istore 4, 2) := by decide +kernel
theorem dX4_assignedTo_49 : decode cX4_assignedTo 49 = .ok (.iload 4, 2) := by decide +kernel
theorem dX4_assignedTo_51 : decode cX4_assignedTo 51 = .ok (.ifCond .eq 14, 3) := by decide +kernel
theorem dX4_assignedTo_54 : decode cX4_assignedTo 54 = .ok (.aload_n 0, 1) := by decide +kernel
theorem dX4_assignedTo_55 : decode cX4_assignedTo 55 = .ok (.iload_n 3, 1) := by decide +kernel
theorem dX4_assignedTo_56 : decode cX4_assignedTo 56 = .ok (.invokevirtual 86, 3) := by decide +kernel
theorem dX4_assignedTo_59 : decode cX4_assignedTo 59 = .ok (.ifCond .ne 6, 3) := by decide +kernel
theorem dX4_assignedTo_62 : decode cX4_assignedTo 62 = .ok (.iinc 2 1, 3) := by decide +kernel
theorem dX4_assignedTo_65 : decode cX4_assignedTo 65 = .ok (.iinc 3 1, 3) := by decide +kernel
theorem dX4_assignedTo_68 : decode cX4_assignedTo 68 = .ok (.goto (-64), 3) := by decide +kernel
theorem dX4_assignedTo_71 : decode cX4_assignedTo 71 = .ok (.iload_n 2, 1) := by decide +kernel
theorem dX4_assignedTo_72 : decode cX4_assignedTo 72 = .ok (.ireturn, 1) := by decide +kernel
theorem dX4_freeHands_0 : decode cX4_freeHands 0 = .ok (.aload_n 0, 1) := by decide +kernel
theorem dX4_freeHands_1 : decode cX4_freeHands 1 = .ok (.getfield 23, 3) := by decide +kernel
theorem dX4_freeHands_4 : decode cX4_freeHands 4 = .ok (.iload_n 1, 1) := by decide +kernel
theorem dX4_freeHands_5 : decode cX4_freeHands 5 = .ok (.iconst 2, 1) := by decide +kernel
theorem dX4_freeHands_6 : decode cX4_freeHands 6 = .ok (.invokevirtual 82, 3) := by decide +kernel
theorem dX4_freeHands_9 : decode cX4_freeHands 9 = .ok (.aload_n 0, 1) := by decide +kernel
theorem dX4_freeHands_10 : decode cX4_freeHands 10 = .ok (.iload_n 1, 1) := by decide +kernel
theorem dX4_freeHands_11 : decode cX4_freeHands 11 = .ok (.invokevirtual 106, 3) := by decide +kernel
theorem dX4_freeHands_14 : decode cX4_freeHands 14 = .ok (.isub, 1) := by decide +kernel
theorem dX4_freeHands_15 : decode cX4_freeHands 15 = .ok (.ireturn, 1) := by decide +kernel
theorem dX4_isWantedBy_0 : decode cX4_isWantedBy 0 = .ok (.aload_n 0, 1) := by decide +kernel
theorem dX4_isWantedBy_1 : decode cX4_isWantedBy 1 = .ok (.iload_n 1, 1) := by decide +kernel
theorem dX4_isWantedBy_2 : decode cX4_isWantedBy 2 = .ok (.invokevirtual 110, 3) := by decide +kernel
theorem dX4_isWantedBy_5 : decode cX4_isWantedBy 5 = .ok (.ifCond .eq 24, 3) := by decide +kernel
theorem dX4_isWantedBy_8 : decode cX4_isWantedBy 8 = .ok (.aload_n 0, 1) := by decide +kernel
theorem dX4_isWantedBy_9 : decode cX4_isWantedBy 9 = .ok (.getfield 20, 3) := by decide +kernel
theorem dX4_isWantedBy_12 : decode cX4_isWantedBy 12 = .ok (.iload_n 1, 1) := by decide +kernel
theorem dX4_isWantedBy_13 : decode cX4_isWantedBy 13 = .ok (.iconst 4, 1) := by decide +kernel
theorem dX4_isWantedBy_14 : decode cX4_isWantedBy 14 = .ok (.invokevirtual 82, 3) := by decide +kernel
theorem dX4_isWantedBy_17 : decode cX4_isWantedBy 17 = .ok (.aload_n 0, 1) := by decide +kernel
theorem dX4_isWantedBy_18 : decode cX4_isWantedBy 18 = .ok (.getfield 23, 3) := by decide +kernel
theorem dX4_isWantedBy_21 : decode cX4_isWantedBy 21 = .ok (.iload_n 2, 1) := by decide +kernel
theorem dX4_isWantedBy_22 : decode cX4_isWantedBy 22 = .ok (.iconst 0, 1) := by decide +kernel
theorem dX4_isWantedBy_23 : decode cX4_isWantedBy 23 = .ok (.invokevirtual 82, 3) := by decide +kernel
theorem dX4_isWantedBy_26 : decode cX4_isWantedBy 26 = .ok (.if_icmp .eq 5, 3) := by decide +kernel
theorem dX4_isWantedBy_29 : decode cX4_isWantedBy 29 = .ok (.iconst 0, 1) := by decide +kernel
theorem dX4_isWantedBy_30 : decode cX4_isWantedBy 30 = .ok (.ireturn, 1) := by decide +kernel
theorem dX4_isWantedBy_31 : decode cX4_isWantedBy 31 = .ok (.aload_n 0, 1) := by decide +kernel
theorem dX4_isWantedBy_32 : decode cX4_isWantedBy 32 = .ok (.getfield 23, 3) := by decide +kernel
theorem dX4_isWantedBy_35 : decode cX4_isWantedBy 35 = .ok (.iload_n 2, 1) := by decide +kernel
theorem dX4_isWantedBy_36 : decode cX4_isWantedBy 36 = .ok (.iconst 1, 1) := by decide +kernel
theorem dX4_isWantedBy_37 : decode cX4_isWantedBy 37 = .ok (.invokevirtual 82, 3) := by decide +kernel
theorem dX4_isWantedBy_40 : decode cX4_isWantedBy 40 = .ok (.aload_n 0, 1) := by decide +kernel
theorem dX4_isWantedBy_41 : decode cX4_isWantedBy 41 = .ok (.getfield 20, 3) := by decide +kernel
theorem dX4_isWantedBy_44 : decode cX4_isWantedBy 44 = .ok (.iload_n 1, 1) := by decide +kernel
theorem dX4_isWantedBy_45 : decode cX4_isWantedBy 45 = .ok (.iconst 1, 1) := by decide +kernel
theorem dX4_isWantedBy_46 : decode cX4_isWantedBy 46 = .ok (.invokevirtual 82, 3) := by decide +kernel
theorem dX4_isWantedBy_49 : decode cX4_isWantedBy 49 = .ok (.ishr, 1) := by decide +kernel
theorem dX4_isWantedBy_50 : decode cX4_isWantedBy 50 = .ok (.iconst 1, 1) := by decide +kernel
theorem dX4_isWantedBy_51 : decode cX4_isWantedBy 51 = .ok (.iand, 1) := by decide +kernel
theorem dX4_isWantedBy_52 : decode cX4_isWantedBy 52 = .ok (.iconst 1, 1) := by decide +kernel
theorem dX4_isWantedBy_53 : decode cX4_isWantedBy 53 = .ok (.if_icmp .ne 7, 3) := by decide +kernel
theorem dX4_isWantedBy_56 : decode cX4_isWantedBy 56 = .ok (.iconst 1, 1) := by decide +kernel
theorem dX4_isWantedBy_57 : decode cX4_isWantedBy 57 = .ok (.goto 4, 3) := by decide +kernel
theorem dX4_isWantedBy_60 : decode cX4_isWantedBy 60 = .ok (.iconst 0, 1) := by decide +kernel
theorem dX4_isWantedBy_61 : decode cX4_isWantedBy 61 = .ok (.ireturn, 1) := by decide +kernel
theorem dX4_mercy_0 : decode cX4_mercy 0 = .ok (.aload_n 0, 1) := by decide +kernel
theorem dX4_mercy_1 : decode cX4_mercy 1 = .ok (.getfield 53, 3) := by decide +kernel
theorem dX4_mercy_4 : decode cX4_mercy 4 = .ok (.iload_n 1, 1) := by decide +kernel
theorem dX4_mercy_5 : decode cX4_mercy 5 = .ok (.aload_n 0, 1) := by decide +kernel
theorem dX4_mercy_6 : decode cX4_mercy 6 = .ok (.getfield 64, 3) := by decide +kernel
theorem dX4_mercy_9 : decode cX4_mercy 9 = .ok (.aload_n 0, 1) := by decide +kernel
theorem dX4_mercy_10 : decode cX4_mercy 10 = .ok (.getfield 64, 3) := by decide +kernel
theorem dX4_mercy_13 : decode cX4_mercy 13 = .ok (.aload_n 0, 1) := by decide +kernel
theorem dX4_mercy_14 : decode cX4_mercy 14 = .ok (.getfield 20, 3) := by decide +kernel
theorem dX4_mercy_17 : decode cX4_mercy 17 = .ok (.iload_n 2, 1) := by decide +kernel
theorem dX4_mercy_18 : decode cX4_mercy 18 = .ok (.bipush 10, 2) := by decide +kernel
theorem dX4_mercy_20 : decode cX4_mercy 20 = .ok (.invokevirtual 82, 3) := by decide +kernel
theorem dX4_mercy_23 : decode cX4_mercy 23 = .ok (.isub, 1) := by decide +kernel
theorem dX4_mercy_24 : decode cX4_mercy 24 = .ok (.aload_n 0, 1) := by decide +kernel
theorem dX4_mercy_25 : decode cX4_mercy 25 = .ok (.iload_n 2, 1) := by decide +kernel
theorem dX4_mercy_26 : decode cX4_mercy 26 = .ok (.invokevirtual 113, 3) := by decide +kernel
theorem dX4_mercy_29 : decode cX4_mercy 29 = .ok (.aload_n 0, 1) := by decide +kernel
theorem dX4_mercy_30 : decode cX4_mercy 30 = .ok (.getfield 20, 3) := by decide +kernel
theorem dX4_mercy_33 : decode cX4_mercy 33 = .ok (.iload_n 2, 1) := by decide +kernel
theorem dX4_mercy_34 : decode cX4_mercy 34 = .ok (.bipush 13, 2) := by decide +kernel
theorem dX4_mercy_36 : decode cX4_mercy 36 = .ok (.invokevirtual 82, 3) := by decide +kernel
theorem dX4_mercy_39 : decode cX4_mercy 39 = .ok (.invokevirtual 116, 3) := by decide +kernel
theorem dX4_mercy_42 : decode cX4_mercy 42 = .ok (.ireturn, 1) := by decide +kernel
theorem dX4_ticketWeek_0 : decode cX4_ticketWeek 0 = .ok (.aload_n 0, 1) := by decide +kernel
theorem dX4_ticketWeek_1 : decode cX4_ticketWeek 1 = .ok (.getfield 53, 3) := by decide +kernel
theorem dX4_ticketWeek_4 : decode cX4_ticketWeek 4 = .ok (.aload_n 0, 1) := by decide +kernel
theorem dX4_ticketWeek_5 : decode cX4_ticketWeek 5 = .ok (.getfield 53, 3) := by decide +kernel
theorem dX4_ticketWeek_8 : decode cX4_ticketWeek 8 = .ok (.iconst 0, 1) := by decide +kernel
theorem dX4_ticketWeek_9 : decode cX4_ticketWeek 9 = .ok (.aload_n 0, 1) := by decide +kernel
theorem dX4_ticketWeek_10 : decode cX4_ticketWeek 10 = .ok (.getfield 64, 3) := by decide +kernel
theorem dX4_ticketWeek_13 : decode cX4_ticketWeek 13 = .ok (.invokevirtual 120, 3) := by decide +kernel
theorem dX4_ticketWeek_16 : decode cX4_ticketWeek 16 = .ok (.invokevirtual 123, 3) := by decide +kernel
theorem dX4_ticketWeek_19 : decode cX4_ticketWeek 19 = .ok (.astore_n 3, 1) := by decide +kernel
theorem dX4_ticketWeek_20 : decode cX4_ticketWeek 20 = .ok (.aload_n 0, 1) := by decide +kernel
theorem dX4_ticketWeek_21 : decode cX4_ticketWeek 21 = .ok (.getfield 20, 3) := by decide +kernel
theorem dX4_ticketWeek_24 : decode cX4_ticketWeek 24 = .ok (.iload_n 1, 1) := by decide +kernel
theorem dX4_ticketWeek_25 : decode cX4_ticketWeek 25 = .ok (.bipush 10, 2) := by decide +kernel
theorem dX4_ticketWeek_27 : decode cX4_ticketWeek 27 = .ok (.invokevirtual 82, 3) := by decide +kernel
theorem dX4_ticketWeek_30 : decode cX4_ticketWeek 30 = .ok (.istore 4, 2) := by decide +kernel
theorem dX4_ticketWeek_32 : decode cX4_ticketWeek 32 = .ok (.aload_n 0, 1) := by decide +kernel
theorem dX4_ticketWeek_33 : decode cX4_ticketWeek 33 = .ok (.getfield 20, 3) := by decide +kernel
theorem dX4_ticketWeek_36 : decode cX4_ticketWeek 36 = .ok (.iload_n 1, 1) := by decide +kernel
theorem dX4_ticketWeek_37 : decode cX4_ticketWeek 37 = .ok (.bipush 13, 2) := by decide +kernel
theorem dX4_ticketWeek_39 : decode cX4_ticketWeek 39 = .ok (.invokevirtual 82, 3) := by decide +kernel
theorem dX4_ticketWeek_42 : decode cX4_ticketWeek 42 = .ok (.istore 5, 2) := by decide +kernel
theorem dX4_ticketWeek_44 : decode cX4_ticketWeek 44 = .ok (.aload_n 0, 1) := by decide +kernel
theorem dX4_ticketWeek_45 : decode cX4_ticketWeek 45 = .ok (.getfield 64, 3) := by decide +kernel
theorem dX4_ticketWeek_48 : decode cX4_ticketWeek 48 = .ok (.istore 6, 2) := by decide +kernel
theorem dX4_ticketWeek_50 : decode cX4_ticketWeek 50 = .ok (.iload 6, 2) := by decide +kernel
theorem dX4_ticketWeek_52 : decode cX4_ticketWeek 52 = .ok (.aload_n 0, 1) := by decide +kernel
theorem dX4_ticketWeek_53 : decode cX4_ticketWeek 53 = .ok (.getfield 64, 3) := by decide +kernel
theorem dX4_ticketWeek_56 : decode cX4_ticketWeek 56 = .ok (.sipush 600, 3) := by decide +kernel
theorem dX4_ticketWeek_59 : decode cX4_ticketWeek 59 = .ok (.iadd, 1) := by decide +kernel
theorem dX4_ticketWeek_60 : decode cX4_ticketWeek 60 = .ok (.if_icmp .ge 48, 3) := by decide +kernel
theorem dX4_ticketWeek_63 : decode cX4_ticketWeek 63 = .ok (.iload 6, 2) := by decide +kernel
theorem dX4_ticketWeek_65 : decode cX4_ticketWeek 65 = .ok (.iload 4, 2) := by decide +kernel
theorem dX4_ticketWeek_67 : decode cX4_ticketWeek 67 = .ok (.isub, 1) := by decide +kernel
theorem dX4_ticketWeek_68 : decode cX4_ticketWeek 68 = .ok (.istore 7, 2) := by decide +kernel
theorem dX4_ticketWeek_70 : decode cX4_ticketWeek 70 = .ok (.aload_n 3, 1) := by decide +kernel
theorem dX4_ticketWeek_71 : decode cX4_ticketWeek 71 = .ok (.ifnonnull 12, 3) := by decide +kernel
theorem dX4_ticketWeek_74 : decode cX4_ticketWeek 74 = .ok (.iconst 0, 1) := by decide +kernel
theorem dX4_ticketWeek_75 : decode cX4_ticketWeek 75 = .ok (.iload 7, 2) := by decide +kernel
theorem dX4_ticketWeek_77 : decode cX4_ticketWeek 77 = .ok (.invokestatic 127, 3) := by decide +kernel
theorem dX4_ticketWeek_80 : decode cX4_ticketWeek 80 = .ok (.goto 12, 3) := by decide +kernel
theorem dX4_ticketWeek_83 : decode cX4_ticketWeek 83 = .ok (.aload_n 3, 1) := by decide +kernel
theorem dX4_ticketWeek_84 : decode cX4_ticketWeek 84 = .ok (.iload 7, 2) := by decide +kernel
theorem dX4_ticketWeek_86 : decode cX4_ticketWeek 86 = .ok (.iload_n 2, 1) := by decide +kernel
theorem dX4_ticketWeek_87 : decode cX4_ticketWeek 87 = .ok (.iload 5, 2) := by decide +kernel
theorem dX4_ticketWeek_89 : decode cX4_ticketWeek 89 = .ok (.invokevirtual 130, 3) := by decide +kernel
theorem dX4_ticketWeek_92 : decode cX4_ticketWeek 92 = .ok (.istore 8, 2) := by decide +kernel
theorem dX4_ticketWeek_94 : decode cX4_ticketWeek 94 = .ok (.iload 8, 2) := by decide +kernel
theorem dX4_ticketWeek_96 : decode cX4_ticketWeek 96 = .ok (.ifCond .eq 6, 3) := by decide +kernel
theorem dX4_ticketWeek_99 : decode cX4_ticketWeek 99 = .ok (.iload 6, 2) := by decide +kernel
theorem dX4_ticketWeek_101 : decode cX4_ticketWeek 101 = .ok (.ireturn, 1) := by decide +kernel
theorem dX4_ticketWeek_102 : decode cX4_ticketWeek 102 = .ok (.iinc 6 1, 3) := by decide +kernel
theorem dX4_ticketWeek_105 : decode cX4_ticketWeek 105 = .ok (.goto (-55), 3) := by decide +kernel
theorem dX4_ticketWeek_108 : decode cX4_ticketWeek 108 = .ok (.ldc 78, 2) := by decide +kernel
theorem dX4_ticketWeek_110 : decode cX4_ticketWeek 110 = .ok (.ireturn, 1) := by decide +kernel
theorem dX4_ironsForOneMore_0 : decode cX4_ironsForOneMore 0 = .ok (.aload_n 0, 1) := by decide +kernel
theorem dX4_ironsForOneMore_1 : decode cX4_ironsForOneMore 1 = .ok (.getfield 53, 3) := by decide +kernel
theorem dX4_ironsForOneMore_4 : decode cX4_ironsForOneMore 4 = .ok (.iconst 2, 1) := by decide +kernel
theorem dX4_ironsForOneMore_5 : decode cX4_ironsForOneMore 5 = .ok (.aload_n 0, 1) := by decide +kernel
theorem dX4_ironsForOneMore_6 : decode cX4_ironsForOneMore 6 = .ok (.getfield 64, 3) := by decide +kernel
theorem dX4_ironsForOneMore_9 : decode cX4_ironsForOneMore 9 = .ok (.iload_n 2, 1) := by decide +kernel
theorem dX4_ironsForOneMore_10 : decode cX4_ironsForOneMore 10 = .ok (.aload_n 0, 1) := by decide +kernel
theorem dX4_ironsForOneMore_11 : decode cX4_ironsForOneMore 11 = .ok (.iload_n 1, 1) := by decide +kernel
theorem dX4_ironsForOneMore_12 : decode cX4_ironsForOneMore 12 = .ok (.invokevirtual 113, 3) := by decide +kernel
theorem dX4_ironsForOneMore_15 : decode cX4_ironsForOneMore 15 = .ok (.iconst 1, 1) := by decide +kernel
theorem dX4_ironsForOneMore_16 : decode cX4_ironsForOneMore 16 = .ok (.iadd, 1) := by decide +kernel
theorem dX4_ironsForOneMore_17 : decode cX4_ironsForOneMore 17 = .ok (.iconst 0, 1) := by decide +kernel
theorem dX4_ironsForOneMore_18 : decode cX4_ironsForOneMore 18 = .ok (.invokevirtual 116, 3) := by decide +kernel
theorem dX4_ironsForOneMore_21 : decode cX4_ironsForOneMore 21 = .ok (.istore_n 3, 1) := by decide +kernel
theorem dX4_ironsForOneMore_22 : decode cX4_ironsForOneMore 22 = .ok (.aload_n 0, 1) := by decide +kernel
theorem dX4_ironsForOneMore_23 : decode cX4_ironsForOneMore 23 = .ok (.getfield 26, 3) := by decide +kernel
theorem dX4_ironsForOneMore_26 : decode cX4_ironsForOneMore 26 = .ok (.iload_n 1, 1) := by decide +kernel
theorem dX4_ironsForOneMore_27 : decode cX4_ironsForOneMore 27 = .ok (.aload_n 0, 1) := by decide +kernel
theorem dX4_ironsForOneMore_28 : decode cX4_ironsForOneMore 28 = .ok (.getfield 64, 3) := by decide +kernel
theorem dX4_ironsForOneMore_31 : decode cX4_ironsForOneMore 31 = .ok (.iload_n 2, 1) := by decide +kernel
theorem dX4_ironsForOneMore_32 : decode cX4_ironsForOneMore 32 = .ok (.iconst 0, 1) := by decide +kernel
theorem dX4_ironsForOneMore_33 : decode cX4_ironsForOneMore 33 = .ok (.invokevirtual 136, 3) := by decide +kernel
theorem dX4_ironsForOneMore_36 : decode cX4_ironsForOneMore 36 = .ok (.pop, 1) := by decide +kernel
theorem dX4_ironsForOneMore_37 : decode cX4_ironsForOneMore 37 = .ok (.iload_n 3, 1) := by decide +kernel
theorem dX4_ironsForOneMore_38 : decode cX4_ironsForOneMore 38 = .ok (.ireturn, 1) := by decide +kernel
theorem dX4_passWeek_0 : decode cX4_passWeek 0 = .ok (.aload_n 0, 1) := by decide +kernel
theorem dX4_passWeek_1 : decode cX4_passWeek 1 = .ok (.invokevirtual 140, 3) := by decide +kernel
theorem dX4_passWeek_4 : decode cX4_passWeek 4 = .ok (.iconst 0, 1) := by decide +kernel
theorem dX4_passWeek_5 : decode cX4_passWeek 5 = .ok (.istore_n 1, 1) := by decide +kernel
theorem dX4_passWeek_6 : decode cX4_passWeek 6 = .ok (.iload_n 1, 1) := by decide +kernel
theorem dX4_passWeek_7 : decode cX4_passWeek 7 = .ok (.bipush 6, 2) := by decide +kernel
theorem dX4_passWeek_9 : decode cX4_passWeek 9 = .ok (.if_icmp .ge 14, 3) := by decide +kernel
theorem dX4_passWeek_12 : decode cX4_passWeek 12 = .ok (.aload_n 0, 1) := by decide +kernel
theorem dX4_passWeek_13 : decode cX4_passWeek 13 = .ok (.iload_n 1, 1) := by decide +kernel
theorem dX4_passWeek_14 : decode cX4_passWeek 14 = .ok (.invokevirtual 143, 3) := by decide +kernel
theorem dX4_passWeek_17 : decode cX4_passWeek 17 = .ok (.iinc 1 1, 3) := by decide +kernel
theorem dX4_passWeek_20 : decode cX4_passWeek 20 = .ok (.goto (-14), 3) := by decide +kernel
theorem dX4_passWeek_23 : decode cX4_passWeek 23 = .ok (.iconst 0, 1) := by decide +kernel
theorem dX4_passWeek_24 : decode cX4_passWeek 24 = .ok (.istore_n 1, 1) := by decide +kernel
theorem dX4_passWeek_25 : decode cX4_passWeek 25 = .ok (.iload_n 1, 1) := by decide +kernel
theorem dX4_passWeek_26 : decode cX4_passWeek 26 = .ok (.aload_n 0, 1) := by decide +kernel
theorem dX4_passWeek_27 : decode cX4_passWeek 27 = .ok (.getfield 20, 3) := by decide +kernel
theorem dX4_passWeek_30 : decode cX4_passWeek 30 = .ok (.getfield 100, 3) := by decide +kernel
theorem dX4_passWeek_33 : decode cX4_passWeek 33 = .ok (.if_icmp .ge 30, 3) := by decide +kernel
theorem dX4_passWeek_36 : decode cX4_passWeek 36 = .ok (.aload_n 0, 1) := by decide +kernel
theorem dX4_passWeek_37 : decode cX4_passWeek 37 = .ok (.iload_n 1, 1) := by decide +kernel
theorem dX4_passWeek_38 : decode cX4_passWeek 38 = .ok (.invokevirtual 110, 3) := by decide +kernel
theorem dX4_passWeek_41 : decode cX4_passWeek 41 = .ok (.ifCond .eq 16, 3) := by decide +kernel
theorem dX4_passWeek_44 : decode cX4_passWeek 44 = .ok (.aload_n 0, 1) := by decide +kernel
theorem dX4_passWeek_45 : decode cX4_passWeek 45 = .ok (.iload_n 1, 1) := by decide +kernel
theorem dX4_passWeek_46 : decode cX4_passWeek 46 = .ok (.invokevirtual 147, 3) := by decide +kernel
theorem dX4_passWeek_49 : decode cX4_passWeek 49 = .ok (.ifCond .eq 8, 3) := by decide +kernel
theorem dX4_passWeek_52 : decode cX4_passWeek 52 = .ok (.aload_n 0, 1) := by decide +kernel
theorem dX4_passWeek_53 : decode cX4_passWeek 53 = .ok (.iload_n 1, 1) := by decide +kernel
theorem dX4_passWeek_54 : decode cX4_passWeek 54 = .ok (.invokevirtual 150, 3) := by decide +kernel
theorem dX4_passWeek_57 : decode cX4_passWeek 57 = .ok (.iinc 1 1, 3) := by decide +kernel
theorem dX4_passWeek_60 : decode cX4_passWeek 60 = .ok (.goto (-35), 3) := by decide +kernel
theorem dX4_passWeek_63 : decode cX4_passWeek 63 = .ok (.iconst 0, 1) := by decide +kernel
theorem dX4_passWeek_64 : decode cX4_passWeek 64 = .ok (.istore_n 1, 1) := by decide +kernel
theorem dX4_passWeek_65 : decode cX4_passWeek 65 = .ok (.iload_n 1, 1) := by decide +kernel
theorem dX4_passWeek_66 : decode cX4_passWeek 66 = .ok (.aload_n 0, 1) := by decide +kernel
theorem dX4_passWeek_67 : decode cX4_passWeek 67 = .ok (.getfield 20, 3) := by decide +kernel
theorem dX4_passWeek_70 : decode cX4_passWeek 70 = .ok (.getfield 100, 3) := by decide +kernel
theorem dX4_passWeek_73 : decode cX4_passWeek 73 = .ok (.if_icmp .ge 22, 3) := by decide +kernel
theorem dX4_passWeek_76 : decode cX4_passWeek 76 = .ok (.aload_n 0, 1) := by decide +kernel
theorem dX4_passWeek_77 : decode cX4_passWeek 77 = .ok (.iload_n 1, 1) := by decide +kernel
theorem dX4_passWeek_78 : decode cX4_passWeek 78 = .ok (.invokevirtual 110, 3) := by decide +kernel
theorem dX4_passWeek_81 : decode cX4_passWeek 81 = .ok (.ifCond .eq 8, 3) := by decide +kernel
theorem dX4_passWeek_84 : decode cX4_passWeek 84 = .ok (.aload_n 0, 1) := by decide +kernel
theorem dX4_passWeek_85 : decode cX4_passWeek 85 = .ok (.iload_n 1, 1) := by decide +kernel
theorem dX4_passWeek_86 : decode cX4_passWeek 86 = .ok (.invokevirtual 153, 3) := by decide +kernel
theorem dX4_passWeek_89 : decode cX4_passWeek 89 = .ok (.iinc 1 1, 3) := by decide +kernel
theorem dX4_passWeek_92 : decode cX4_passWeek 92 = .ok (.goto (-27), 3) := by decide +kernel
theorem dX4_passWeek_95 : decode cX4_passWeek 95 = .ok (.iconst 0, 1) := by decide +kernel
theorem dX4_passWeek_96 : decode cX4_passWeek 96 = .ok (.istore_n 1, 1) := by decide +kernel
theorem dX4_passWeek_97 : decode cX4_passWeek 97 = .ok (.iload_n 1, 1) := by decide +kernel
theorem dX4_passWeek_98 : decode cX4_passWeek 98 = .ok (.aload_n 0, 1) := by decide +kernel
theorem dX4_passWeek_99 : decode cX4_passWeek 99 = .ok (.getfield 20, 3) := by decide +kernel
theorem dX4_passWeek_102 : decode cX4_passWeek 102 = .ok (.getfield 100, 3) := by decide +kernel
theorem dX4_passWeek_105 : decode cX4_passWeek 105 = .ok (.if_icmp .ge 22, 3) := by decide +kernel
theorem dX4_passWeek_108 : decode cX4_passWeek 108 = .ok (.aload_n 0, 1) := by decide +kernel
theorem dX4_passWeek_109 : decode cX4_passWeek 109 = .ok (.iload_n 1, 1) := by decide +kernel
theorem dX4_passWeek_110 : decode cX4_passWeek 110 = .ok (.invokevirtual 110, 3) := by decide +kernel
theorem dX4_passWeek_113 : decode cX4_passWeek 113 = .ok (.ifCond .eq 8, 3) := by decide +kernel
theorem dX4_passWeek_116 : decode cX4_passWeek 116 = .ok (.aload_n 0, 1) := by decide +kernel
theorem dX4_passWeek_117 : decode cX4_passWeek 117 = .ok (.iload_n 1, 1) := by decide +kernel
theorem dX4_passWeek_118 : decode cX4_passWeek 118 = .ok (.invokevirtual 156, 3) := by decide +kernel
theorem dX4_passWeek_121 : decode cX4_passWeek 121 = .ok (.iinc 1 1, 3) := by decide +kernel
theorem dX4_passWeek_124 : decode cX4_passWeek 124 = .ok (.goto (-27), 3) := by decide +kernel
theorem dX4_passWeek_127 : decode cX4_passWeek 127 = .ok (.aload_n 0, 1) := by decide +kernel
theorem dX4_passWeek_128 : decode cX4_passWeek 128 = .ok (.invokevirtual 159, 3) := by decide +kernel
theorem dX4_passWeek_131 : decode cX4_passWeek 131 = .ok (.aload_n 0, 1) := by decide +kernel
theorem dX4_passWeek_132 : decode cX4_passWeek 132 = .ok (.dup, 1) := by decide +kernel
theorem dX4_passWeek_133 : decode cX4_passWeek 133 = .ok (.getfield 64, 3) := by decide +kernel
theorem dX4_passWeek_136 : decode cX4_passWeek 136 = .ok (.iconst 1, 1) := by decide +kernel
theorem dX4_passWeek_137 : decode cX4_passWeek 137 = .ok (.iadd, 1) := by decide +kernel
theorem dX4_passWeek_138 : decode cX4_passWeek 138 = .ok (.putfield 64, 3) := by decide +kernel
theorem dX4_passWeek_141 : decode cX4_passWeek 141 = .ok (.return_, 1) := by decide +kernel
theorem dX4_landShips_0 : decode cX4_landShips 0 = .ok (.iconst 0, 1) := by decide +kernel
theorem dX4_landShips_1 : decode cX4_landShips 1 = .ok (.istore_n 1, 1) := by decide +kernel
theorem dX4_landShips_2 : decode cX4_landShips 2 = .ok (.iload_n 1, 1) := by decide +kernel
theorem dX4_landShips_3 : decode cX4_landShips 3 = .ok (.aload_n 0, 1) := by decide +kernel
theorem dX4_landShips_4 : decode cX4_landShips 4 = .ok (.getfield 14, 3) := by decide +kernel
theorem dX4_landShips_7 : decode cX4_landShips 7 = .ok (.getfield 100, 3) := by decide +kernel
theorem dX4_landShips_10 : decode cX4_landShips 10 = .ok (.if_icmp .ge 30, 3) := by decide +kernel
theorem dX4_landShips_13 : decode cX4_landShips 13 = .ok (.aload_n 0, 1) := by decide +kernel
theorem dX4_landShips_14 : decode cX4_landShips 14 = .ok (.getfield 14, 3) := by decide +kernel
theorem dX4_landShips_17 : decode cX4_landShips 17 = .ok (.iload_n 1, 1) := by decide +kernel
theorem dX4_landShips_18 : decode cX4_landShips 18 = .ok (.iconst 1, 1) := by decide +kernel
theorem dX4_landShips_19 : decode cX4_landShips 19 = .ok (.invokevirtual 82, 3) := by decide +kernel
theorem dX4_landShips_22 : decode cX4_landShips 22 = .ok (.aload_n 0, 1) := by decide +kernel
theorem dX4_landShips_23 : decode cX4_landShips 23 = .ok (.getfield 64, 3) := by decide +kernel
theorem dX4_landShips_26 : decode cX4_landShips 26 = .ok (.if_icmp .ne 8, 3) := by decide +kernel
theorem dX4_landShips_29 : decode cX4_landShips 29 = .ok (.aload_n 0, 1) := by decide +kernel
theorem dX4_landShips_30 : decode cX4_landShips 30 = .ok (.iload_n 1, 1) := by decide +kernel
theorem dX4_landShips_31 : decode cX4_landShips 31 = .ok (.invokevirtual 162, 3) := by decide +kernel
theorem dX4_landShips_34 : decode cX4_landShips 34 = .ok (.iinc 1 1, 3) := by decide +kernel
theorem dX4_landShips_37 : decode cX4_landShips 37 = .ok (.goto (-35), 3) := by decide +kernel
theorem dX4_landShips_40 : decode cX4_landShips 40 = .ok (.return_, 1) := by decide +kernel
theorem dX4_landFrom_0 : decode cX4_landFrom 0 = .ok (.iconst 0, 1) := by decide +kernel
theorem dX4_landFrom_1 : decode cX4_landFrom 1 = .ok (.istore_n 2, 1) := by decide +kernel
theorem dX4_landFrom_2 : decode cX4_landFrom 2 = .ok (.iload_n 2, 1) := by decide +kernel
theorem dX4_landFrom_3 : decode cX4_landFrom 3 = .ok (.aload_n 0, 1) := by decide +kernel
theorem dX4_landFrom_4 : decode cX4_landFrom 4 = .ok (.getfield 20, 3) := by decide +kernel
theorem dX4_landFrom_7 : decode cX4_landFrom 7 = .ok (.getfield 100, 3) := by decide +kernel
theorem dX4_landFrom_10 : decode cX4_landFrom 10 = .ok (.if_icmp .ge 70, 3) := by decide +kernel
theorem dX4_landFrom_13 : decode cX4_landFrom 13 = .ok (.aload_n 0, 1) := by decide +kernel
theorem dX4_landFrom_14 : decode cX4_landFrom 14 = .ok (.getfield 20, 3) := by decide +kernel
theorem dX4_landFrom_17 : decode cX4_landFrom 17 = .ok (.iload_n 2, 1) := by decide +kernel
theorem dX4_landFrom_18 : decode cX4_landFrom 18 = .ok (.bipush 12, 2) := by decide +kernel
theorem dX4_landFrom_20 : decode cX4_landFrom 20 = .ok (.invokevirtual 82, 3) := by decide +kernel
theorem dX4_landFrom_23 : decode cX4_landFrom 23 = .ok (.iload_n 1, 1) := by decide +kernel
theorem dX4_landFrom_24 : decode cX4_landFrom 24 = .ok (.if_icmp .ne 50, 3) := by decide +kernel
theorem dX4_landFrom_27 : decode cX4_landFrom 27 = .ok (.aload_n 0, 1) := by decide +kernel
theorem dX4_landFrom_28 : decode cX4_landFrom 28 = .ok (.iload_n 2, 1) := by decide +kernel
theorem dX4_landFrom_29 : decode cX4_landFrom 29 = .ok (.invokevirtual 103, 3) := by decide +kernel
theorem dX4_landFrom_32 : decode cX4_landFrom 32 = .ok (.ifCond .eq 42, 3) := by decide +kernel
theorem dX4_landFrom_35 : decode cX4_landFrom 35 = .ok (.aload_n 0, 1) := by decide +kernel
theorem dX4_landFrom_36 : decode cX4_landFrom 36 = .ok (.getfield 20, 3) := by decide +kernel
theorem dX4_landFrom_39 : decode cX4_landFrom 39 = .ok (.iload_n 2, 1) := by decide +kernel
theorem dX4_landFrom_40 : decode cX4_landFrom 40 = .ok (.iconst 4, 1) := by decide +kernel
theorem dX4_landFrom_41 : decode cX4_landFrom 41 = .ok (.aload_n 0, 1) := by decide +kernel
theorem dX4_landFrom_42 : decode cX4_landFrom 42 = .ok (.getfield 14, 3) := by decide +kernel
theorem dX4_landFrom_45 : decode cX4_landFrom 45 = .ok (.iload_n 1, 1) := by decide +kernel
theorem dX4_landFrom_46 : decode cX4_landFrom 46 = .ok (.iconst 0, 1) := by decide +kernel
theorem dX4_landFrom_47 : decode cX4_landFrom 47 = .ok (.invokevirtual 82, 3) := by decide +kernel
theorem dX4_landFrom_50 : decode cX4_landFrom 50 = .ok (.invokevirtual 79, 3) := by decide +kernel
theorem dX4_landFrom_53 : decode cX4_landFrom 53 = .ok (.aload_n 0, 1) := by decide +kernel
theorem dX4_landFrom_54 : decode cX4_landFrom 54 = .ok (.getfield 20, 3) := by decide +kernel
theorem dX4_landFrom_57 : decode cX4_landFrom 57 = .ok (.iload_n 2, 1) := by decide +kernel
theorem dX4_landFrom_58 : decode cX4_landFrom 58 = .ok (.bipush 10, 2) := by decide +kernel
theorem dX4_landFrom_60 : decode cX4_landFrom 60 = .ok (.aload_n 0, 1) := by decide +kernel
theorem dX4_landFrom_61 : decode cX4_landFrom 61 = .ok (.getfield 64, 3) := by decide +kernel
theorem dX4_landFrom_64 : decode cX4_landFrom 64 = .ok (.invokevirtual 79, 3) := by decide +kernel
theorem dX4_landFrom_67 : decode cX4_landFrom 67 = .ok (.aload_n 0, 1) := by decide +kernel
theorem dX4_landFrom_68 : decode cX4_landFrom 68 = .ok (.iload_n 2, 1) := by decide +kernel
theorem dX4_landFrom_69 : decode cX4_landFrom 69 = .ok (.iconst 1, 1) := by decide +kernel
theorem dX4_landFrom_70 : decode cX4_landFrom 70 = .ok (.iconst 0, 1) := by decide +kernel
theorem dX4_landFrom_71 : decode cX4_landFrom 71 = .ok (.invokevirtual 74, 3) := by decide +kernel
theorem dX4_landFrom_74 : decode cX4_landFrom 74 = .ok (.iinc 2 1, 3) := by decide +kernel
theorem dX4_landFrom_77 : decode cX4_landFrom 77 = .ok (.goto (-75), 3) := by decide +kernel
theorem dX4_landFrom_80 : decode cX4_landFrom 80 = .ok (.return_, 1) := by decide +kernel
theorem dX4_eatAt_0 : decode cX4_eatAt 0 = .ok (.iconst 0, 1) := by decide +kernel
theorem dX4_eatAt_1 : decode cX4_eatAt 1 = .ok (.istore_n 2, 1) := by decide +kernel
theorem dX4_eatAt_2 : decode cX4_eatAt 2 = .ok (.iconst 0, 1) := by decide +kernel
theorem dX4_eatAt_3 : decode cX4_eatAt 3 = .ok (.istore_n 3, 1) := by decide +kernel
theorem dX4_eatAt_4 : decode cX4_eatAt 4 = .ok (.iload_n 3, 1) := by decide +kernel
theorem dX4_eatAt_5 : decode cX4_eatAt 5 = .ok (.aload_n 0, 1) := by decide +kernel
theorem dX4_eatAt_6 : decode cX4_eatAt 6 = .ok (.getfield 20, 3) := by decide +kernel
theorem dX4_eatAt_9 : decode cX4_eatAt 9 = .ok (.getfield 100, 3) := by decide +kernel
theorem dX4_eatAt_12 : decode cX4_eatAt 12 = .ok (.if_icmp .ge 43, 3) := by decide +kernel
theorem dX4_eatAt_15 : decode cX4_eatAt 15 = .ok (.aload_n 0, 1) := by decide +kernel
theorem dX4_eatAt_16 : decode cX4_eatAt 16 = .ok (.getfield 20, 3) := by decide +kernel
theorem dX4_eatAt_19 : decode cX4_eatAt 19 = .ok (.iload_n 3, 1) := by decide +kernel
theorem dX4_eatAt_20 : decode cX4_eatAt 20 = .ok (.iconst 4, 1) := by decide +kernel
theorem dX4_eatAt_21 : decode cX4_eatAt 21 = .ok (.invokevirtual 82, 3) := by decide +kernel
theorem dX4_eatAt_24 : decode cX4_eatAt 24 = .ok (.iload_n 1, 1) := by decide +kernel
theorem dX4_eatAt_25 : decode cX4_eatAt 25 = .ok (.if_icmp .ne 24, 3) := by decide +kernel
theorem dX4_eatAt_28 : decode cX4_eatAt 28 = .ok (.iload_n 2, 1) := by decide +kernel
theorem dX4_eatAt_29 : decode cX4_eatAt 29 = .ok (.aload_n 0, 1) := by decide +kernel
theorem dX4_eatAt_30 : decode cX4_eatAt 30 = .ok (.getfield 20, 3) := by decide +kernel
theorem dX4_eatAt_33 : decode cX4_eatAt 33 = .ok (.iload_n 3, 1) := by decide +kernel
theorem dX4_eatAt_34 : decode cX4_eatAt 34 = .ok (.iconst 5, 1) := by decide +kernel
theorem dX4_eatAt_35 : decode cX4_eatAt 35 = .ok (.invokevirtual 82, 3) := by decide +kernel
theorem dX4_eatAt_38 : decode cX4_eatAt 38 = .ok (.iconst 3, 1) := by decide +kernel
theorem dX4_eatAt_39 : decode cX4_eatAt 39 = .ok (.if_icmp .ne 7, 3) := by decide +kernel
theorem dX4_eatAt_42 : decode cX4_eatAt 42 = .ok (.iconst 1, 1) := by decide +kernel
theorem dX4_eatAt_43 : decode cX4_eatAt 43 = .ok (.goto 4, 3) := by decide +kernel
theorem dX4_eatAt_46 : decode cX4_eatAt 46 = .ok (.iconst 2, 1) := by decide +kernel
theorem dX4_eatAt_47 : decode cX4_eatAt 47 = .ok (.iadd, 1) := by decide +kernel
theorem dX4_eatAt_48 : decode cX4_eatAt 48 = .ok (.istore_n 2, 1) := by decide +kernel
theorem dX4_eatAt_49 : decode cX4_eatAt 49 = .ok (.iinc 3 1, 3) := by decide +kernel
theorem dX4_eatAt_52 : decode cX4_eatAt 52 = .ok (.goto (-48), 3) := by decide +kernel
theorem dX4_eatAt_55 : decode cX4_eatAt 55 = .ok (.aload_n 0, 1) := by decide +kernel
theorem dX4_eatAt_56 : decode cX4_eatAt 56 = .ok (.getfield 38, 3) := by decide +kernel
theorem dX4_eatAt_59 : decode cX4_eatAt 59 = .ok (.iload_n 1, 1) := by decide +kernel
theorem dX4_eatAt_60 : decode cX4_eatAt 60 = .ok (.iconst 0, 1) := by decide +kernel
theorem dX4_eatAt_61 : decode cX4_eatAt 61 = .ok (.invokevirtual 82, 3) := by decide +kernel
theorem dX4_eatAt_64 : decode cX4_eatAt 64 = .ok (.istore_n 3, 1) := by decide +kernel
theorem dX4_eatAt_65 : decode cX4_eatAt 65 = .ok (.aload_n 0, 1) := by decide +kernel
theorem dX4_eatAt_66 : decode cX4_eatAt 66 = .ok (.getfield 38, 3) := by decide +kernel
theorem dX4_eatAt_69 : decode cX4_eatAt 69 = .ok (.iload_n 1, 1) := by decide +kernel
theorem dX4_eatAt_70 : decode cX4_eatAt 70 = .ok (.iconst 1, 1) := by decide +kernel
theorem dX4_eatAt_71 : decode cX4_eatAt 71 = .ok (.iload_n 3, 1) := by decide +kernel
theorem dX4_eatAt_72 : decode cX4_eatAt 72 = .ok (.iload_n 2, 1) := by decide +kernel
theorem dX4_eatAt_73 : decode cX4_eatAt 73 = .ok (.if_icmp .ge 7, 3) := by decide +kernel
theorem dX4_eatAt_76 : decode cX4_eatAt 76 = .ok (.iconst 1, 1) := by decide +kernel
theorem dX4_eatAt_77 : decode cX4_eatAt 77 = .ok (.goto 4, 3) := by decide +kernel
theorem dX4_eatAt_80 : decode cX4_eatAt 80 = .ok (.iconst 0, 1) := by decide +kernel
theorem dX4_eatAt_81 : decode cX4_eatAt 81 = .ok (.invokevirtual 79, 3) := by decide +kernel
theorem dX4_eatAt_84 : decode cX4_eatAt 84 = .ok (.aload_n 0, 1) := by decide +kernel
theorem dX4_eatAt_85 : decode cX4_eatAt 85 = .ok (.getfield 38, 3) := by decide +kernel
theorem dX4_eatAt_88 : decode cX4_eatAt 88 = .ok (.iload_n 1, 1) := by decide +kernel
theorem dX4_eatAt_89 : decode cX4_eatAt 89 = .ok (.iconst 0, 1) := by decide +kernel
theorem dX4_eatAt_90 : decode cX4_eatAt 90 = .ok (.iconst 0, 1) := by decide +kernel
theorem dX4_eatAt_91 : decode cX4_eatAt 91 = .ok (.iload_n 3, 1) := by decide +kernel
theorem dX4_eatAt_92 : decode cX4_eatAt 92 = .ok (.iload_n 2, 1) := by decide +kernel
theorem dX4_eatAt_93 : decode cX4_eatAt 93 = .ok (.isub, 1) := by decide +kernel
theorem dX4_eatAt_94 : decode cX4_eatAt 94 = .ok (.invokestatic 165, 3) := by decide +kernel
theorem dX4_eatAt_97 : decode cX4_eatAt 97 = .ok (.invokevirtual 79, 3) := by decide +kernel
theorem dX4_eatAt_100 : decode cX4_eatAt 100 = .ok (.return_, 1) := by decide +kernel
theorem dX4_tempt_0 : decode cX4_tempt 0 = .ok (.aload_n 0, 1) := by decide +kernel
theorem dX4_tempt_1 : decode cX4_tempt 1 = .ok (.sipush 25173, 3) := by decide +kernel
theorem dX4_tempt_4 : decode cX4_tempt 4 = .ok (.aload_n 0, 1) := by decide +kernel
theorem dX4_tempt_5 : decode cX4_tempt 5 = .ok (.getfield 68, 3) := by decide +kernel
theorem dX4_tempt_8 : decode cX4_tempt 8 = .ok (.imul, 1) := by decide +kernel
theorem dX4_tempt_9 : decode cX4_tempt 9 = .ok (.sipush 13849, 3) := by decide +kernel
theorem dX4_tempt_12 : decode cX4_tempt 12 = .ok (.iadd, 1) := by decide +kernel
theorem dX4_tempt_13 : decode cX4_tempt 13 = .ok (.ldc 170, 2) := by decide +kernel
theorem dX4_tempt_15 : decode cX4_tempt 15 = .ok (.iand, 1) := by decide +kernel
theorem dX4_tempt_16 : decode cX4_tempt 16 = .ok (.putfield 68, 3) := by decide +kernel
theorem dX4_tempt_19 : decode cX4_tempt 19 = .ok (.aload_n 0, 1) := by decide +kernel
theorem dX4_tempt_20 : decode cX4_tempt 20 = .ok (.getfield 53, 3) := by decide +kernel
theorem dX4_tempt_23 : decode cX4_tempt 23 = .ok (.iconst 3, 1) := by decide +kernel
theorem dX4_tempt_24 : decode cX4_tempt 24 = .ok (.aload_n 0, 1) := by decide +kernel
theorem dX4_tempt_25 : decode cX4_tempt 25 = .ok (.getfield 64, 3) := by decide +kernel
theorem dX4_tempt_28 : decode cX4_tempt 28 = .ok (.aload_n 0, 1) := by decide +kernel
theorem dX4_tempt_29 : decode cX4_tempt 29 = .ok (.getfield 20, 3) := by decide +kernel
theorem dX4_tempt_32 : decode cX4_tempt 32 = .ok (.iload_n 1, 1) := by decide +kernel
theorem dX4_tempt_33 : decode cX4_tempt 33 = .ok (.iconst 5, 1) := by decide +kernel
theorem dX4_tempt_34 : decode cX4_tempt 34 = .ok (.invokevirtual 82, 3) := by decide +kernel
theorem dX4_tempt_37 : decode cX4_tempt 37 = .ok (.aload_n 0, 1) := by decide +kernel
theorem dX4_tempt_38 : decode cX4_tempt 38 = .ok (.iload_n 1, 1) := by decide +kernel
theorem dX4_tempt_39 : decode cX4_tempt 39 = .ok (.invokevirtual 113, 3) := by decide +kernel
theorem dX4_tempt_42 : decode cX4_tempt 42 = .ok (.aload_n 0, 1) := by decide +kernel
theorem dX4_tempt_43 : decode cX4_tempt 43 = .ok (.getfield 20, 3) := by decide +kernel
theorem dX4_tempt_46 : decode cX4_tempt 46 = .ok (.iload_n 1, 1) := by decide +kernel
theorem dX4_tempt_47 : decode cX4_tempt 47 = .ok (.iconst 4, 1) := by decide +kernel
theorem dX4_tempt_48 : decode cX4_tempt 48 = .ok (.invokevirtual 82, 3) := by decide +kernel
theorem dX4_tempt_51 : decode cX4_tempt 51 = .ok (.invokevirtual 116, 3) := by decide +kernel
theorem dX4_tempt_54 : decode cX4_tempt 54 = .ok (.istore_n 2, 1) := by decide +kernel
theorem dX4_tempt_55 : decode cX4_tempt 55 = .ok (.aload_n 0, 1) := by decide +kernel
theorem dX4_tempt_56 : decode cX4_tempt 56 = .ok (.getfield 68, 3) := by decide +kernel
theorem dX4_tempt_59 : decode cX4_tempt 59 = .ok (.bipush 100, 2) := by decide +kernel
theorem dX4_tempt_61 : decode cX4_tempt 61 = .ok (.irem, 1) := by decide +kernel
theorem dX4_tempt_62 : decode cX4_tempt 62 = .ok (.iload_n 2, 1) := by decide +kernel
theorem dX4_tempt_63 : decode cX4_tempt 63 = .ok (.if_icmp .lt 4, 3) := by decide +kernel
theorem dX4_tempt_66 : decode cX4_tempt 66 = .ok (.return_, 1) := by decide +kernel
theorem dX4_tempt_67 : decode cX4_tempt 67 = .ok (.aload_n 0, 1) := by decide +kernel
theorem dX4_tempt_68 : decode cX4_tempt 68 = .ok (.iload_n 1, 1) := by decide +kernel
theorem dX4_tempt_69 : decode cX4_tempt 69 = .ok (.aload_n 0, 1) := by decide +kernel
theorem dX4_tempt_70 : decode cX4_tempt 70 = .ok (.getfield 68, 3) := by decide +kernel
theorem dX4_tempt_73 : decode cX4_tempt 73 = .ok (.bipush 100, 2) := by decide +kernel
theorem dX4_tempt_75 : decode cX4_tempt 75 = .ok (.idiv, 1) := by decide +kernel
theorem dX4_tempt_76 : decode cX4_tempt 76 = .ok (.iconst 4, 1) := by decide +kernel
theorem dX4_tempt_77 : decode cX4_tempt 77 = .ok (.irem, 1) := by decide +kernel
theorem dX4_tempt_78 : decode cX4_tempt 78 = .ok (.invokevirtual 171, 3) := by decide +kernel
theorem dX4_tempt_81 : decode cX4_tempt 81 = .ok (.istore_n 3, 1) := by decide +kernel
theorem dX4_tempt_82 : decode cX4_tempt 82 = .ok (.iload_n 3, 1) := by decide +kernel
theorem dX4_tempt_83 : decode cX4_tempt 83 = .ok (.ifCond .le 15, 3) := by decide +kernel
theorem dX4_tempt_86 : decode cX4_tempt 86 = .ok (.aload_n 0, 1) := by decide +kernel
theorem dX4_tempt_87 : decode cX4_tempt 87 = .ok (.iload_n 1, 1) := by decide +kernel
theorem dX4_tempt_88 : decode cX4_tempt 88 = .ok (.iconst 3, 1) := by decide +kernel
theorem dX4_tempt_89 : decode cX4_tempt 89 = .ok (.aload_n 0, 1) := by decide +kernel
theorem dX4_tempt_90 : decode cX4_tempt 90 = .ok (.getfield 64, 3) := by decide +kernel
theorem dX4_tempt_93 : decode cX4_tempt 93 = .ok (.iload_n 3, 1) := by decide +kernel
theorem dX4_tempt_94 : decode cX4_tempt 94 = .ok (.iadd, 1) := by decide +kernel
theorem dX4_tempt_95 : decode cX4_tempt 95 = .ok (.invokevirtual 74, 3) := by decide +kernel
theorem dX4_tempt_98 : decode cX4_tempt 98 = .ok (.return_, 1) := by decide +kernel
theorem dX4_earn_0 : decode cX4_earn 0 = .ok (.aload_n 0, 1) := by decide +kernel
theorem dX4_earn_1 : decode cX4_earn 1 = .ok (.getfield 20, 3) := by decide +kernel
theorem dX4_earn_4 : decode cX4_earn 4 = .ok (.iload_n 1, 1) := by decide +kernel
theorem dX4_earn_5 : decode cX4_earn 5 = .ok (.iconst 5, 1) := by decide +kernel
theorem dX4_earn_6 : decode cX4_earn 6 = .ok (.invokevirtual 82, 3) := by decide +kernel
theorem dX4_earn_9 : decode cX4_earn 9 = .ok (.istore_n 2, 1) := by decide +kernel
theorem dX4_earn_10 : decode cX4_earn 10 = .ok (.iload_n 2, 1) := by decide +kernel
theorem dX4_earn_11 : decode cX4_earn 11 = .ok (.iconst 2, 1) := by decide +kernel
theorem dX4_earn_12 : decode cX4_earn 12 = .ok (.if_icmp .eq 9, 3) := by decide +kernel
theorem dX4_earn_15 : decode cX4_earn 15 = .ok (.iload_n 2, 1) := by decide +kernel
theorem dX4_earn_16 : decode cX4_earn 16 = .ok (.iconst 4, 1) := by decide +kernel
theorem dX4_earn_17 : decode cX4_earn 17 = .ok (.if_icmp .eq 4, 3) := by decide +kernel
theorem dX4_earn_20 : decode cX4_earn 20 = .ok (.return_, 1) := by decide +kernel
theorem dX4_earn_21 : decode cX4_earn 21 = .ok (.iload_n 2, 1) := by decide +kernel
theorem dX4_earn_22 : decode cX4_earn 22 = .ok (.iconst 4, 1) := by decide +kernel
theorem dX4_earn_23 : decode cX4_earn 23 = .ok (.if_icmp .ne 7, 3) := by decide +kernel
theorem dX4_earn_26 : decode cX4_earn 26 = .ok (.iconst 5, 1) := by decide +kernel
theorem dX4_earn_27 : decode cX4_earn 27 = .ok (.goto 21, 3) := by decide +kernel
theorem dX4_earn_30 : decode cX4_earn 30 = .ok (.aload_n 0, 1) := by decide +kernel
theorem dX4_earn_31 : decode cX4_earn 31 = .ok (.getfield 23, 3) := by decide +kernel
theorem dX4_earn_34 : decode cX4_earn 34 = .ok (.aload_n 0, 1) := by decide +kernel
theorem dX4_earn_35 : decode cX4_earn 35 = .ok (.getfield 20, 3) := by decide +kernel
theorem dX4_earn_38 : decode cX4_earn 38 = .ok (.iload_n 1, 1) := by decide +kernel
theorem dX4_earn_39 : decode cX4_earn 39 = .ok (.bipush 6, 2) := by decide +kernel
theorem dX4_earn_41 : decode cX4_earn 41 = .ok (.invokevirtual 82, 3) := by decide +kernel
theorem dX4_earn_44 : decode cX4_earn 44 = .ok (.iconst 3, 1) := by decide +kernel
theorem dX4_earn_45 : decode cX4_earn 45 = .ok (.invokevirtual 82, 3) := by decide +kernel
theorem dX4_earn_48 : decode cX4_earn 48 = .ok (.istore_n 3, 1) := by decide +kernel
theorem dX4_earn_49 : decode cX4_earn 49 = .ok (.aload_n 0, 1) := by decide +kernel
theorem dX4_earn_50 : decode cX4_earn 50 = .ok (.getfield 53, 3) := by decide +kernel
theorem dX4_earn_53 : decode cX4_earn 53 = .ok (.iconst 4, 1) := by decide +kernel
theorem dX4_earn_54 : decode cX4_earn 54 = .ok (.aload_n 0, 1) := by decide +kernel
theorem dX4_earn_55 : decode cX4_earn 55 = .ok (.getfield 64, 3) := by decide +kernel
theorem dX4_earn_58 : decode cX4_earn 58 = .ok (.iload_n 3, 1) := by decide +kernel
theorem dX4_earn_59 : decode cX4_earn 59 = .ok (.aload_n 0, 1) := by decide +kernel
theorem dX4_earn_60 : decode cX4_earn 60 = .ok (.getfield 20, 3) := by decide +kernel
theorem dX4_earn_63 : decode cX4_earn 63 = .ok (.iload_n 1, 1) := by decide +kernel
theorem dX4_earn_64 : decode cX4_earn 64 = .ok (.iconst 0, 1) := by decide +kernel
theorem dX4_earn_65 : decode cX4_earn 65 = .ok (.invokevirtual 82, 3) := by decide +kernel
theorem dX4_earn_68 : decode cX4_earn 68 = .ok (.iconst 0, 1) := by decide +kernel
theorem dX4_earn_69 : decode cX4_earn 69 = .ok (.invokevirtual 116, 3) := by decide +kernel
theorem dX4_earn_72 : decode cX4_earn 72 = .ok (.istore 4, 2) := by decide +kernel
theorem dX4_earn_74 : decode cX4_earn 74 = .ok (.aload_n 0, 1) := by decide +kernel
theorem dX4_earn_75 : decode cX4_earn 75 = .ok (.dup, 1) := by decide +kernel
theorem dX4_earn_76 : decode cX4_earn 76 = .ok (.getfield 71, 3) := by decide +kernel
theorem dX4_earn_79 : decode cX4_earn 79 = .ok (.iload 4, 2) := by decide +kernel
theorem dX4_earn_81 : decode cX4_earn 81 = .ok (.iadd, 1) := by decide +kernel
theorem dX4_earn_82 : decode cX4_earn 82 = .ok (.putfield 71, 3) := by decide +kernel
theorem dX4_earn_85 : decode cX4_earn 85 = .ok (.aload_n 0, 1) := by decide +kernel
theorem dX4_earn_86 : decode cX4_earn 86 = .ok (.getfield 20, 3) := by decide +kernel
theorem dX4_earn_89 : decode cX4_earn 89 = .ok (.iload_n 1, 1) := by decide +kernel
theorem dX4_earn_90 : decode cX4_earn 90 = .ok (.bipush 9, 2) := by decide +kernel
theorem dX4_earn_92 : decode cX4_earn 92 = .ok (.aload_n 0, 1) := by decide +kernel
theorem dX4_earn_93 : decode cX4_earn 93 = .ok (.getfield 20, 3) := by decide +kernel
theorem dX4_earn_96 : decode cX4_earn 96 = .ok (.iload_n 1, 1) := by decide +kernel
theorem dX4_earn_97 : decode cX4_earn 97 = .ok (.bipush 9, 2) := by decide +kernel
theorem dX4_earn_99 : decode cX4_earn 99 = .ok (.invokevirtual 82, 3) := by decide +kernel
theorem dX4_earn_102 : decode cX4_earn 102 = .ok (.iload_n 3, 1) := by decide +kernel
theorem dX4_earn_103 : decode cX4_earn 103 = .ok (.iadd, 1) := by decide +kernel
theorem dX4_earn_104 : decode cX4_earn 104 = .ok (.iload 4, 2) := by decide +kernel
theorem dX4_earn_106 : decode cX4_earn 106 = .ok (.isub, 1) := by decide +kernel
theorem dX4_earn_107 : decode cX4_earn 107 = .ok (.invokevirtual 79, 3) := by decide +kernel
theorem dX4_earn_110 : decode cX4_earn 110 = .ok (.return_, 1) := by decide +kernel
theorem dX4_release_0 : decode cX4_release 0 = .ok (.aload_n 0, 1) := by decide +kernel
theorem dX4_release_1 : decode cX4_release 1 = .ok (.getfield 20, 3) := by decide +kernel
theorem dX4_release_4 : decode cX4_release 4 = .ok (.iload_n 1, 1) := by decide +kernel
theorem dX4_release_5 : decode cX4_release 5 = .ok (.iconst 5, 1) := by decide +kernel
theorem dX4_release_6 : decode cX4_release 6 = .ok (.invokevirtual 82, 3) := by decide +kernel
theorem dX4_release_9 : decode cX4_release 9 = .ok (.iconst 3, 1) := by decide +kernel
theorem dX4_release_10 : decode cX4_release 10 = .ok (.if_icmp .ne 29, 3) := by decide +kernel
theorem dX4_release_13 : decode cX4_release 13 = .ok (.aload_n 0, 1) := by decide +kernel
theorem dX4_release_14 : decode cX4_release 14 = .ok (.getfield 20, 3) := by decide +kernel
theorem dX4_release_17 : decode cX4_release 17 = .ok (.iload_n 1, 1) := by decide +kernel
theorem dX4_release_18 : decode cX4_release 18 = .ok (.bipush 6, 2) := by decide +kernel
theorem dX4_release_20 : decode cX4_release 20 = .ok (.invokevirtual 82, 3) := by decide +kernel
theorem dX4_release_23 : decode cX4_release 23 = .ok (.aload_n 0, 1) := by decide +kernel
theorem dX4_release_24 : decode cX4_release 24 = .ok (.getfield 64, 3) := by decide +kernel
theorem dX4_release_27 : decode cX4_release 27 = .ok (.iconst 1, 1) := by decide +kernel
theorem dX4_release_28 : decode cX4_release 28 = .ok (.iadd, 1) := by decide +kernel
theorem dX4_release_29 : decode cX4_release 29 = .ok (.if_icmp .ne 10, 3) := by decide +kernel
theorem dX4_release_32 : decode cX4_release 32 = .ok (.aload_n 0, 1) := by decide +kernel
theorem dX4_release_33 : decode cX4_release 33 = .ok (.iload_n 1, 1) := by decide +kernel
theorem dX4_release_34 : decode cX4_release 34 = .ok (.iconst 1, 1) := by decide +kernel
theorem dX4_release_35 : decode cX4_release 35 = .ok (.iconst 0, 1) := by decide +kernel
theorem dX4_release_36 : decode cX4_release 36 = .ok (.invokevirtual 74, 3) := by decide +kernel
theorem dX4_release_39 : decode cX4_release 39 = .ok (.aload_n 0, 1) := by decide +kernel
theorem dX4_release_40 : decode cX4_release 40 = .ok (.getfield 64, 3) := by decide +kernel
theorem dX4_release_43 : decode cX4_release 43 = .ok (.iconst 1, 1) := by decide +kernel
theorem dX4_release_44 : decode cX4_release 44 = .ok (.iadd, 1) := by decide +kernel
theorem dX4_release_45 : decode cX4_release 45 = .ok (.aload_n 0, 1) := by decide +kernel
theorem dX4_release_46 : decode cX4_release 46 = .ok (.getfield 20, 3) := by decide +kernel
theorem dX4_release_49 : decode cX4_release 49 = .ok (.iload_n 1, 1) := by decide +kernel
theorem dX4_release_50 : decode cX4_release 50 = .ok (.bipush 10, 2) := by decide +kernel
theorem dX4_release_52 : decode cX4_release 52 = .ok (.invokevirtual 82, 3) := by decide +kernel
theorem dX4_release_55 : decode cX4_release 55 = .ok (.isub, 1) := by decide +kernel
theorem dX4_release_56 : decode cX4_release 56 = .ok (.aload_n 0, 1) := by decide +kernel
theorem dX4_release_57 : decode cX4_release 57 = .ok (.getfield 20, 3) := by decide +kernel
theorem dX4_release_60 : decode cX4_release 60 = .ok (.iload_n 1, 1) := by decide +kernel
theorem dX4_release_61 : decode cX4_release 61 = .ok (.bipush 13, 2) := by decide +kernel
theorem dX4_release_63 : decode cX4_release 63 = .ok (.invokevirtual 82, 3) := by decide +kernel
theorem dX4_release_66 : decode cX4_release 66 = .ok (.if_icmp .lt 7, 3) := by decide +kernel
theorem dX4_release_69 : decode cX4_release 69 = .ok (.iconst 1, 1) := by decide +kernel
theorem dX4_release_70 : decode cX4_release 70 = .ok (.goto 4, 3) := by decide +kernel
theorem dX4_release_73 : decode cX4_release 73 = .ok (.iconst 0, 1) := by decide +kernel
theorem dX4_release_74 : decode cX4_release 74 = .ok (.istore_n 2, 1) := by decide +kernel
theorem dX4_release_75 : decode cX4_release 75 = .ok (.iload_n 2, 1) := by decide +kernel
theorem dX4_release_76 : decode cX4_release 76 = .ok (.ifCond .eq 19, 3) := by decide +kernel
theorem dX4_release_79 : decode cX4_release 79 = .ok (.aload_n 0, 1) := by decide +kernel
theorem dX4_release_80 : decode cX4_release 80 = .ok (.iload_n 1, 1) := by decide +kernel
theorem dX4_release_81 : decode cX4_release 81 = .ok (.invokevirtual 147, 3) := by decide +kernel
theorem dX4_release_84 : decode cX4_release 84 = .ok (.ifCond .eq 11, 3) := by decide +kernel
theorem dX4_release_87 : decode cX4_release 87 = .ok (.aload_n 0, 1) := by decide +kernel
theorem dX4_release_88 : decode cX4_release 88 = .ok (.iload_n 1, 1) := by decide +kernel
theorem dX4_release_89 : decode cX4_release 89 = .ok (.bipush 6, 2) := by decide +kernel
theorem dX4_release_91 : decode cX4_release 91 = .ok (.iconst 0, 1) := by decide +kernel
theorem dX4_release_92 : decode cX4_release 92 = .ok (.invokevirtual 74, 3) := by decide +kernel
theorem dX4_release_95 : decode cX4_release 95 = .ok (.return_, 1) := by decide +kernel
theorem dX4_bringLetters_0 : decode cX4_bringLetters 0 = .ok (.iconst 0, 1) := by decide +kernel
theorem dX4_bringLetters_1 : decode cX4_bringLetters 1 = .ok (.istore_n 1, 1) := by decide +kernel
theorem dX4_bringLetters_2 : decode cX4_bringLetters 2 = .ok (.iload_n 1, 1) := by decide +kernel
theorem dX4_bringLetters_3 : decode cX4_bringLetters 3 = .ok (.aload_n 0, 1) := by decide +kernel
theorem dX4_bringLetters_4 : decode cX4_bringLetters 4 = .ok (.getfield 29, 3) := by decide +kernel
theorem dX4_bringLetters_7 : decode cX4_bringLetters 7 = .ok (.getfield 100, 3) := by decide +kernel
theorem dX4_bringLetters_10 : decode cX4_bringLetters 10 = .ok (.if_icmp .ge 65, 3) := by decide +kernel
theorem dX4_bringLetters_13 : decode cX4_bringLetters 13 = .ok (.aload_n 0, 1) := by decide +kernel
theorem dX4_bringLetters_14 : decode cX4_bringLetters 14 = .ok (.getfield 29, 3) := by decide +kernel
theorem dX4_bringLetters_17 : decode cX4_bringLetters 17 = .ok (.iload_n 1, 1) := by decide +kernel
theorem dX4_bringLetters_18 : decode cX4_bringLetters 18 = .ok (.iconst 2, 1) := by decide +kernel
theorem dX4_bringLetters_19 : decode cX4_bringLetters 19 = .ok (.invokevirtual 82, 3) := by decide +kernel
theorem dX4_bringLetters_22 : decode cX4_bringLetters 22 = .ok (.aload_n 0, 1) := by decide +kernel
theorem dX4_bringLetters_23 : decode cX4_bringLetters 23 = .ok (.getfield 64, 3) := by decide +kernel
theorem dX4_bringLetters_26 : decode cX4_bringLetters 26 = .ok (.if_icmp .ne 43, 3) := by decide +kernel
theorem dX4_bringLetters_29 : decode cX4_bringLetters 29 = .ok (.aload_n 0, 1) := by decide +kernel
theorem dX4_bringLetters_30 : decode cX4_bringLetters 30 = .ok (.getfield 29, 3) := by decide +kernel
theorem dX4_bringLetters_33 : decode cX4_bringLetters 33 = .ok (.iload_n 1, 1) := by decide +kernel
theorem dX4_bringLetters_34 : decode cX4_bringLetters 34 = .ok (.iconst 3, 1) := by decide +kernel
theorem dX4_bringLetters_35 : decode cX4_bringLetters 35 = .ok (.iconst 1, 1) := by decide +kernel
theorem dX4_bringLetters_36 : decode cX4_bringLetters 36 = .ok (.invokevirtual 79, 3) := by decide +kernel
theorem dX4_bringLetters_39 : decode cX4_bringLetters 39 = .ok (.aload_n 0, 1) := by decide +kernel
theorem dX4_bringLetters_40 : decode cX4_bringLetters 40 = .ok (.getfield 29, 3) := by decide +kernel
theorem dX4_bringLetters_43 : decode cX4_bringLetters 43 = .ok (.iload_n 1, 1) := by decide +kernel
theorem dX4_bringLetters_44 : decode cX4_bringLetters 44 = .ok (.iconst 4, 1) := by decide +kernel
theorem dX4_bringLetters_45 : decode cX4_bringLetters 45 = .ok (.aload_n 0, 1) := by decide +kernel
theorem dX4_bringLetters_46 : decode cX4_bringLetters 46 = .ok (.aload_n 0, 1) := by decide +kernel
theorem dX4_bringLetters_47 : decode cX4_bringLetters 47 = .ok (.getfield 29, 3) := by decide +kernel
theorem dX4_bringLetters_50 : decode cX4_bringLetters 50 = .ok (.iload_n 1, 1) := by decide +kernel
theorem dX4_bringLetters_51 : decode cX4_bringLetters 51 = .ok (.iconst 0, 1) := by decide +kernel
theorem dX4_bringLetters_52 : decode cX4_bringLetters 52 = .ok (.invokevirtual 82, 3) := by decide +kernel
theorem dX4_bringLetters_55 : decode cX4_bringLetters 55 = .ok (.invokevirtual 86, 3) := by decide +kernel
theorem dX4_bringLetters_58 : decode cX4_bringLetters 58 = .ok (.ifCond .eq 7, 3) := by decide +kernel
theorem dX4_bringLetters_61 : decode cX4_bringLetters 61 = .ok (.iconst 1, 1) := by decide +kernel
theorem dX4_bringLetters_62 : decode cX4_bringLetters 62 = .ok (.goto 4, 3) := by decide +kernel
theorem dX4_bringLetters_65 : decode cX4_bringLetters 65 = .ok (.iconst 0, 1) := by decide +kernel
theorem dX4_bringLetters_66 : decode cX4_bringLetters 66 = .ok (.invokevirtual 79, 3) := by decide +kernel
theorem dX4_bringLetters_69 : decode cX4_bringLetters 69 = .ok (.iinc 1 1, 3) := by decide +kernel
theorem dX4_bringLetters_72 : decode cX4_bringLetters 72 = .ok (.goto (-70), 3) := by decide +kernel
theorem dX4_bringLetters_75 : decode cX4_bringLetters 75 = .ok (.return_, 1) := by decide +kernel
theorem dX4_menWhoMayBe_0 : decode cX4_menWhoMayBe 0 = .ok (.iconst 0, 1) := by decide +kernel
theorem dX4_menWhoMayBe_1 : decode cX4_menWhoMayBe 1 = .ok (.istore_n 2, 1) := by decide +kernel
theorem dX4_menWhoMayBe_2 : decode cX4_menWhoMayBe 2 = .ok (.iconst 0, 1) := by decide +kernel
theorem dX4_menWhoMayBe_3 : decode cX4_menWhoMayBe 3 = .ok (.istore_n 3, 1) := by decide +kernel
theorem dX4_menWhoMayBe_4 : decode cX4_menWhoMayBe 4 = .ok (.iload_n 3, 1) := by decide +kernel
theorem dX4_menWhoMayBe_5 : decode cX4_menWhoMayBe 5 = .ok (.aload_n 0, 1) := by decide +kernel
theorem dX4_menWhoMayBe_6 : decode cX4_menWhoMayBe 6 = .ok (.getfield 20, 3) := by decide +kernel
theorem dX4_menWhoMayBe_9 : decode cX4_menWhoMayBe 9 = .ok (.getfield 100, 3) := by decide +kernel
theorem dX4_menWhoMayBe_12 : decode cX4_menWhoMayBe 12 = .ok (.if_icmp .ge 24, 3) := by decide +kernel
theorem dX4_menWhoMayBe_15 : decode cX4_menWhoMayBe 15 = .ok (.aload_n 0, 1) := by decide +kernel
theorem dX4_menWhoMayBe_16 : decode cX4_menWhoMayBe 16 = .ok (.iload_n 1, 1) := by decide +kernel
theorem dX4_menWhoMayBe_17 : decode cX4_menWhoMayBe 17 = .ok (.iload_n 3, 1) := by decide +kernel
theorem dX4_menWhoMayBe_18 : decode cX4_menWhoMayBe 18 = .ok (.invokevirtual 174, 3) := by decide +kernel
theorem dX4_menWhoMayBe_21 : decode cX4_menWhoMayBe 21 = .ok (.ifCond .eq 9, 3) := by decide +kernel
theorem dX4_menWhoMayBe_24 : decode cX4_menWhoMayBe 24 = .ok (.iload_n 2, 1) := by decide +kernel
theorem dX4_menWhoMayBe_25 : decode cX4_menWhoMayBe 25 = .ok (.iconst 1, 1) := by decide +kernel
theorem dX4_menWhoMayBe_26 : decode cX4_menWhoMayBe 26 = .ok (.iload_n 3, 1) := by decide +kernel
theorem dX4_menWhoMayBe_27 : decode cX4_menWhoMayBe 27 = .ok (.ishl, 1) := by decide +kernel
theorem dX4_menWhoMayBe_28 : decode cX4_menWhoMayBe 28 = .ok (.ior, 1) := by decide +kernel
theorem dX4_menWhoMayBe_29 : decode cX4_menWhoMayBe 29 = .ok (.istore_n 2, 1) := by decide +kernel
theorem dX4_menWhoMayBe_30 : decode cX4_menWhoMayBe 30 = .ok (.iinc 3 1, 3) := by decide +kernel
theorem dX4_menWhoMayBe_33 : decode cX4_menWhoMayBe 33 = .ok (.goto (-29), 3) := by decide +kernel
theorem dX4_menWhoMayBe_36 : decode cX4_menWhoMayBe 36 = .ok (.iload_n 2, 1) := by decide +kernel
theorem dX4_menWhoMayBe_37 : decode cX4_menWhoMayBe 37 = .ok (.ireturn, 1) := by decide +kernel
theorem dX4_mayBe_0 : decode cX4_mayBe 0 = .ok (.aload_n 0, 1) := by decide +kernel
theorem dX4_mayBe_1 : decode cX4_mayBe 1 = .ok (.getfield 32, 3) := by decide +kernel
theorem dX4_mayBe_4 : decode cX4_mayBe 4 = .ok (.iload_n 1, 1) := by decide +kernel
theorem dX4_mayBe_5 : decode cX4_mayBe 5 = .ok (.iconst 0, 1) := by decide +kernel
theorem dX4_mayBe_6 : decode cX4_mayBe 6 = .ok (.invokevirtual 82, 3) := by decide +kernel
theorem dX4_mayBe_9 : decode cX4_mayBe 9 = .ok (.istore_n 3, 1) := by decide +kernel
theorem dX4_mayBe_10 : decode cX4_mayBe 10 = .ok (.aload_n 0, 1) := by decide +kernel
theorem dX4_mayBe_11 : decode cX4_mayBe 11 = .ok (.getfield 32, 3) := by decide +kernel
theorem dX4_mayBe_14 : decode cX4_mayBe 14 = .ok (.iload_n 1, 1) := by decide +kernel
theorem dX4_mayBe_15 : decode cX4_mayBe 15 = .ok (.iconst 1, 1) := by decide +kernel
theorem dX4_mayBe_16 : decode cX4_mayBe 16 = .ok (.invokevirtual 82, 3) := by decide +kernel
theorem dX4_mayBe_19 : decode cX4_mayBe 19 = .ok (.istore 4, 2) := by decide +kernel
theorem dX4_mayBe_21 : decode cX4_mayBe 21 = .ok (.aload_n 0, 1) := by decide +kernel
theorem dX4_mayBe_22 : decode cX4_mayBe 22 = .ok (.getfield 32, 3) := by decide +kernel
theorem dX4_mayBe_25 : decode cX4_mayBe 25 = .ok (.iload_n 1, 1) := by decide +kernel
theorem dX4_mayBe_26 : decode cX4_mayBe 26 = .ok (.iconst 2, 1) := by decide +kernel
theorem dX4_mayBe_27 : decode cX4_mayBe 27 = .ok (.invokevirtual 82, 3) := by decide +kernel
theorem dX4_mayBe_30 : decode cX4_mayBe 30 = .ok (.istore 5, 2) := by decide +kernel
theorem dX4_mayBe_32 : decode cX4_mayBe 32 = .ok (.aload_n 0, 1) := by decide +kernel
theorem dX4_mayBe_33 : decode cX4_mayBe 33 = .ok (.getfield 32, 3) := by decide +kernel
theorem dX4_mayBe_36 : decode cX4_mayBe 36 = .ok (.iload_n 1, 1) := by decide +kernel
theorem dX4_mayBe_37 : decode cX4_mayBe 37 = .ok (.iconst 3, 1) := by decide +kernel
theorem dX4_mayBe_38 : decode cX4_mayBe 38 = .ok (.invokevirtual 82, 3) := by decide +kernel
theorem dX4_mayBe_41 : decode cX4_mayBe 41 = .ok (.istore 6, 2) := by decide +kernel
theorem dX4_mayBe_43 : decode cX4_mayBe 43 = .ok (.iload_n 3, 1) := by decide +kernel
theorem dX4_mayBe_44 : decode cX4_mayBe 44 = .ok (.bipush 8, 2) := by decide +kernel
theorem dX4_mayBe_46 : decode cX4_mayBe 46 = .ok (.if_icmp .eq 18, 3) := by decide +kernel
theorem dX4_mayBe_49 : decode cX4_mayBe 49 = .ok (.iload_n 3, 1) := by decide +kernel
theorem dX4_mayBe_50 : decode cX4_mayBe 50 = .ok (.aload_n 0, 1) := by decide +kernel
theorem dX4_mayBe_51 : decode cX4_mayBe 51 = .ok (.getfield 20, 3) := by decide +kernel
theorem dX4_mayBe_54 : decode cX4_mayBe 54 = .ok (.iload_n 2, 1) := by decide +kernel
theorem dX4_mayBe_55 : decode cX4_mayBe 55 = .ok (.iconst 0, 1) := by decide +kernel
theorem dX4_mayBe_56 : decode cX4_mayBe 56 = .ok (.invokevirtual 82, 3) := by decide +kernel
theorem dX4_mayBe_59 : decode cX4_mayBe 59 = .ok (.if_icmp .eq 5, 3) := by decide +kernel
theorem dX4_mayBe_62 : decode cX4_mayBe 62 = .ok (.iconst 0, 1) := by decide +kernel
theorem dX4_mayBe_63 : decode cX4_mayBe 63 = .ok (.ireturn, 1) := by decide +kernel
theorem dX4_mayBe_64 : decode cX4_mayBe 64 = .ok (.iload 4, 2) := by decide +kernel
theorem dX4_mayBe_66 : decode cX4_mayBe 66 = .ok (.bipush 6, 2) := by decide +kernel
theorem dX4_mayBe_68 : decode cX4_mayBe 68 = .ok (.if_icmp .eq 19, 3) := by decide +kernel
theorem dX4_mayBe_71 : decode cX4_mayBe 71 = .ok (.iload 4, 2) := by decide +kernel
theorem dX4_mayBe_73 : decode cX4_mayBe 73 = .ok (.aload_n 0, 1) := by decide +kernel
theorem dX4_mayBe_74 : decode cX4_mayBe 74 = .ok (.getfield 20, 3) := by decide +kernel
theorem dX4_mayBe_77 : decode cX4_mayBe 77 = .ok (.iload_n 2, 1) := by decide +kernel
theorem dX4_mayBe_78 : decode cX4_mayBe 78 = .ok (.iconst 1, 1) := by decide +kernel
theorem dX4_mayBe_79 : decode cX4_mayBe 79 = .ok (.invokevirtual 82, 3) := by decide +kernel
theorem dX4_mayBe_82 : decode cX4_mayBe 82 = .ok (.if_icmp .eq 5, 3) := by decide +kernel
theorem dX4_mayBe_85 : decode cX4_mayBe 85 = .ok (.iconst 0, 1) := by decide +kernel
theorem dX4_mayBe_86 : decode cX4_mayBe 86 = .ok (.ireturn, 1) := by decide +kernel
theorem dX4_mayBe_87 : decode cX4_mayBe 87 = .ok (.iload 5, 2) := by decide +kernel
theorem dX4_mayBe_89 : decode cX4_mayBe 89 = .ok (.ifCond .eq 24, 3) := by decide +kernel
theorem dX4_mayBe_92 : decode cX4_mayBe 92 = .ok (.iload 5, 2) := by decide +kernel
theorem dX4_mayBe_94 : decode cX4_mayBe 94 = .ok (.aload_n 0, 1) := by decide +kernel
theorem dX4_mayBe_95 : decode cX4_mayBe 95 = .ok (.getfield 20, 3) := by decide +kernel
theorem dX4_mayBe_98 : decode cX4_mayBe 98 = .ok (.iload_n 2, 1) := by decide +kernel
theorem dX4_mayBe_99 : decode cX4_mayBe 99 = .ok (.iconst 2, 1) := by decide +kernel
theorem dX4_mayBe_100 : decode cX4_mayBe 100 = .ok (.invokevirtual 82, 3) := by decide +kernel
theorem dX4_mayBe_103 : decode cX4_mayBe 103 = .ok (.isub, 1) := by decide +kernel
theorem dX4_mayBe_104 : decode cX4_mayBe 104 = .ok (.invokestatic 178, 3) := by decide +kernel
theorem dX4_mayBe_107 : decode cX4_mayBe 107 = .ok (.iconst 2, 1) := by decide +kernel
theorem dX4_mayBe_108 : decode cX4_mayBe 108 = .ok (.if_icmp .le 5, 3) := by decide +kernel
theorem dX4_mayBe_111 : decode cX4_mayBe 111 = .ok (.iconst 0, 1) := by decide +kernel
theorem dX4_mayBe_112 : decode cX4_mayBe 112 = .ok (.ireturn, 1) := by decide +kernel
theorem dX4_mayBe_113 : decode cX4_mayBe 113 = .ok (.iload 6, 2) := by decide +kernel
theorem dX4_mayBe_115 : decode cX4_mayBe 115 = .ok (.aload_n 0, 1) := by decide +kernel
theorem dX4_mayBe_116 : decode cX4_mayBe 116 = .ok (.getfield 20, 3) := by decide +kernel
theorem dX4_mayBe_119 : decode cX4_mayBe 119 = .ok (.iload_n 2, 1) := by decide +kernel
theorem dX4_mayBe_120 : decode cX4_mayBe 120 = .ok (.iconst 3, 1) := by decide +kernel
theorem dX4_mayBe_121 : decode cX4_mayBe 121 = .ok (.invokevirtual 82, 3) := by decide +kernel
theorem dX4_mayBe_124 : decode cX4_mayBe 124 = .ok (.iand, 1) := by decide +kernel
theorem dX4_mayBe_125 : decode cX4_mayBe 125 = .ok (.iload 6, 2) := by decide +kernel
theorem dX4_mayBe_127 : decode cX4_mayBe 127 = .ok (.if_icmp .ne 7, 3) := by decide +kernel
theorem dX4_mayBe_130 : decode cX4_mayBe 130 = .ok (.iconst 1, 1) := by decide +kernel
theorem dX4_mayBe_131 : decode cX4_mayBe 131 = .ok (.goto 4, 3) := by decide +kernel
theorem dX4_mayBe_134 : decode cX4_mayBe 134 = .ok (.iconst 0, 1) := by decide +kernel
theorem dX4_mayBe_135 : decode cX4_mayBe 135 = .ok (.ireturn, 1) := by decide +kernel
theorem dX4_partingBit_0 : decode cX4_partingBit 0 = .ok (.iconst 0, 1) := by decide +kernel
theorem dX4_partingBit_1 : decode cX4_partingBit 1 = .ok (.istore_n 2, 1) := by decide +kernel
theorem dX4_partingBit_2 : decode cX4_partingBit 2 = .ok (.bipush 15, 2) := by decide +kernel
theorem dX4_partingBit_4 : decode cX4_partingBit 4 = .ok (.istore_n 3, 1) := by decide +kernel
theorem dX4_partingBit_5 : decode cX4_partingBit 5 = .ok (.iconst 0, 1) := by decide +kernel
theorem dX4_partingBit_6 : decode cX4_partingBit 6 = .ok (.istore 4, 2) := by decide +kernel
theorem dX4_partingBit_8 : decode cX4_partingBit 8 = .ok (.iload 4, 2) := by decide +kernel
theorem dX4_partingBit_10 : decode cX4_partingBit 10 = .ok (.bipush 8, 2) := by decide +kernel
theorem dX4_partingBit_12 : decode cX4_partingBit 12 = .ok (.if_icmp .ge 44, 3) := by decide +kernel
theorem dX4_partingBit_15 : decode cX4_partingBit 15 = .ok (.aload_n 0, 1) := by decide +kernel
theorem dX4_partingBit_16 : decode cX4_partingBit 16 = .ok (.iload_n 1, 1) := by decide +kernel
theorem dX4_partingBit_17 : decode cX4_partingBit 17 = .ok (.iload 4, 2) := by decide +kernel
theorem dX4_partingBit_19 : decode cX4_partingBit 19 = .ok (.invokevirtual 181, 3) := by decide +kernel
theorem dX4_partingBit_22 : decode cX4_partingBit 22 = .ok (.istore 5, 2) := by decide +kernel
theorem dX4_partingBit_24 : decode cX4_partingBit 24 = .ok (.iload 5, 2) := by decide +kernel
theorem dX4_partingBit_26 : decode cX4_partingBit 26 = .ok (.iload_n 1, 1) := by decide +kernel
theorem dX4_partingBit_27 : decode cX4_partingBit 27 = .ok (.invokestatic 184, 3) := by decide +kernel
theorem dX4_partingBit_30 : decode cX4_partingBit 30 = .ok (.iload 5, 2) := by decide +kernel
theorem dX4_partingBit_32 : decode cX4_partingBit 32 = .ok (.isub, 1) := by decide +kernel
theorem dX4_partingBit_33 : decode cX4_partingBit 33 = .ok (.invokestatic 165, 3) := by decide +kernel
theorem dX4_partingBit_36 : decode cX4_partingBit 36 = .ok (.istore 6, 2) := by decide +kernel
theorem dX4_partingBit_38 : decode cX4_partingBit 38 = .ok (.iload 6, 2) := by decide +kernel
theorem dX4_partingBit_40 : decode cX4_partingBit 40 = .ok (.iload_n 3, 1) := by decide +kernel
theorem dX4_partingBit_41 : decode cX4_partingBit 41 = .ok (.if_icmp .ge 9, 3) := by decide +kernel
theorem dX4_partingBit_44 : decode cX4_partingBit 44 = .ok (.iload 4, 2) := by decide +kernel
theorem dX4_partingBit_46 : decode cX4_partingBit 46 = .ok (.istore_n 2, 1) := by decide +kernel
theorem dX4_partingBit_47 : decode cX4_partingBit 47 = .ok (.iload 6, 2) := by decide +kernel
theorem dX4_partingBit_49 : decode cX4_partingBit 49 = .ok (.istore_n 3, 1) := by decide +kernel
theorem dX4_partingBit_50 : decode cX4_partingBit 50 = .ok (.iinc 4 1, 3) := by decide +kernel
theorem dX4_partingBit_53 : decode cX4_partingBit 53 = .ok (.goto (-45), 3) := by decide +kernel
theorem dX4_partingBit_56 : decode cX4_partingBit 56 = .ok (.iload_n 2, 1) := by decide +kernel
theorem dX4_partingBit_57 : decode cX4_partingBit 57 = .ok (.ireturn, 1) := by decide +kernel
theorem dX4_withSkin_0 : decode cX4_withSkin 0 = .ok (.iconst 0, 1) := by decide +kernel
theorem dX4_withSkin_1 : decode cX4_withSkin 1 = .ok (.istore_n 3, 1) := by decide +kernel
theorem dX4_withSkin_2 : decode cX4_withSkin 2 = .ok (.iconst 0, 1) := by decide +kernel
theorem dX4_withSkin_3 : decode cX4_withSkin 3 = .ok (.istore 4, 2) := by decide +kernel
theorem dX4_withSkin_5 : decode cX4_withSkin 5 = .ok (.iload 4, 2) := by decide +kernel
theorem dX4_withSkin_7 : decode cX4_withSkin 7 = .ok (.aload_n 0, 1) := by decide +kernel
theorem dX4_withSkin_8 : decode cX4_withSkin 8 = .ok (.getfield 20, 3) := by decide +kernel
theorem dX4_withSkin_11 : decode cX4_withSkin 11 = .ok (.getfield 100, 3) := by decide +kernel
theorem dX4_withSkin_14 : decode cX4_withSkin 14 = .ok (.if_icmp .ge 31, 3) := by decide +kernel
theorem dX4_withSkin_17 : decode cX4_withSkin 17 = .ok (.iload_n 3, 1) := by decide +kernel
theorem dX4_withSkin_18 : decode cX4_withSkin 18 = .ok (.iload_n 1, 1) := by decide +kernel
theorem dX4_withSkin_19 : decode cX4_withSkin 19 = .ok (.iload 4, 2) := by decide +kernel
theorem dX4_withSkin_21 : decode cX4_withSkin 21 = .ok (.ishr, 1) := by decide +kernel
theorem dX4_withSkin_22 : decode cX4_withSkin 22 = .ok (.aload_n 0, 1) := by decide +kernel
theorem dX4_withSkin_23 : decode cX4_withSkin 23 = .ok (.getfield 20, 3) := by decide +kernel
theorem dX4_withSkin_26 : decode cX4_withSkin 26 = .ok (.iload 4, 2) := by decide +kernel
theorem dX4_withSkin_28 : decode cX4_withSkin 28 = .ok (.iconst 3, 1) := by decide +kernel
theorem dX4_withSkin_29 : decode cX4_withSkin 29 = .ok (.invokevirtual 82, 3) := by decide +kernel
theorem dX4_withSkin_32 : decode cX4_withSkin 32 = .ok (.iload_n 2, 1) := by decide +kernel
theorem dX4_withSkin_33 : decode cX4_withSkin 33 = .ok (.ishr, 1) := by decide +kernel
theorem dX4_withSkin_34 : decode cX4_withSkin 34 = .ok (.iand, 1) := by decide +kernel
theorem dX4_withSkin_35 : decode cX4_withSkin 35 = .ok (.iconst 1, 1) := by decide +kernel
theorem dX4_withSkin_36 : decode cX4_withSkin 36 = .ok (.iand, 1) := by decide +kernel
theorem dX4_withSkin_37 : decode cX4_withSkin 37 = .ok (.iadd, 1) := by decide +kernel
theorem dX4_withSkin_38 : decode cX4_withSkin 38 = .ok (.istore_n 3, 1) := by decide +kernel
theorem dX4_withSkin_39 : decode cX4_withSkin 39 = .ok (.iinc 4 1, 3) := by decide +kernel
theorem dX4_withSkin_42 : decode cX4_withSkin 42 = .ok (.goto (-37), 3) := by decide +kernel
theorem dX4_withSkin_45 : decode cX4_withSkin 45 = .ok (.iload_n 3, 1) := by decide +kernel
theorem dX4_withSkin_46 : decode cX4_withSkin 46 = .ok (.ireturn, 1) := by decide +kernel
theorem dX5_init_0 : decode cX5_init 0 = .ok (.aload_n 0, 1) := by decide +kernel
theorem dX5_init_1 : decode cX5_init 1 = .ok (.invokespecial 3, 3) := by decide +kernel
theorem dX5_init_4 : decode cX5_init 4 = .ok (.aload_n 0, 1) := by decide +kernel
theorem dX5_init_5 : decode cX5_init 5 = .ok (.iconst 1, 1) := by decide +kernel
theorem dX5_init_6 : decode cX5_init 6 = .ok (.iload_n 1, 1) := by decide +kernel
theorem dX5_init_7 : decode cX5_init 7 = .ok (.invokestatic 9, 3) := by decide +kernel
theorem dX5_init_10 : decode cX5_init 10 = .ok (.putfield 15, 3) := by decide +kernel
theorem dX5_init_13 : decode cX5_init 13 = .ok (.aload_n 0, 1) := by decide +kernel
theorem dX5_init_14 : decode cX5_init 14 = .ok (.iconst 1, 1) := by decide +kernel
theorem dX5_init_15 : decode cX5_init 15 = .ok (.iload_n 1, 1) := by decide +kernel
theorem dX5_init_16 : decode cX5_init 16 = .ok (.invokestatic 9, 3) := by decide +kernel
theorem dX5_init_19 : decode cX5_init 19 = .ok (.iconst 0, 1) := by decide +kernel
theorem dX5_init_20 : decode cX5_init 20 = .ok (.iload_n 2, 1) := by decide +kernel
theorem dX5_init_21 : decode cX5_init 21 = .ok (.invokestatic 9, 3) := by decide +kernel
theorem dX5_init_24 : decode cX5_init 24 = .ok (.imul, 1) := by decide +kernel
theorem dX5_init_25 : decode cX5_init 25 = .ok (.newarray .int, 2) := by decide +kernel
theorem dX5_init_27 : decode cX5_init 27 = .ok (.putfield 21, 3) := by decide +kernel
theorem dX5_init_30 : decode cX5_init 30 = .ok (.return_, 1) := by decide +kernel
theorem dX5_holds_0 : decode cX5_holds 0 = .ok (.iload_n 1, 1) := by decide +kernel
theorem dX5_holds_1 : decode cX5_holds 1 = .ok (.ifCond .lt 15, 3) := by decide +kernel
theorem dX5_holds_4 : decode cX5_holds 4 = .ok (.iload_n 1, 1) := by decide +kernel
theorem dX5_holds_5 : decode cX5_holds 5 = .ok (.aload_n 0, 1) := by decide +kernel
theorem dX5_holds_6 : decode cX5_holds 6 = .ok (.getfield 25, 3) := by decide +kernel
theorem dX5_holds_9 : decode cX5_holds 9 = .ok (.if_icmp .ge 7, 3) := by decide +kernel
theorem dX5_holds_12 : decode cX5_holds 12 = .ok (.iconst 1, 1) := by decide +kernel
theorem dX5_holds_13 : decode cX5_holds 13 = .ok (.goto 4, 3) := by decide +kernel
theorem dX5_holds_16 : decode cX5_holds 16 = .ok (.iconst 0, 1) := by decide +kernel
theorem dX5_holds_17 : decode cX5_holds 17 = .ok (.ireturn, 1) := by decide +kernel
theorem dX5_get_0 : decode cX5_get 0 = .ok (.iload_n 1, 1) := by decide +kernel
theorem dX5_get_1 : decode cX5_get 1 = .ok (.aload_n 0, 1) := by decide +kernel
theorem dX5_get_2 : decode cX5_get 2 = .ok (.getfield 15, 3) := by decide +kernel
theorem dX5_get_5 : decode cX5_get 5 = .ok (.imul, 1) := by decide +kernel
theorem dX5_get_6 : decode cX5_get 6 = .ok (.iload_n 2, 1) := by decide +kernel
theorem dX5_get_7 : decode cX5_get 7 = .ok (.iadd, 1) := by decide +kernel
theorem dX5_get_8 : decode cX5_get 8 = .ok (.istore_n 3, 1) := by decide +kernel
theorem dX5_get_9 : decode cX5_get 9 = .ok (.iload_n 1, 1) := by decide +kernel
theorem dX5_get_10 : decode cX5_get 10 = .ok (.ifCond .lt 19, 3) := by decide +kernel
theorem dX5_get_13 : decode cX5_get 13 = .ok (.iload_n 2, 1) := by decide +kernel
theorem dX5_get_14 : decode cX5_get 14 = .ok (.ifCond .lt 15, 3) := by decide +kernel
theorem dX5_get_17 : decode cX5_get 17 = .ok (.iload_n 2, 1) := by decide +kernel
theorem dX5_get_18 : decode cX5_get 18 = .ok (.aload_n 0, 1) := by decide +kernel
theorem dX5_get_19 : decode cX5_get 19 = .ok (.getfield 15, 3) := by decide +kernel
theorem dX5_get_22 : decode cX5_get 22 = .ok (.if_icmp .ge 7, 3) := by decide +kernel
theorem dX5_get_25 : decode cX5_get 25 = .ok (.iconst 1, 1) := by decide +kernel
theorem dX5_get_26 : decode cX5_get 26 = .ok (.goto 4, 3) := by decide +kernel
theorem dX5_get_29 : decode cX5_get 29 = .ok (.iconst 0, 1) := by decide +kernel
theorem dX5_get_30 : decode cX5_get 30 = .ok (.istore 4, 2) := by decide +kernel
theorem dX5_get_32 : decode cX5_get 32 = .ok (.iload 4, 2) := by decide +kernel
theorem dX5_get_34 : decode cX5_get 34 = .ok (.ifCond .eq 25, 3) := by decide +kernel
theorem dX5_get_37 : decode cX5_get 37 = .ok (.iload_n 3, 1) := by decide +kernel
theorem dX5_get_38 : decode cX5_get 38 = .ok (.ifCond .lt 21, 3) := by decide +kernel
theorem dX5_get_41 : decode cX5_get 41 = .ok (.iload_n 3, 1) := by decide +kernel
theorem dX5_get_42 : decode cX5_get 42 = .ok (.aload_n 0, 1) := by decide +kernel
theorem dX5_get_43 : decode cX5_get 43 = .ok (.getfield 21, 3) := by decide +kernel
theorem dX5_get_46 : decode cX5_get 46 = .ok (.arraylength, 1) := by decide +kernel
theorem dX5_get_47 : decode cX5_get 47 = .ok (.if_icmp .ge 12, 3) := by decide +kernel
theorem dX5_get_50 : decode cX5_get 50 = .ok (.aload_n 0, 1) := by decide +kernel
theorem dX5_get_51 : decode cX5_get 51 = .ok (.getfield 21, 3) := by decide +kernel
theorem dX5_get_54 : decode cX5_get 54 = .ok (.iload_n 3, 1) := by decide +kernel
theorem dX5_get_55 : decode cX5_get 55 = .ok (.iaload, 1) := by decide +kernel
theorem dX5_get_56 : decode cX5_get 56 = .ok (.goto 4, 3) := by decide +kernel
theorem dX5_get_59 : decode cX5_get 59 = .ok (.iconst 0, 1) := by decide +kernel
theorem dX5_get_60 : decode cX5_get 60 = .ok (.ireturn, 1) := by decide +kernel
theorem dX5_set_0 : decode cX5_set 0 = .ok (.iload_n 1, 1) := by decide +kernel
theorem dX5_set_1 : decode cX5_set 1 = .ok (.aload_n 0, 1) := by decide +kernel
theorem dX5_set_2 : decode cX5_set 2 = .ok (.getfield 15, 3) := by decide +kernel
theorem dX5_set_5 : decode cX5_set 5 = .ok (.imul, 1) := by decide +kernel
theorem dX5_set_6 : decode cX5_set 6 = .ok (.iload_n 2, 1) := by decide +kernel
theorem dX5_set_7 : decode cX5_set 7 = .ok (.iadd, 1) := by decide +kernel
theorem dX5_set_8 : decode cX5_set 8 = .ok (.istore 4, 2) := by decide +kernel
theorem dX5_set_10 : decode cX5_set 10 = .ok (.iload_n 1, 1) := by decide +kernel
theorem dX5_set_11 : decode cX5_set 11 = .ok (.ifCond .lt 19, 3) := by decide +kernel
theorem dX5_set_14 : decode cX5_set 14 = .ok (.iload_n 2, 1) := by decide +kernel
theorem dX5_set_15 : decode cX5_set 15 = .ok (.ifCond .lt 15, 3) := by decide +kernel
theorem dX5_set_18 : decode cX5_set 18 = .ok (.iload_n 2, 1) := by decide +kernel
theorem dX5_set_19 : decode cX5_set 19 = .ok (.aload_n 0, 1) := by decide +kernel
theorem dX5_set_20 : decode cX5_set 20 = .ok (.getfield 15, 3) := by decide +kernel
theorem dX5_set_23 : decode cX5_set 23 = .ok (.if_icmp .ge 7, 3) := by decide +kernel
theorem dX5_set_26 : decode cX5_set 26 = .ok (.iconst 1, 1) := by decide +kernel
theorem dX5_set_27 : decode cX5_set 27 = .ok (.goto 4, 3) := by decide +kernel
theorem dX5_set_30 : decode cX5_set 30 = .ok (.iconst 0, 1) := by decide +kernel
theorem dX5_set_31 : decode cX5_set 31 = .ok (.istore 5, 2) := by decide +kernel
theorem dX5_set_33 : decode cX5_set 33 = .ok (.iload 5, 2) := by decide +kernel
theorem dX5_set_35 : decode cX5_set 35 = .ok (.ifCond .eq 26, 3) := by decide +kernel
theorem dX5_set_38 : decode cX5_set 38 = .ok (.iload 4, 2) := by decide +kernel
theorem dX5_set_40 : decode cX5_set 40 = .ok (.ifCond .lt 21, 3) := by decide +kernel
theorem dX5_set_43 : decode cX5_set 43 = .ok (.iload 4, 2) := by decide +kernel
theorem dX5_set_45 : decode cX5_set 45 = .ok (.aload_n 0, 1) := by decide +kernel
theorem dX5_set_46 : decode cX5_set 46 = .ok (.getfield 21, 3) := by decide +kernel
theorem dX5_set_49 : decode cX5_set 49 = .ok (.arraylength, 1) := by decide +kernel
theorem dX5_set_50 : decode cX5_set 50 = .ok (.if_icmp .ge 11, 3) := by decide +kernel
theorem dX5_set_53 : decode cX5_set 53 = .ok (.aload_n 0, 1) := by decide +kernel
theorem dX5_set_54 : decode cX5_set 54 = .ok (.getfield 21, 3) := by decide +kernel
theorem dX5_set_57 : decode cX5_set 57 = .ok (.iload 4, 2) := by decide +kernel
theorem dX5_set_59 : decode cX5_set 59 = .ok (.iload_n 3, 1) := by decide +kernel
theorem dX5_set_60 : decode cX5_set 60 = .ok (.iastore, 1) := by decide +kernel
theorem dX5_set_61 : decode cX5_set 61 = .ok (.return_, 1) := by decide +kernel
theorem dX5_swap_0 : decode cX5_swap 0 = .ok (.aload_n 0, 1) := by decide +kernel
theorem dX5_swap_1 : decode cX5_swap 1 = .ok (.iload_n 1, 1) := by decide +kernel
theorem dX5_swap_2 : decode cX5_swap 2 = .ok (.iload_n 2, 1) := by decide +kernel
theorem dX5_swap_3 : decode cX5_swap 3 = .ok (.invokevirtual 28, 3) := by decide +kernel
theorem dX5_swap_6 : decode cX5_swap 6 = .ok (.istore 4, 2) := by decide +kernel
theorem dX5_swap_8 : decode cX5_swap 8 = .ok (.aload_n 0, 1) := by decide +kernel
theorem dX5_swap_9 : decode cX5_swap 9 = .ok (.iload_n 1, 1) := by decide +kernel
theorem dX5_swap_10 : decode cX5_swap 10 = .ok (.iload_n 2, 1) := by decide +kernel
theorem dX5_swap_11 : decode cX5_swap 11 = .ok (.iload_n 3, 1) := by decide +kernel
theorem dX5_swap_12 : decode cX5_swap 12 = .ok (.invokevirtual 31, 3) := by decide +kernel
theorem dX5_swap_15 : decode cX5_swap 15 = .ok (.iload 4, 2) := by decide +kernel
theorem dX5_swap_17 : decode cX5_swap 17 = .ok (.ireturn, 1) := by decide +kernel
theorem dX5_add_0 : decode cX5_add 0 = .ok (.aload_n 0, 1) := by decide +kernel
theorem dX5_add_1 : decode cX5_add 1 = .ok (.getfield 25, 3) := by decide +kernel
theorem dX5_add_4 : decode cX5_add 4 = .ok (.istore 5, 2) := by decide +kernel
theorem dX5_add_6 : decode cX5_add 6 = .ok (.iload 5, 2) := by decide +kernel
theorem dX5_add_8 : decode cX5_add 8 = .ok (.iconst 1, 1) := by decide +kernel
theorem dX5_add_9 : decode cX5_add 9 = .ok (.iadd, 1) := by decide +kernel
theorem dX5_add_10 : decode cX5_add 10 = .ok (.aload_n 0, 1) := by decide +kernel
theorem dX5_add_11 : decode cX5_add 11 = .ok (.getfield 15, 3) := by decide +kernel
theorem dX5_add_14 : decode cX5_add 14 = .ok (.imul, 1) := by decide +kernel
theorem dX5_add_15 : decode cX5_add 15 = .ok (.aload_n 0, 1) := by decide +kernel
theorem dX5_add_16 : decode cX5_add 16 = .ok (.getfield 21, 3) := by decide +kernel
theorem dX5_add_19 : decode cX5_add 19 = .ok (.arraylength, 1) := by decide +kernel
theorem dX5_add_20 : decode cX5_add 20 = .ok (.if_icmp .le 6, 3) := by decide +kernel
theorem dX5_add_23 : decode cX5_add 23 = .ok (.ldc 35, 2) := by decide +kernel
theorem dX5_add_25 : decode cX5_add 25 = .ok (.ireturn, 1) := by decide +kernel
theorem dX5_add_26 : decode cX5_add 26 = .ok (.aload_n 0, 1) := by decide +kernel
theorem dX5_add_27 : decode cX5_add 27 = .ok (.dup, 1) := by decide +kernel
theorem dX5_add_28 : decode cX5_add 28 = .ok (.getfield 25, 3) := by decide +kernel
theorem dX5_add_31 : decode cX5_add 31 = .ok (.iconst 1, 1) := by decide +kernel
theorem dX5_add_32 : decode cX5_add 32 = .ok (.iadd, 1) := by decide +kernel
theorem dX5_add_33 : decode cX5_add 33 = .ok (.putfield 25, 3) := by decide +kernel
theorem dX5_add_36 : decode cX5_add 36 = .ok (.aload_n 0, 1) := by decide +kernel
theorem dX5_add_37 : decode cX5_add 37 = .ok (.iload 5, 2) := by decide +kernel
theorem dX5_add_39 : decode cX5_add 39 = .ok (.iconst 0, 1) := by decide +kernel
theorem dX5_add_40 : decode cX5_add 40 = .ok (.iload_n 1, 1) := by decide +kernel
theorem dX5_add_41 : decode cX5_add 41 = .ok (.invokevirtual 31, 3) := by decide +kernel
theorem dX5_add_44 : decode cX5_add 44 = .ok (.aload_n 0, 1) := by decide +kernel
theorem dX5_add_45 : decode cX5_add 45 = .ok (.iload 5, 2) := by decide +kernel
theorem dX5_add_47 : decode cX5_add 47 = .ok (.iconst 1, 1) := by decide +kernel
theorem dX5_add_48 : decode cX5_add 48 = .ok (.iload_n 2, 1) := by decide +kernel
theorem dX5_add_49 : decode cX5_add 49 = .ok (.invokevirtual 31, 3) := by decide +kernel
theorem dX5_add_52 : decode cX5_add 52 = .ok (.aload_n 0, 1) := by decide +kernel
theorem dX5_add_53 : decode cX5_add 53 = .ok (.iload 5, 2) := by decide +kernel
theorem dX5_add_55 : decode cX5_add 55 = .ok (.iconst 2, 1) := by decide +kernel
theorem dX5_add_56 : decode cX5_add 56 = .ok (.iload_n 3, 1) := by decide +kernel
theorem dX5_add_57 : decode cX5_add 57 = .ok (.invokevirtual 31, 3) := by decide +kernel
theorem dX5_add_60 : decode cX5_add 60 = .ok (.aload_n 0, 1) := by decide +kernel
theorem dX5_add_61 : decode cX5_add 61 = .ok (.iload 5, 2) := by decide +kernel
theorem dX5_add_63 : decode cX5_add 63 = .ok (.iconst 3, 1) := by decide +kernel
theorem dX5_add_64 : decode cX5_add 64 = .ok (.iload 4, 2) := by decide +kernel
theorem dX5_add_66 : decode cX5_add 66 = .ok (.invokevirtual 31, 3) := by decide +kernel
theorem dX5_add_69 : decode cX5_add 69 = .ok (.iload 5, 2) := by decide +kernel
theorem dX5_add_71 : decode cX5_add 71 = .ok (.ireturn, 1) := by decide +kernel
theorem dX5_becomeAs_0 : decode cX5_becomeAs 0 = .ok (.aload_n 1, 1) := by decide +kernel
theorem dX5_becomeAs_1 : decode cX5_becomeAs 1 = .ok (.getfield 21, 3) := by decide +kernel
theorem dX5_becomeAs_4 : decode cX5_becomeAs 4 = .ok (.iconst 0, 1) := by decide +kernel
theorem dX5_becomeAs_5 : decode cX5_becomeAs 5 = .ok (.aload_n 0, 1) := by decide +kernel
theorem dX5_becomeAs_6 : decode cX5_becomeAs 6 = .ok (.getfield 21, 3) := by decide +kernel
theorem dX5_becomeAs_9 : decode cX5_becomeAs 9 = .ok (.iconst 0, 1) := by decide +kernel
theorem dX5_becomeAs_10 : decode cX5_becomeAs 10 = .ok (.aload_n 1, 1) := by decide +kernel
theorem dX5_becomeAs_11 : decode cX5_becomeAs 11 = .ok (.getfield 21, 3) := by decide +kernel
theorem dX5_becomeAs_14 : decode cX5_becomeAs 14 = .ok (.arraylength, 1) := by decide +kernel
theorem dX5_becomeAs_15 : decode cX5_becomeAs 15 = .ok (.aload_n 0, 1) := by decide +kernel
theorem dX5_becomeAs_16 : decode cX5_becomeAs 16 = .ok (.getfield 21, 3) := by decide +kernel
theorem dX5_becomeAs_19 : decode cX5_becomeAs 19 = .ok (.arraylength, 1) := by decide +kernel
theorem dX5_becomeAs_20 : decode cX5_becomeAs 20 = .ok (.invokestatic 36, 3) := by decide +kernel
theorem dX5_becomeAs_23 : decode cX5_becomeAs 23 = .ok (.invokestatic 39, 3) := by decide +kernel
theorem dX5_becomeAs_26 : decode cX5_becomeAs 26 = .ok (.aload_n 0, 1) := by decide +kernel
theorem dX5_becomeAs_27 : decode cX5_becomeAs 27 = .ok (.aload_n 1, 1) := by decide +kernel
theorem dX5_becomeAs_28 : decode cX5_becomeAs 28 = .ok (.getfield 25, 3) := by decide +kernel
theorem dX5_becomeAs_31 : decode cX5_becomeAs 31 = .ok (.putfield 25, 3) := by decide +kernel
theorem dX5_becomeAs_34 : decode cX5_becomeAs 34 = .ok (.return_, 1) := by decide +kernel
theorem dX6_init_0 : decode cX6_init 0 = .ok (.aload_n 0, 1) := by decide +kernel
theorem dX6_init_1 : decode cX6_init 1 = .ok (.invokespecial 3, 3) := by decide +kernel
theorem dX6_init_4 : decode cX6_init 4 = .ok (.aload_n 0, 1) := by decide +kernel
theorem dX6_init_5 : decode cX6_init 5 = .ok (.bipush 96, 2) := by decide +kernel
theorem dX6_init_7 : decode cX6_init 7 = .ok (.newarray .byte, 2) := by decide +kernel
theorem dX6_init_9 : decode cX6_init 9 = .ok (.putfield 9, 3) := by decide +kernel
theorem dX6_init_12 : decode cX6_init 12 = .ok (.aload_n 0, 1) := by decide +kernel
theorem dX6_init_13 : decode cX6_init 13 = .ok (.bipush 96, 2) := by decide +kernel
theorem dX6_init_15 : decode cX6_init 15 = .ok (.newarray .int, 2) := by decide +kernel
theorem dX6_init_17 : decode cX6_init 17 = .ok (.putfield 15, 3) := by decide +kernel
theorem dX6_init_20 : decode cX6_init 20 = .ok (.aload_n 0, 1) := by decide +kernel
theorem dX6_init_21 : decode cX6_init 21 = .ok (.bipush 96, 2) := by decide +kernel
theorem dX6_init_23 : decode cX6_init 23 = .ok (.newarray .int, 2) := by decide +kernel
theorem dX6_init_25 : decode cX6_init 25 = .ok (.putfield 19, 3) := by decide +kernel
theorem dX6_init_28 : decode cX6_init 28 = .ok (.return_, 1) := by decide +kernel
theorem dX6_append_0 : decode cX6_append 0 = .ok (.aload_n 0, 1) := by decide +kernel
theorem dX6_append_1 : decode cX6_append 1 = .ok (.getfield 22, 3) := by decide +kernel
theorem dX6_append_4 : decode cX6_append 4 = .ok (.ifCond .lt 18, 3) := by decide +kernel
theorem dX6_append_7 : decode cX6_append 7 = .ok (.aload_n 0, 1) := by decide +kernel
theorem dX6_append_8 : decode cX6_append 8 = .ok (.getfield 22, 3) := by decide +kernel
theorem dX6_append_11 : decode cX6_append 11 = .ok (.bipush 12, 2) := by decide +kernel
theorem dX6_append_13 : decode cX6_append 13 = .ok (.iadd, 1) := by decide +kernel
theorem dX6_append_14 : decode cX6_append 14 = .ok (.aload_n 0, 1) := by decide +kernel
theorem dX6_append_15 : decode cX6_append 15 = .ok (.getfield 9, 3) := by decide +kernel
theorem dX6_append_18 : decode cX6_append 18 = .ok (.arraylength, 1) := by decide +kernel
theorem dX6_append_19 : decode cX6_append 19 = .ok (.if_icmp .le 5, 3) := by decide +kernel
theorem dX6_append_22 : decode cX6_append 22 = .ok (.iconst 0, 1) := by decide +kernel
theorem dX6_append_23 : decode cX6_append 23 = .ok (.ireturn, 1) := by decide +kernel
theorem dX6_append_24 : decode cX6_append 24 = .ok (.aload_n 0, 1) := by decide +kernel
theorem dX6_append_25 : decode cX6_append 25 = .ok (.iload_n 1, 1) := by decide +kernel
theorem dX6_append_26 : decode cX6_append 26 = .ok (.invokevirtual 26, 3) := by decide +kernel
theorem dX6_append_29 : decode cX6_append 29 = .ok (.aload_n 0, 1) := by decide +kernel
theorem dX6_append_30 : decode cX6_append 30 = .ok (.iload_n 2, 1) := by decide +kernel
theorem dX6_append_31 : decode cX6_append 31 = .ok (.invokevirtual 26, 3) := by decide +kernel
theorem dX6_append_34 : decode cX6_append 34 = .ok (.aload_n 0, 1) := by decide +kernel
theorem dX6_append_35 : decode cX6_append 35 = .ok (.iload_n 3, 1) := by decide +kernel
theorem dX6_append_36 : decode cX6_append 36 = .ok (.invokevirtual 26, 3) := by decide +kernel
theorem dX6_append_39 : decode cX6_append 39 = .ok (.iconst 1, 1) := by decide +kernel
theorem dX6_append_40 : decode cX6_append 40 = .ok (.ireturn, 1) := by decide +kernel
theorem dX6_appendOne_0 : decode cX6_appendOne 0 = .ok (.bipush 24, 2) := by decide +kernel
theorem dX6_appendOne_2 : decode cX6_appendOne 2 = .ok (.istore_n 2, 1) := by decide +kernel
theorem dX6_appendOne_3 : decode cX6_appendOne 3 = .ok (.iload_n 2, 1) := by decide +kernel
theorem dX6_appendOne_4 : decode cX6_appendOne 4 = .ok (.ifCond .lt 51, 3) := by decide +kernel
theorem dX6_appendOne_7 : decode cX6_appendOne 7 = .ok (.aload_n 0, 1) := by decide +kernel
theorem dX6_appendOne_8 : decode cX6_appendOne 8 = .ok (.getfield 22, 3) := by decide +kernel
theorem dX6_appendOne_11 : decode cX6_appendOne 11 = .ok (.ifCond .lt 28, 3) := by decide +kernel
theorem dX6_appendOne_14 : decode cX6_appendOne 14 = .ok (.aload_n 0, 1) := by decide +kernel
theorem dX6_appendOne_15 : decode cX6_appendOne 15 = .ok (.getfield 22, 3) := by decide +kernel
theorem dX6_appendOne_18 : decode cX6_appendOne 18 = .ok (.aload_n 0, 1) := by decide +kernel
theorem dX6_appendOne_19 : decode cX6_appendOne 19 = .ok (.getfield 9, 3) := by decide +kernel
theorem dX6_appendOne_22 : decode cX6_appendOne 22 = .ok (.arraylength, 1) := by decide +kernel
theorem dX6_appendOne_23 : decode cX6_appendOne 23 = .ok (.if_icmp .ge 16, 3) := by decide +kernel
theorem dX6_appendOne_26 : decode cX6_appendOne 26 = .ok (.aload_n 0, 1) := by decide +kernel
theorem dX6_appendOne_27 : decode cX6_appendOne 27 = .ok (.getfield 9, 3) := by decide +kernel
theorem dX6_appendOne_30 : decode cX6_appendOne 30 = .ok (.aload_n 0, 1) := by decide +kernel
theorem dX6_appendOne_31 : decode cX6_appendOne 31 = .ok (.getfield 22, 3) := by decide +kernel
theorem dX6_appendOne_34 : decode cX6_appendOne 34 = .ok (.iload_n 1, 1) := by decide +kernel
theorem dX6_appendOne_35 : decode cX6_appendOne 35 = .ok (.iload_n 2, 1) := by decide +kernel
theorem dX6_appendOne_36 : decode cX6_appendOne 36 = .ok (.ishr, 1) := by decide +kernel
theorem dX6_appendOne_37 : decode cX6_appendOne 37 = .ok (.i2b, 1) := by decide +kernel
theorem dX6_appendOne_38 : decode cX6_appendOne 38 = .ok (.bastore, 1) := by decide +kernel
theorem dX6_appendOne_39 : decode cX6_appendOne 39 = .ok (.aload_n 0, 1) := by decide +kernel
theorem dX6_appendOne_40 : decode cX6_appendOne 40 = .ok (.dup, 1) := by decide +kernel
theorem dX6_appendOne_41 : decode cX6_appendOne 41 = .ok (.getfield 22, 3) := by decide +kernel
theorem dX6_appendOne_44 : decode cX6_appendOne 44 = .ok (.iconst 1, 1) := by decide +kernel
theorem dX6_appendOne_45 : decode cX6_appendOne 45 = .ok (.iadd, 1) := by decide +kernel
theorem dX6_appendOne_46 : decode cX6_appendOne 46 = .ok (.putfield 22, 3) := by decide +kernel
theorem dX6_appendOne_49 : decode cX6_appendOne 49 = .ok (.iinc 2 (-8), 3) := by decide +kernel
theorem dX6_appendOne_52 : decode cX6_appendOne 52 = .ok (.goto (-49), 3) := by decide +kernel
theorem dX6_appendOne_55 : decode cX6_appendOne 55 = .ok (.return_, 1) := by decide +kernel
theorem dX6_byteAt_0 : decode cX6_byteAt 0 = .ok (.iload_n 1, 1) := by decide +kernel
theorem dX6_byteAt_1 : decode cX6_byteAt 1 = .ok (.ifCond .lt 33, 3) := by decide +kernel
theorem dX6_byteAt_4 : decode cX6_byteAt 4 = .ok (.iload_n 1, 1) := by decide +kernel
theorem dX6_byteAt_5 : decode cX6_byteAt 5 = .ok (.aload_n 0, 1) := by decide +kernel
theorem dX6_byteAt_6 : decode cX6_byteAt 6 = .ok (.getfield 22, 3) := by decide +kernel
theorem dX6_byteAt_9 : decode cX6_byteAt 9 = .ok (.if_icmp .ge 25, 3) := by decide +kernel
theorem dX6_byteAt_12 : decode cX6_byteAt 12 = .ok (.iload_n 1, 1) := by decide +kernel
theorem dX6_byteAt_13 : decode cX6_byteAt 13 = .ok (.aload_n 0, 1) := by decide +kernel
theorem dX6_byteAt_14 : decode cX6_byteAt 14 = .ok (.getfield 9, 3) := by decide +kernel
theorem dX6_byteAt_17 : decode cX6_byteAt 17 = .ok (.arraylength, 1) := by decide +kernel
theorem dX6_byteAt_18 : decode cX6_byteAt 18 = .ok (.if_icmp .ge 16, 3) := by decide +kernel
theorem dX6_byteAt_21 : decode cX6_byteAt 21 = .ok (.aload_n 0, 1) := by decide +kernel
theorem dX6_byteAt_22 : decode cX6_byteAt 22 = .ok (.getfield 9, 3) := by decide +kernel
theorem dX6_byteAt_25 : decode cX6_byteAt 25 = .ok (.iload_n 1, 1) := by decide +kernel
theorem dX6_byteAt_26 : decode cX6_byteAt 26 = .ok (.baload, 1) := by decide +kernel
theorem dX6_byteAt_27 : decode cX6_byteAt 27 = .ok (.sipush 255, 3) := by decide +kernel
theorem dX6_byteAt_30 : decode cX6_byteAt 30 = .ok (.iand, 1) := by decide +kernel
theorem dX6_byteAt_31 : decode cX6_byteAt 31 = .ok (.goto 4, 3) := by decide +kernel
theorem dX6_byteAt_34 : decode cX6_byteAt 34 = .ok (.iconst (-1), 1) := by decide +kernel
theorem dX6_byteAt_35 : decode cX6_byteAt 35 = .ok (.ireturn, 1) := by decide +kernel
theorem dX6_faultPlace_0 : decode cX6_faultPlace 0 = .ok (.aload_n 0, 1) := by decide +kernel
theorem dX6_faultPlace_1 : decode cX6_faultPlace 1 = .ok (.invokevirtual 30, 3) := by decide +kernel
theorem dX6_faultPlace_4 : decode cX6_faultPlace 4 = .ok (.aload_n 0, 1) := by decide +kernel
theorem dX6_faultPlace_5 : decode cX6_faultPlace 5 = .ok (.invokevirtual 33, 3) := by decide +kernel
theorem dX6_faultPlace_8 : decode cX6_faultPlace 8 = .ok (.aload_n 0, 1) := by decide +kernel
theorem dX6_faultPlace_9 : decode cX6_faultPlace 9 = .ok (.aload_n 0, 1) := by decide +kernel
theorem dX6_faultPlace_10 : decode cX6_faultPlace 10 = .ok (.invokevirtual 36, 3) := by decide +kernel
theorem dX6_faultPlace_13 : decode cX6_faultPlace 13 = .ok (.putfield 40, 3) := by decide +kernel
theorem dX6_faultPlace_16 : decode cX6_faultPlace 16 = .ok (.aload_n 0, 1) := by decide +kernel
theorem dX6_faultPlace_17 : decode cX6_faultPlace 17 = .ok (.getfield 40, 3) := by decide +kernel
theorem dX6_faultPlace_20 : decode cX6_faultPlace 20 = .ok (.ifCond .ge 8, 3) := by decide +kernel
theorem dX6_faultPlace_23 : decode cX6_faultPlace 23 = .ok (.aload_n 0, 1) := by decide +kernel
theorem dX6_faultPlace_24 : decode cX6_faultPlace 24 = .ok (.getfield 43, 3) := by decide +kernel
theorem dX6_faultPlace_27 : decode cX6_faultPlace 27 = .ok (.ireturn, 1) := by decide +kernel
theorem dX6_faultPlace_28 : decode cX6_faultPlace 28 = .ok (.iconst 0, 1) := by decide +kernel
theorem dX6_faultPlace_29 : decode cX6_faultPlace 29 = .ok (.istore_n 1, 1) := by decide +kernel
theorem dX6_faultPlace_30 : decode cX6_faultPlace 30 = .ok (.iload_n 1, 1) := by decide +kernel
theorem dX6_faultPlace_31 : decode cX6_faultPlace 31 = .ok (.bipush 96, 2) := by decide +kernel
theorem dX6_faultPlace_33 : decode cX6_faultPlace 33 = .ok (.if_icmp .gt 72, 3) := by decide +kernel
theorem dX6_faultPlace_36 : decode cX6_faultPlace 36 = .ok (.aload_n 0, 1) := by decide +kernel
theorem dX6_faultPlace_37 : decode cX6_faultPlace 37 = .ok (.invokevirtual 33, 3) := by decide +kernel
theorem dX6_faultPlace_40 : decode cX6_faultPlace 40 = .ok (.aload_n 0, 1) := by decide +kernel
theorem dX6_faultPlace_41 : decode cX6_faultPlace 41 = .ok (.getfield 46, 3) := by decide +kernel
theorem dX6_faultPlace_44 : decode cX6_faultPlace 44 = .ok (.ifCond .ne 19, 3) := by decide +kernel
theorem dX6_faultPlace_47 : decode cX6_faultPlace 47 = .ok (.aload_n 0, 1) := by decide +kernel
theorem dX6_faultPlace_48 : decode cX6_faultPlace 48 = .ok (.invokevirtual 49, 3) := by decide +kernel
theorem dX6_faultPlace_51 : decode cX6_faultPlace 51 = .ok (.ifCond .eq 10, 3) := by decide +kernel
theorem dX6_faultPlace_54 : decode cX6_faultPlace 54 = .ok (.aload_n 0, 1) := by decide +kernel
theorem dX6_faultPlace_55 : decode cX6_faultPlace 55 = .ok (.getfield 43, 3) := by decide +kernel
theorem dX6_faultPlace_58 : decode cX6_faultPlace 58 = .ok (.goto 4, 3) := by decide +kernel
theorem dX6_faultPlace_61 : decode cX6_faultPlace 61 = .ok (.iconst (-1), 1) := by decide +kernel
theorem dX6_faultPlace_62 : decode cX6_faultPlace 62 = .ok (.ireturn, 1) := by decide +kernel
theorem dX6_faultPlace_63 : decode cX6_faultPlace 63 = .ok (.aload_n 0, 1) := by decide +kernel
theorem dX6_faultPlace_64 : decode cX6_faultPlace 64 = .ok (.getfield 53, 3) := by decide +kernel
theorem dX6_faultPlace_67 : decode cX6_faultPlace 67 = .ok (.ifCond .ne 27, 3) := by decide +kernel
theorem dX6_faultPlace_70 : decode cX6_faultPlace 70 = .ok (.aload_n 0, 1) := by decide +kernel
theorem dX6_faultPlace_71 : decode cX6_faultPlace 71 = .ok (.getfield 57, 3) := by decide +kernel
theorem dX6_faultPlace_74 : decode cX6_faultPlace 74 = .ok (.ifCond .eq 13, 3) := by decide +kernel
theorem dX6_faultPlace_77 : decode cX6_faultPlace 77 = .ok (.aload_n 0, 1) := by decide +kernel
theorem dX6_faultPlace_78 : decode cX6_faultPlace 78 = .ok (.invokevirtual 60, 3) := by decide +kernel
theorem dX6_faultPlace_81 : decode cX6_faultPlace 81 = .ok (.ifCond .eq 13, 3) := by decide +kernel
theorem dX6_faultPlace_84 : decode cX6_faultPlace 84 = .ok (.goto 15, 3) := by decide +kernel
theorem dX6_faultPlace_87 : decode cX6_faultPlace 87 = .ok (.aload_n 0, 1) := by decide +kernel
theorem dX6_faultPlace_88 : decode cX6_faultPlace 88 = .ok (.invokevirtual 63, 3) := by decide +kernel
theorem dX6_faultPlace_91 : decode cX6_faultPlace 91 = .ok (.ifCond .ne 8, 3) := by decide +kernel
theorem dX6_faultPlace_94 : decode cX6_faultPlace 94 = .ok (.aload_n 0, 1) := by decide +kernel
theorem dX6_faultPlace_95 : decode cX6_faultPlace 95 = .ok (.getfield 43, 3) := by decide +kernel
theorem dX6_faultPlace_98 : decode cX6_faultPlace 98 = .ok (.ireturn, 1) := by decide +kernel
theorem dX6_faultPlace_99 : decode cX6_faultPlace 99 = .ok (.iinc 1 1, 3) := by decide +kernel
theorem dX6_faultPlace_102 : decode cX6_faultPlace 102 = .ok (.goto (-72), 3) := by decide +kernel
theorem dX6_faultPlace_105 : decode cX6_faultPlace 105 = .ok (.aload_n 0, 1) := by decide +kernel
theorem dX6_faultPlace_106 : decode cX6_faultPlace 106 = .ok (.getfield 43, 3) := by decide +kernel
theorem dX6_faultPlace_109 : decode cX6_faultPlace 109 = .ok (.ireturn, 1) := by decide +kernel
theorem dX6_asText_0 : decode cX6_asText 0 = .ok (.aload_n 0, 1) := by decide +kernel
theorem dX6_asText_1 : decode cX6_asText 1 = .ok (.iconst 1, 1) := by decide +kernel
theorem dX6_asText_2 : decode cX6_asText 2 = .ok (.invokevirtual 66, 3) := by decide +kernel
theorem dX6_asText_5 : decode cX6_asText 5 = .ok (.new 69, 3) := by decide +kernel
theorem dX6_asText_8 : decode cX6_asText 8 = .ok (.dup, 1) := by decide +kernel
theorem dX6_asText_9 : decode cX6_asText 9 = .ok (.aload_n 0, 1) := by decide +kernel
theorem dX6_asText_10 : decode cX6_asText 10 = .ok (.getfield 40, 3) := by decide +kernel
theorem dX6_asText_13 : decode cX6_asText 13 = .ok (.iload_n 1, 1) := by decide +kernel
theorem dX6_asText_14 : decode cX6_asText 14 = .ok (.aload_n 0, 1) := by decide +kernel
theorem dX6_asText_15 : decode cX6_asText 15 = .ok (.getfield 71, 3) := by decide +kernel
theorem dX6_asText_18 : decode cX6_asText 18 = .ok (.aload_n 0, 1) := by decide +kernel
theorem dX6_asText_19 : decode cX6_asText 19 = .ok (.getfield 15, 3) := by decide +kernel
theorem dX6_asText_22 : decode cX6_asText 22 = .ok (.iconst 0, 1) := by decide +kernel
theorem dX6_asText_23 : decode cX6_asText 23 = .ok (.aload_n 0, 1) := by decide +kernel
theorem dX6_asText_24 : decode cX6_asText 24 = .ok (.getfield 74, 3) := by decide +kernel
theorem dX6_asText_27 : decode cX6_asText 27 = .ok (.invokestatic 77, 3) := by decide +kernel
theorem dX6_asText_30 : decode cX6_asText 30 = .ok (.invokestatic 83, 3) := by decide +kernel
theorem dX6_asText_33 : decode cX6_asText 33 = .ok (.invokespecial 89, 3) := by decide +kernel
theorem dX6_asText_36 : decode cX6_asText 36 = .ok (.areturn, 1) := by decide +kernel
theorem dX6_begin_0 : decode cX6_begin 0 = .ok (.aload_n 0, 1) := by decide +kernel
theorem dX6_begin_1 : decode cX6_begin 1 = .ok (.iconst 0, 1) := by decide +kernel
theorem dX6_begin_2 : decode cX6_begin 2 = .ok (.putfield 43, 3) := by decide +kernel
theorem dX6_begin_5 : decode cX6_begin 5 = .ok (.aload_n 0, 1) := by decide +kernel
theorem dX6_begin_6 : decode cX6_begin 6 = .ok (.iconst 0, 1) := by decide +kernel
theorem dX6_begin_7 : decode cX6_begin 7 = .ok (.putfield 92, 3) := by decide +kernel
theorem dX6_begin_10 : decode cX6_begin 10 = .ok (.aload_n 0, 1) := by decide +kernel
theorem dX6_begin_11 : decode cX6_begin 11 = .ok (.iconst 0, 1) := by decide +kernel
theorem dX6_begin_12 : decode cX6_begin 12 = .ok (.putfield 46, 3) := by decide +kernel
theorem dX6_begin_15 : decode cX6_begin 15 = .ok (.aload_n 0, 1) := by decide +kernel
theorem dX6_begin_16 : decode cX6_begin 16 = .ok (.iconst 1, 1) := by decide +kernel
theorem dX6_begin_17 : decode cX6_begin 17 = .ok (.putfield 57, 3) := by decide +kernel
theorem dX6_begin_20 : decode cX6_begin 20 = .ok (.aload_n 0, 1) := by decide +kernel
theorem dX6_begin_21 : decode cX6_begin 21 = .ok (.iconst 0, 1) := by decide +kernel
theorem dX6_begin_22 : decode cX6_begin 22 = .ok (.putfield 74, 3) := by decide +kernel
theorem dX6_begin_25 : decode cX6_begin 25 = .ok (.aload_n 0, 1) := by decide +kernel
theorem dX6_begin_26 : decode cX6_begin 26 = .ok (.iconst 0, 1) := by decide +kernel
theorem dX6_begin_27 : decode cX6_begin 27 = .ok (.putfield 95, 3) := by decide +kernel
theorem dX6_begin_30 : decode cX6_begin 30 = .ok (.aload_n 0, 1) := by decide +kernel
theorem dX6_begin_31 : decode cX6_begin 31 = .ok (.iconst 0, 1) := by decide +kernel
theorem dX6_begin_32 : decode cX6_begin 32 = .ok (.putfield 71, 3) := by decide +kernel
theorem dX6_begin_35 : decode cX6_begin 35 = .ok (.aload_n 0, 1) := by decide +kernel
theorem dX6_begin_36 : decode cX6_begin 36 = .ok (.iconst 0, 1) := by decide +kernel
theorem dX6_begin_37 : decode cX6_begin 37 = .ok (.putfield 98, 3) := by decide +kernel
theorem dX6_begin_40 : decode cX6_begin 40 = .ok (.aload_n 0, 1) := by decide +kernel
theorem dX6_begin_41 : decode cX6_begin 41 = .ok (.iconst 0, 1) := by decide +kernel
theorem dX6_begin_42 : decode cX6_begin 42 = .ok (.putfield 101, 3) := by decide +kernel
theorem dX6_begin_45 : decode cX6_begin 45 = .ok (.return_, 1) := by decide +kernel
theorem dX6_endsTooSoon_0 : decode cX6_endsTooSoon 0 = .ok (.aload_n 0, 1) := by decide +kernel
theorem dX6_endsTooSoon_1 : decode cX6_endsTooSoon 1 = .ok (.getfield 57, 3) := by decide +kernel
theorem dX6_endsTooSoon_4 : decode cX6_endsTooSoon 4 = .ok (.ifCond .ne 10, 3) := by decide +kernel
theorem dX6_endsTooSoon_7 : decode cX6_endsTooSoon 7 = .ok (.aload_n 0, 1) := by decide +kernel
theorem dX6_endsTooSoon_8 : decode cX6_endsTooSoon 8 = .ok (.getfield 98, 3) := by decide +kernel
theorem dX6_endsTooSoon_11 : decode cX6_endsTooSoon 11 = .ok (.ifCond .le 7, 3) := by decide +kernel
theorem dX6_endsTooSoon_14 : decode cX6_endsTooSoon 14 = .ok (.iconst 1, 1) := by decide +kernel
theorem dX6_endsTooSoon_15 : decode cX6_endsTooSoon 15 = .ok (.goto 4, 3) := by decide +kernel
theorem dX6_endsTooSoon_18 : decode cX6_endsTooSoon 18 = .ok (.iconst 0, 1) := by decide +kernel
theorem dX6_endsTooSoon_19 : decode cX6_endsTooSoon 19 = .ok (.ireturn, 1) := by decide +kernel
theorem dX6_next_0 : decode cX6_next 0 = .ok (.aload_n 0, 1) := by decide +kernel
theorem dX6_next_1 : decode cX6_next 1 = .ok (.getfield 46, 3) := by decide +kernel
theorem dX6_next_4 : decode cX6_next 4 = .ok (.iconst 1, 1) := by decide +kernel
theorem dX6_next_5 : decode cX6_next 5 = .ok (.if_icmp .eq 11, 3) := by decide +kernel
theorem dX6_next_8 : decode cX6_next 8 = .ok (.aload_n 0, 1) := by decide +kernel
theorem dX6_next_9 : decode cX6_next 9 = .ok (.getfield 46, 3) := by decide +kernel
theorem dX6_next_12 : decode cX6_next 12 = .ok (.iconst 2, 1) := by decide +kernel
theorem dX6_next_13 : decode cX6_next 13 = .ok (.if_icmp .ne 7, 3) := by decide +kernel
theorem dX6_next_16 : decode cX6_next 16 = .ok (.iconst 1, 1) := by decide +kernel
theorem dX6_next_17 : decode cX6_next 17 = .ok (.goto 4, 3) := by decide +kernel
theorem dX6_next_20 : decode cX6_next 20 = .ok (.iconst 0, 1) := by decide +kernel
theorem dX6_next_21 : decode cX6_next 21 = .ok (.istore_n 1, 1) := by decide +kernel
theorem dX6_next_22 : decode cX6_next 22 = .ok (.aload_n 0, 1) := by decide +kernel
theorem dX6_next_23 : decode cX6_next 23 = .ok (.aload_n 0, 1) := by decide +kernel
theorem dX6_next_24 : decode cX6_next 24 = .ok (.getfield 92, 3) := by decide +kernel
theorem dX6_next_27 : decode cX6_next 27 = .ok (.putfield 43, 3) := by decide +kernel
theorem dX6_next_30 : decode cX6_next 30 = .ok (.aload_n 0, 1) := by decide +kernel
theorem dX6_next_31 : decode cX6_next 31 = .ok (.getfield 43, 3) := by decide +kernel
theorem dX6_next_34 : decode cX6_next 34 = .ok (.bipush 96, 2) := by decide +kernel
theorem dX6_next_36 : decode cX6_next 36 = .ok (.if_icmp .ge 29, 3) := by decide +kernel
theorem dX6_next_39 : decode cX6_next 39 = .ok (.aload_n 0, 1) := by decide +kernel
theorem dX6_next_40 : decode cX6_next 40 = .ok (.aload_n 0, 1) := by decide +kernel
theorem dX6_next_41 : decode cX6_next 41 = .ok (.getfield 43, 3) := by decide +kernel
theorem dX6_next_44 : decode cX6_next 44 = .ok (.invokevirtual 104, 3) := by decide +kernel
theorem dX6_next_47 : decode cX6_next 47 = .ok (.bipush 32, 2) := by decide +kernel
theorem dX6_next_49 : decode cX6_next 49 = .ok (.if_icmp .ne 16, 3) := by decide +kernel
theorem dX6_next_52 : decode cX6_next 52 = .ok (.aload_n 0, 1) := by decide +kernel
theorem dX6_next_53 : decode cX6_next 53 = .ok (.dup, 1) := by decide +kernel
theorem dX6_next_54 : decode cX6_next 54 = .ok (.getfield 43, 3) := by decide +kernel
theorem dX6_next_57 : decode cX6_next 57 = .ok (.iconst 1, 1) := by decide +kernel
theorem dX6_next_58 : decode cX6_next 58 = .ok (.iadd, 1) := by decide +kernel
theorem dX6_next_59 : decode cX6_next 59 = .ok (.putfield 43, 3) := by decide +kernel
theorem dX6_next_62 : decode cX6_next 62 = .ok (.goto (-32), 3) := by decide +kernel
theorem dX6_next_65 : decode cX6_next 65 = .ok (.aload_n 0, 1) := by decide +kernel
theorem dX6_next_66 : decode cX6_next 66 = .ok (.iload_n 1, 1) := by decide +kernel
theorem dX6_next_67 : decode cX6_next 67 = .ok (.ifCond .eq 30, 3) := by decide +kernel
theorem dX6_next_70 : decode cX6_next 70 = .ok (.aload_n 0, 1) := by decide +kernel
theorem dX6_next_71 : decode cX6_next 71 = .ok (.getfield 43, 3) := by decide +kernel
theorem dX6_next_74 : decode cX6_next 74 = .ok (.aload_n 0, 1) := by decide +kernel
theorem dX6_next_75 : decode cX6_next 75 = .ok (.getfield 92, 3) := by decide +kernel
theorem dX6_next_78 : decode cX6_next 78 = .ok (.if_icmp .ne 19, 3) := by decide +kernel
theorem dX6_next_81 : decode cX6_next 81 = .ok (.aload_n 0, 1) := by decide +kernel
theorem dX6_next_82 : decode cX6_next 82 = .ok (.aload_n 0, 1) := by decide +kernel
theorem dX6_next_83 : decode cX6_next 83 = .ok (.getfield 43, 3) := by decide +kernel
theorem dX6_next_86 : decode cX6_next 86 = .ok (.invokevirtual 108, 3) := by decide +kernel
theorem dX6_next_89 : decode cX6_next 89 = .ok (.iconst 3, 1) := by decide +kernel
theorem dX6_next_90 : decode cX6_next 90 = .ok (.if_icmp .eq 7, 3) := by decide +kernel
theorem dX6_next_93 : decode cX6_next 93 = .ok (.iconst 1, 1) := by decide +kernel
theorem dX6_next_94 : decode cX6_next 94 = .ok (.goto 4, 3) := by decide +kernel
theorem dX6_next_97 : decode cX6_next 97 = .ok (.iconst 0, 1) := by decide +kernel
theorem dX6_next_98 : decode cX6_next 98 = .ok (.putfield 53, 3) := by decide +kernel
theorem dX6_next_101 : decode cX6_next 101 = .ok (.aload_n 0, 1) := by decide +kernel
theorem dX6_next_102 : decode cX6_next 102 = .ok (.aload_n 0, 1) := by decide +kernel
theorem dX6_next_103 : decode cX6_next 103 = .ok (.aload_n 0, 1) := by decide +kernel
theorem dX6_next_104 : decode cX6_next 104 = .ok (.getfield 43, 3) := by decide +kernel
theorem dX6_next_107 : decode cX6_next 107 = .ok (.invokevirtual 108, 3) := by decide +kernel
theorem dX6_next_110 : decode cX6_next 110 = .ok (.putfield 46, 3) := by decide +kernel
theorem dX6_next_113 : decode cX6_next 113 = .ok (.aload_n 0, 1) := by decide +kernel
theorem dX6_next_114 : decode cX6_next 114 = .ok (.aload_n 0, 1) := by decide +kernel
theorem dX6_next_115 : decode cX6_next 115 = .ok (.getfield 46, 3) := by decide +kernel
theorem dX6_next_118 : decode cX6_next 118 = .ok (.ifCond .ne 10, 3) := by decide +kernel
theorem dX6_next_121 : decode cX6_next 121 = .ok (.aload_n 0, 1) := by decide +kernel
theorem dX6_next_122 : decode cX6_next 122 = .ok (.getfield 43, 3) := by decide +kernel
theorem dX6_next_125 : decode cX6_next 125 = .ok (.goto 9, 3) := by decide +kernel
theorem dX6_next_128 : decode cX6_next 128 = .ok (.aload_n 0, 1) := by decide +kernel
theorem dX6_next_129 : decode cX6_next 129 = .ok (.getfield 43, 3) := by decide +kernel
theorem dX6_next_132 : decode cX6_next 132 = .ok (.iconst 1, 1) := by decide +kernel
theorem dX6_next_133 : decode cX6_next 133 = .ok (.iadd, 1) := by decide +kernel
theorem dX6_next_134 : decode cX6_next 134 = .ok (.putfield 92, 3) := by decide +kernel
theorem dX6_next_137 : decode cX6_next 137 = .ok (.aload_n 0, 1) := by decide +kernel
theorem dX6_next_138 : decode cX6_next 138 = .ok (.getfield 46, 3) := by decide +kernel
theorem dX6_next_141 : decode cX6_next 141 = .ok (.iconst 1, 1) := by decide +kernel
theorem dX6_next_142 : decode cX6_next 142 = .ok (.if_icmp .eq 11, 3) := by decide +kernel
theorem dX6_next_145 : decode cX6_next 145 = .ok (.aload_n 0, 1) := by decide +kernel
theorem dX6_next_146 : decode cX6_next 146 = .ok (.getfield 46, 3) := by decide +kernel
theorem dX6_next_149 : decode cX6_next 149 = .ok (.iconst 2, 1) := by decide +kernel
theorem dX6_next_150 : decode cX6_next 150 = .ok (.if_icmp .ne 40, 3) := by decide +kernel
theorem dX6_next_153 : decode cX6_next 153 = .ok (.aload_n 0, 1) := by decide +kernel
theorem dX6_next_154 : decode cX6_next 154 = .ok (.getfield 92, 3) := by decide +kernel
theorem dX6_next_157 : decode cX6_next 157 = .ok (.bipush 96, 2) := by decide +kernel
theorem dX6_next_159 : decode cX6_next 159 = .ok (.if_icmp .ge 31, 3) := by decide +kernel
theorem dX6_next_162 : decode cX6_next 162 = .ok (.aload_n 0, 1) := by decide +kernel
theorem dX6_next_163 : decode cX6_next 163 = .ok (.aload_n 0, 1) := by decide +kernel
theorem dX6_next_164 : decode cX6_next 164 = .ok (.getfield 92, 3) := by decide +kernel
theorem dX6_next_167 : decode cX6_next 167 = .ok (.invokevirtual 108, 3) := by decide +kernel
theorem dX6_next_170 : decode cX6_next 170 = .ok (.aload_n 0, 1) := by decide +kernel
theorem dX6_next_171 : decode cX6_next 171 = .ok (.getfield 46, 3) := by decide +kernel
theorem dX6_next_174 : decode cX6_next 174 = .ok (.if_icmp .ne 16, 3) := by decide +kernel
theorem dX6_next_177 : decode cX6_next 177 = .ok (.aload_n 0, 1) := by decide +kernel
theorem dX6_next_178 : decode cX6_next 178 = .ok (.dup, 1) := by decide +kernel
theorem dX6_next_179 : decode cX6_next 179 = .ok (.getfield 92, 3) := by decide +kernel
theorem dX6_next_182 : decode cX6_next 182 = .ok (.iconst 1, 1) := by decide +kernel
theorem dX6_next_183 : decode cX6_next 183 = .ok (.iadd, 1) := by decide +kernel
theorem dX6_next_184 : decode cX6_next 184 = .ok (.putfield 92, 3) := by decide +kernel
theorem dX6_next_187 : decode cX6_next 187 = .ok (.goto (-34), 3) := by decide +kernel
theorem dX6_next_190 : decode cX6_next 190 = .ok (.return_, 1) := by decide +kernel
theorem dX6_sortAt_0 : decode cX6_sortAt 0 = .ok (.aload_n 0, 1) := by decide +kernel
theorem dX6_sortAt_1 : decode cX6_sortAt 1 = .ok (.iload_n 1, 1) := by decide +kernel
theorem dX6_sortAt_2 : decode cX6_sortAt 2 = .ok (.invokevirtual 104, 3) := by decide +kernel
theorem dX6_sortAt_5 : decode cX6_sortAt 5 = .ok (.istore_n 2, 1) := by decide +kernel
theorem dX6_sortAt_6 : decode cX6_sortAt 6 = .ok (.iload_n 2, 1) := by decide +kernel
theorem dX6_sortAt_7 : decode cX6_sortAt 7 = .ok (.ifCond .ge 5, 3) := by decide +kernel
theorem dX6_sortAt_10 : decode cX6_sortAt 10 = .ok (.iconst 0, 1) := by decide +kernel
theorem dX6_sortAt_11 : decode cX6_sortAt 11 = .ok (.ireturn, 1) := by decide +kernel
theorem dX6_sortAt_12 : decode cX6_sortAt 12 = .ok (.iload_n 2, 1) := by decide +kernel
theorem dX6_sortAt_13 : decode cX6_sortAt 13 = .ok (.bipush 97, 2) := by decide +kernel
theorem dX6_sortAt_15 : decode cX6_sortAt 15 = .ok (.if_icmp .lt 11, 3) := by decide +kernel
theorem dX6_sortAt_18 : decode cX6_sortAt 18 = .ok (.iload_n 2, 1) := by decide +kernel
theorem dX6_sortAt_19 : decode cX6_sortAt 19 = .ok (.bipush 122, 2) := by decide +kernel
theorem dX6_sortAt_21 : decode cX6_sortAt 21 = .ok (.if_icmp .gt 5, 3) := by decide +kernel
theorem dX6_sortAt_24 : decode cX6_sortAt 24 = .ok (.iconst 1, 1) := by decide +kernel
theorem dX6_sortAt_25 : decode cX6_sortAt 25 = .ok (.ireturn, 1) := by decide +kernel
theorem dX6_sortAt_26 : decode cX6_sortAt 26 = .ok (.iload_n 2, 1) := by decide +kernel
theorem dX6_sortAt_27 : decode cX6_sortAt 27 = .ok (.bipush 48, 2) := by decide +kernel
theorem dX6_sortAt_29 : decode cX6_sortAt 29 = .ok (.if_icmp .lt 13, 3) := by decide +kernel
theorem dX6_sortAt_32 : decode cX6_sortAt 32 = .ok (.iload_n 2, 1) := by decide +kernel
theorem dX6_sortAt_33 : decode cX6_sortAt 33 = .ok (.bipush 57, 2) := by decide +kernel
theorem dX6_sortAt_35 : decode cX6_sortAt 35 = .ok (.if_icmp .gt 7, 3) := by decide +kernel
theorem dX6_sortAt_38 : decode cX6_sortAt 38 = .ok (.iconst 2, 1) := by decide +kernel
theorem dX6_sortAt_39 : decode cX6_sortAt 39 = .ok (.goto 4, 3) := by decide +kernel
theorem dX6_sortAt_42 : decode cX6_sortAt 42 = .ok (.iconst 3, 1) := by decide +kernel
theorem dX6_sortAt_43 : decode cX6_sortAt 43 = .ok (.ireturn, 1) := by decide +kernel
theorem dX6_keyHere_0 : decode cX6_keyHere 0 = .ok (.iconst 0, 1) := by decide +kernel
theorem dX6_keyHere_1 : decode cX6_keyHere 1 = .ok (.istore_n 1, 1) := by decide +kernel
theorem dX6_keyHere_2 : decode cX6_keyHere 2 = .ok (.iload_n 1, 1) := by decide +kernel
theorem dX6_keyHere_3 : decode cX6_keyHere 3 = .ok (.iconst 5, 1) := by decide +kernel
theorem dX6_keyHere_4 : decode cX6_keyHere 4 = .ok (.if_icmp .ge 22, 3) := by decide +kernel
theorem dX6_keyHere_7 : decode cX6_keyHere 7 = .ok (.aload_n 0, 1) := by decide +kernel
theorem dX6_keyHere_8 : decode cX6_keyHere 8 = .ok (.iload_n 1, 1) := by decide +kernel
theorem dX6_keyHere_9 : decode cX6_keyHere 9 = .ok (.invokestatic 111, 3) := by decide +kernel
theorem dX6_keyHere_12 : decode cX6_keyHere 12 = .ok (.invokevirtual 115, 3) := by decide +kernel
theorem dX6_keyHere_15 : decode cX6_keyHere 15 = .ok (.ifCond .eq 5, 3) := by decide +kernel
theorem dX6_keyHere_18 : decode cX6_keyHere 18 = .ok (.iload_n 1, 1) := by decide +kernel
theorem dX6_keyHere_19 : decode cX6_keyHere 19 = .ok (.ireturn, 1) := by decide +kernel
theorem dX6_keyHere_20 : decode cX6_keyHere 20 = .ok (.iinc 1 1, 3) := by decide +kernel
theorem dX6_keyHere_23 : decode cX6_keyHere 23 = .ok (.goto (-21), 3) := by decide +kernel
theorem dX6_keyHere_26 : decode cX6_keyHere 26 = .ok (.iconst (-1), 1) := by decide +kernel
theorem dX6_keyHere_27 : decode cX6_keyHere 27 = .ok (.ireturn, 1) := by decide +kernel
theorem dX6_isWord_0 : decode cX6_isWord 0 = .ok (.aload_n 0, 1) := by decide +kernel
theorem dX6_isWord_1 : decode cX6_isWord 1 = .ok (.getfield 92, 3) := by decide +kernel
theorem dX6_isWord_4 : decode cX6_isWord 4 = .ok (.aload_n 0, 1) := by decide +kernel
theorem dX6_isWord_5 : decode cX6_isWord 5 = .ok (.getfield 43, 3) := by decide +kernel
theorem dX6_isWord_8 : decode cX6_isWord 8 = .ok (.isub, 1) := by decide +kernel
theorem dX6_isWord_9 : decode cX6_isWord 9 = .ok (.aload_n 1, 1) := by decide +kernel
theorem dX6_isWord_10 : decode cX6_isWord 10 = .ok (.invokevirtual 119, 3) := by decide +kernel
theorem dX6_isWord_13 : decode cX6_isWord 13 = .ok (.if_icmp .eq 5, 3) := by decide +kernel
theorem dX6_isWord_16 : decode cX6_isWord 16 = .ok (.iconst 0, 1) := by decide +kernel
theorem dX6_isWord_17 : decode cX6_isWord 17 = .ok (.ireturn, 1) := by decide +kernel
theorem dX6_isWord_18 : decode cX6_isWord 18 = .ok (.iconst 0, 1) := by decide +kernel
theorem dX6_isWord_19 : decode cX6_isWord 19 = .ok (.istore_n 2, 1) := by decide +kernel
theorem dX6_isWord_20 : decode cX6_isWord 20 = .ok (.iload_n 2, 1) := by decide +kernel
theorem dX6_isWord_21 : decode cX6_isWord 21 = .ok (.aload_n 1, 1) := by decide +kernel
theorem dX6_isWord_22 : decode cX6_isWord 22 = .ok (.invokevirtual 119, 3) := by decide +kernel
theorem dX6_isWord_25 : decode cX6_isWord 25 = .ok (.if_icmp .ge 29, 3) := by decide +kernel
theorem dX6_isWord_28 : decode cX6_isWord 28 = .ok (.aload_n 0, 1) := by decide +kernel
theorem dX6_isWord_29 : decode cX6_isWord 29 = .ok (.aload_n 0, 1) := by decide +kernel
theorem dX6_isWord_30 : decode cX6_isWord 30 = .ok (.getfield 43, 3) := by decide +kernel
theorem dX6_isWord_33 : decode cX6_isWord 33 = .ok (.iload_n 2, 1) := by decide +kernel
theorem dX6_isWord_34 : decode cX6_isWord 34 = .ok (.iadd, 1) := by decide +kernel
theorem dX6_isWord_35 : decode cX6_isWord 35 = .ok (.invokevirtual 104, 3) := by decide +kernel
theorem dX6_isWord_38 : decode cX6_isWord 38 = .ok (.aload_n 1, 1) := by decide +kernel
theorem dX6_isWord_39 : decode cX6_isWord 39 = .ok (.iload_n 2, 1) := by decide +kernel
theorem dX6_isWord_40 : decode cX6_isWord 40 = .ok (.invokevirtual 123, 3) := by decide +kernel
theorem dX6_isWord_43 : decode cX6_isWord 43 = .ok (.if_icmp .eq 5, 3) := by decide +kernel
theorem dX6_isWord_46 : decode cX6_isWord 46 = .ok (.iconst 0, 1) := by decide +kernel
theorem dX6_isWord_47 : decode cX6_isWord 47 = .ok (.ireturn, 1) := by decide +kernel
theorem dX6_isWord_48 : decode cX6_isWord 48 = .ok (.iinc 2 1, 3) := by decide +kernel
theorem dX6_isWord_51 : decode cX6_isWord 51 = .ok (.goto (-31), 3) := by decide +kernel
theorem dX6_isWord_54 : decode cX6_isWord 54 = .ok (.iconst 1, 1) := by decide +kernel
theorem dX6_isWord_55 : decode cX6_isWord 55 = .ok (.ireturn, 1) := by decide +kernel
theorem dX6_keyWord_0 : decode cX6_keyWord 0 = .ok (.iload_n 0, 1) := by decide +kernel
theorem dX6_keyWord_1 : decode cX6_keyWord 1 = .ok (.tableswitch 43 0 3 #[31, 34, 37, 40], 31) := by decide +kernel
theorem dX6_keyWord_32 : decode cX6_keyWord 32 = .ok (.ldc 127, 2) := by decide +kernel
theorem dX6_keyWord_34 : decode cX6_keyWord 34 = .ok (.areturn, 1) := by decide +kernel
theorem dX6_keyWord_35 : decode cX6_keyWord 35 = .ok (.ldc 129, 2) := by decide +kernel
theorem dX6_keyWord_37 : decode cX6_keyWord 37 = .ok (.areturn, 1) := by decide +kernel
theorem dX6_keyWord_38 : decode cX6_keyWord 38 = .ok (.ldc 131, 2) := by decide +kernel
theorem dX6_keyWord_40 : decode cX6_keyWord 40 = .ok (.areturn, 1) := by decide +kernel
theorem dX6_keyWord_41 : decode cX6_keyWord 41 = .ok (.ldc 133, 2) := by decide +kernel
theorem dX6_keyWord_43 : decode cX6_keyWord 43 = .ok (.areturn, 1) := by decide +kernel
theorem dX6_keyWord_44 : decode cX6_keyWord 44 = .ok (.ldc 135, 2) := by decide +kernel
theorem dX6_keyWord_46 : decode cX6_keyWord 46 = .ok (.areturn, 1) := by decide +kernel
theorem dX6_namesOf_0 : decode cX6_namesOf 0 = .ok (.iload_n 0, 1) := by decide +kernel
theorem dX6_namesOf_1 : decode cX6_namesOf 1 = .ok (.tableswitch 43 0 3 #[31, 34, 37, 40], 31) := by decide +kernel
theorem dX6_namesOf_32 : decode cX6_namesOf 32 = .ok (.ldc 137, 2) := by decide +kernel
theorem dX6_namesOf_34 : decode cX6_namesOf 34 = .ok (.areturn, 1) := by decide +kernel
theorem dX6_namesOf_35 : decode cX6_namesOf 35 = .ok (.ldc 137, 2) := by decide +kernel
theorem dX6_namesOf_37 : decode cX6_namesOf 37 = .ok (.areturn, 1) := by decide +kernel
theorem dX6_namesOf_38 : decode cX6_namesOf 38 = .ok (.ldc 139, 2) := by decide +kernel
theorem dX6_namesOf_40 : decode cX6_namesOf 40 = .ok (.areturn, 1) := by decide +kernel
theorem dX6_namesOf_41 : decode cX6_namesOf 41 = .ok (.ldc 141, 2) := by decide +kernel
theorem dX6_namesOf_43 : decode cX6_namesOf 43 = .ok (.areturn, 1) := by decide +kernel
theorem dX6_namesOf_44 : decode cX6_namesOf 44 = .ok (.ldc 143, 2) := by decide +kernel
theorem dX6_namesOf_46 : decode cX6_namesOf 46 = .ok (.areturn, 1) := by decide +kernel
theorem dX6_takesPart_0 : decode cX6_takesPart 0 = .ok (.aload_n 0, 1) := by decide +kernel
theorem dX6_takesPart_1 : decode cX6_takesPart 1 = .ok (.getfield 46, 3) := by decide +kernel
theorem dX6_takesPart_4 : decode cX6_takesPart 4 = .ok (.iconst 2, 1) := by decide +kernel
theorem dX6_takesPart_5 : decode cX6_takesPart 5 = .ok (.if_icmp .ne 33, 3) := by decide +kernel
theorem dX6_takesPart_8 : decode cX6_takesPart 8 = .ok (.aload_n 0, 1) := by decide +kernel
theorem dX6_takesPart_9 : decode cX6_takesPart 9 = .ok (.getfield 92, 3) := by decide +kernel
theorem dX6_takesPart_12 : decode cX6_takesPart 12 = .ok (.aload_n 0, 1) := by decide +kernel
theorem dX6_takesPart_13 : decode cX6_takesPart 13 = .ok (.getfield 43, 3) := by decide +kernel
theorem dX6_takesPart_16 : decode cX6_takesPart 16 = .ok (.isub, 1) := by decide +kernel
theorem dX6_takesPart_17 : decode cX6_takesPart 17 = .ok (.iconst 4, 1) := by decide +kernel
theorem dX6_takesPart_18 : decode cX6_takesPart 18 = .ok (.if_icmp .gt 18, 3) := by decide +kernel
theorem dX6_takesPart_21 : decode cX6_takesPart 21 = .ok (.aload_n 0, 1) := by decide +kernel
theorem dX6_takesPart_22 : decode cX6_takesPart 22 = .ok (.aload_n 0, 1) := by decide +kernel
theorem dX6_takesPart_23 : decode cX6_takesPart 23 = .ok (.invokevirtual 145, 3) := by decide +kernel
theorem dX6_takesPart_26 : decode cX6_takesPart 26 = .ok (.invokevirtual 148, 3) := by decide +kernel
theorem dX6_takesPart_29 : decode cX6_takesPart 29 = .ok (.ifCond .eq 7, 3) := by decide +kernel
theorem dX6_takesPart_32 : decode cX6_takesPart 32 = .ok (.iconst 1, 1) := by decide +kernel
theorem dX6_takesPart_33 : decode cX6_takesPart 33 = .ok (.goto 4, 3) := by decide +kernel
theorem dX6_takesPart_36 : decode cX6_takesPart 36 = .ok (.iconst 0, 1) := by decide +kernel
theorem dX6_takesPart_37 : decode cX6_takesPart 37 = .ok (.ireturn, 1) := by decide +kernel
theorem dX6_takesPart_38 : decode cX6_takesPart 38 = .ok (.aload_n 0, 1) := by decide +kernel
theorem dX6_takesPart_39 : decode cX6_takesPart 39 = .ok (.getfield 46, 3) := by decide +kernel
theorem dX6_takesPart_42 : decode cX6_takesPart 42 = .ok (.iconst 1, 1) := by decide +kernel
theorem dX6_takesPart_43 : decode cX6_takesPart 43 = .ok (.if_icmp .ne 60, 3) := by decide +kernel
theorem dX6_takesPart_46 : decode cX6_takesPart 46 = .ok (.aload_n 0, 1) := by decide +kernel
theorem dX6_takesPart_47 : decode cX6_takesPart 47 = .ok (.getfield 92, 3) := by decide +kernel
theorem dX6_takesPart_50 : decode cX6_takesPart 50 = .ok (.aload_n 0, 1) := by decide +kernel
theorem dX6_takesPart_51 : decode cX6_takesPart 51 = .ok (.getfield 43, 3) := by decide +kernel
theorem dX6_takesPart_54 : decode cX6_takesPart 54 = .ok (.isub, 1) := by decide +kernel
theorem dX6_takesPart_55 : decode cX6_takesPart 55 = .ok (.iconst 1, 1) := by decide +kernel
theorem dX6_takesPart_56 : decode cX6_takesPart 56 = .ok (.if_icmp .ne 25, 3) := by decide +kernel
theorem dX6_takesPart_59 : decode cX6_takesPart 59 = .ok (.aload_n 0, 1) := by decide +kernel
theorem dX6_takesPart_60 : decode cX6_takesPart 60 = .ok (.getfield 40, 3) := by decide +kernel
theorem dX6_takesPart_63 : decode cX6_takesPart 63 = .ok (.invokestatic 152, 3) := by decide +kernel
theorem dX6_takesPart_66 : decode cX6_takesPart 66 = .ok (.aload_n 0, 1) := by decide +kernel
theorem dX6_takesPart_67 : decode cX6_takesPart 67 = .ok (.aload_n 0, 1) := by decide +kernel
theorem dX6_takesPart_68 : decode cX6_takesPart 68 = .ok (.getfield 43, 3) := by decide +kernel
theorem dX6_takesPart_71 : decode cX6_takesPart 71 = .ok (.invokevirtual 104, 3) := by decide +kernel
theorem dX6_takesPart_74 : decode cX6_takesPart 74 = .ok (.i2c, 1) := by decide +kernel
theorem dX6_takesPart_75 : decode cX6_takesPart 75 = .ok (.invokevirtual 155, 3) := by decide +kernel
theorem dX6_takesPart_78 : decode cX6_takesPart 78 = .ok (.goto 4, 3) := by decide +kernel
theorem dX6_takesPart_81 : decode cX6_takesPart 81 = .ok (.iconst (-1), 1) := by decide +kernel
theorem dX6_takesPart_82 : decode cX6_takesPart 82 = .ok (.istore_n 1, 1) := by decide +kernel
theorem dX6_takesPart_83 : decode cX6_takesPart 83 = .ok (.iload_n 1, 1) := by decide +kernel
theorem dX6_takesPart_84 : decode cX6_takesPart 84 = .ok (.ifCond .lt 17, 3) := by decide +kernel
theorem dX6_takesPart_87 : decode cX6_takesPart 87 = .ok (.aload_n 0, 1) := by decide +kernel
theorem dX6_takesPart_88 : decode cX6_takesPart 88 = .ok (.iconst (-1), 1) := by decide +kernel
theorem dX6_takesPart_89 : decode cX6_takesPart 89 = .ok (.iload_n 1, 1) := by decide +kernel
theorem dX6_takesPart_90 : decode cX6_takesPart 90 = .ok (.isub, 1) := by decide +kernel
theorem dX6_takesPart_91 : decode cX6_takesPart 91 = .ok (.invokevirtual 148, 3) := by decide +kernel
theorem dX6_takesPart_94 : decode cX6_takesPart 94 = .ok (.ifCond .eq 7, 3) := by decide +kernel
theorem dX6_takesPart_97 : decode cX6_takesPart 97 = .ok (.iconst 1, 1) := by decide +kernel
theorem dX6_takesPart_98 : decode cX6_takesPart 98 = .ok (.goto 4, 3) := by decide +kernel
theorem dX6_takesPart_101 : decode cX6_takesPart 101 = .ok (.iconst 0, 1) := by decide +kernel
theorem dX6_takesPart_102 : decode cX6_takesPart 102 = .ok (.ireturn, 1) := by decide +kernel
theorem dX6_takesPart_103 : decode cX6_takesPart 103 = .ok (.aload_n 0, 1) := by decide +kernel
theorem dX6_takesPart_104 : decode cX6_takesPart 104 = .ok (.aload_n 0, 1) := by decide +kernel
theorem dX6_takesPart_105 : decode cX6_takesPart 105 = .ok (.getfield 43, 3) := by decide +kernel
theorem dX6_takesPart_108 : decode cX6_takesPart 108 = .ok (.invokevirtual 104, 3) := by decide +kernel
theorem dX6_takesPart_111 : decode cX6_takesPart 111 = .ok (.istore_n 1, 1) := by decide +kernel
theorem dX6_takesPart_112 : decode cX6_takesPart 112 = .ok (.iload_n 1, 1) := by decide +kernel
theorem dX6_takesPart_113 : decode cX6_takesPart 113 = .ok (.bipush 33, 2) := by decide +kernel
theorem dX6_takesPart_115 : decode cX6_takesPart 115 = .ok (.if_icmp .ne 28, 3) := by decide +kernel
theorem dX6_takesPart_118 : decode cX6_takesPart 118 = .ok (.aload_n 0, 1) := by decide +kernel
theorem dX6_takesPart_119 : decode cX6_takesPart 119 = .ok (.getfield 101, 3) := by decide +kernel
theorem dX6_takesPart_122 : decode cX6_takesPart 122 = .ok (.bipush 8, 2) := by decide +kernel
theorem dX6_takesPart_124 : decode cX6_takesPart 124 = .ok (.if_icmp .ge 19, 3) := by decide +kernel
theorem dX6_takesPart_127 : decode cX6_takesPart 127 = .ok (.aload_n 0, 1) := by decide +kernel
theorem dX6_takesPart_128 : decode cX6_takesPart 128 = .ok (.dup, 1) := by decide +kernel
theorem dX6_takesPart_129 : decode cX6_takesPart 129 = .ok (.getfield 101, 3) := by decide +kernel
theorem dX6_takesPart_132 : decode cX6_takesPart 132 = .ok (.iconst 1, 1) := by decide +kernel
theorem dX6_takesPart_133 : decode cX6_takesPart 133 = .ok (.iadd, 1) := by decide +kernel
theorem dX6_takesPart_134 : decode cX6_takesPart 134 = .ok (.putfield 101, 3) := by decide +kernel
theorem dX6_takesPart_137 : decode cX6_takesPart 137 = .ok (.aload_n 0, 1) := by decide +kernel
theorem dX6_takesPart_138 : decode cX6_takesPart 138 = .ok (.iload_n 1, 1) := by decide +kernel
theorem dX6_takesPart_139 : decode cX6_takesPart 139 = .ok (.invokevirtual 158, 3) := by decide +kernel
theorem dX6_takesPart_142 : decode cX6_takesPart 142 = .ok (.ireturn, 1) := by decide +kernel
theorem dX6_takesPart_143 : decode cX6_takesPart 143 = .ok (.iload_n 1, 1) := by decide +kernel
theorem dX6_takesPart_144 : decode cX6_takesPart 144 = .ok (.bipush 40, 2) := by decide +kernel
theorem dX6_takesPart_146 : decode cX6_takesPart 146 = .ok (.if_icmp .ne 28, 3) := by decide +kernel
theorem dX6_takesPart_149 : decode cX6_takesPart 149 = .ok (.aload_n 0, 1) := by decide +kernel
theorem dX6_takesPart_150 : decode cX6_takesPart 150 = .ok (.getfield 98, 3) := by decide +kernel
theorem dX6_takesPart_153 : decode cX6_takesPart 153 = .ok (.bipush 8, 2) := by decide +kernel
theorem dX6_takesPart_155 : decode cX6_takesPart 155 = .ok (.if_icmp .ge 19, 3) := by decide +kernel
theorem dX6_takesPart_158 : decode cX6_takesPart 158 = .ok (.aload_n 0, 1) := by decide +kernel
theorem dX6_takesPart_159 : decode cX6_takesPart 159 = .ok (.dup, 1) := by decide +kernel
theorem dX6_takesPart_160 : decode cX6_takesPart 160 = .ok (.getfield 98, 3) := by decide +kernel
theorem dX6_takesPart_163 : decode cX6_takesPart 163 = .ok (.iconst 1, 1) := by decide +kernel
theorem dX6_takesPart_164 : decode cX6_takesPart 164 = .ok (.iadd, 1) := by decide +kernel
theorem dX6_takesPart_165 : decode cX6_takesPart 165 = .ok (.putfield 98, 3) := by decide +kernel
theorem dX6_takesPart_168 : decode cX6_takesPart 168 = .ok (.aload_n 0, 1) := by decide +kernel
theorem dX6_takesPart_169 : decode cX6_takesPart 169 = .ok (.iload_n 1, 1) := by decide +kernel
theorem dX6_takesPart_170 : decode cX6_takesPart 170 = .ok (.invokevirtual 158, 3) := by decide +kernel
theorem dX6_takesPart_173 : decode cX6_takesPart 173 = .ok (.ireturn, 1) := by decide +kernel
theorem dX6_takesPart_174 : decode cX6_takesPart 174 = .ok (.iconst 0, 1) := by decide +kernel
theorem dX6_takesPart_175 : decode cX6_takesPart 175 = .ok (.ireturn, 1) := by decide +kernel
theorem dX6_numberHere_0 : decode cX6_numberHere 0 = .ok (.iconst 0, 1) := by decide +kernel
theorem dX6_numberHere_1 : decode cX6_numberHere 1 = .ok (.istore_n 1, 1) := by decide +kernel
theorem dX6_numberHere_2 : decode cX6_numberHere 2 = .ok (.aload_n 0, 1) := by decide +kernel
theorem dX6_numberHere_3 : decode cX6_numberHere 3 = .ok (.getfield 43, 3) := by decide +kernel
theorem dX6_numberHere_6 : decode cX6_numberHere 6 = .ok (.istore_n 2, 1) := by decide +kernel
theorem dX6_numberHere_7 : decode cX6_numberHere 7 = .ok (.iload_n 2, 1) := by decide +kernel
theorem dX6_numberHere_8 : decode cX6_numberHere 8 = .ok (.aload_n 0, 1) := by decide +kernel
theorem dX6_numberHere_9 : decode cX6_numberHere 9 = .ok (.getfield 92, 3) := by decide +kernel
theorem dX6_numberHere_12 : decode cX6_numberHere 12 = .ok (.if_icmp .ge 23, 3) := by decide +kernel
theorem dX6_numberHere_15 : decode cX6_numberHere 15 = .ok (.iload_n 1, 1) := by decide +kernel
theorem dX6_numberHere_16 : decode cX6_numberHere 16 = .ok (.bipush 10, 2) := by decide +kernel
theorem dX6_numberHere_18 : decode cX6_numberHere 18 = .ok (.imul, 1) := by decide +kernel
theorem dX6_numberHere_19 : decode cX6_numberHere 19 = .ok (.aload_n 0, 1) := by decide +kernel
theorem dX6_numberHere_20 : decode cX6_numberHere 20 = .ok (.iload_n 2, 1) := by decide +kernel
theorem dX6_numberHere_21 : decode cX6_numberHere 21 = .ok (.invokevirtual 104, 3) := by decide +kernel
theorem dX6_numberHere_24 : decode cX6_numberHere 24 = .ok (.iadd, 1) := by decide +kernel
theorem dX6_numberHere_25 : decode cX6_numberHere 25 = .ok (.bipush 48, 2) := by decide +kernel
theorem dX6_numberHere_27 : decode cX6_numberHere 27 = .ok (.isub, 1) := by decide +kernel
theorem dX6_numberHere_28 : decode cX6_numberHere 28 = .ok (.istore_n 1, 1) := by decide +kernel
theorem dX6_numberHere_29 : decode cX6_numberHere 29 = .ok (.iinc 2 1, 3) := by decide +kernel
theorem dX6_numberHere_32 : decode cX6_numberHere 32 = .ok (.goto (-25), 3) := by decide +kernel
theorem dX6_numberHere_35 : decode cX6_numberHere 35 = .ok (.iload_n 1, 1) := by decide +kernel
theorem dX6_numberHere_36 : decode cX6_numberHere 36 = .ok (.ireturn, 1) := by decide +kernel
theorem dX6_takesValue_0 : decode cX6_takesValue 0 = .ok (.aload_n 0, 1) := by decide +kernel
theorem dX6_takesValue_1 : decode cX6_takesValue 1 = .ok (.iload_n 1, 1) := by decide +kernel
theorem dX6_takesValue_2 : decode cX6_takesValue 2 = .ok (.invokevirtual 161, 3) := by decide +kernel
theorem dX6_takesValue_5 : decode cX6_takesValue 5 = .ok (.aload_n 0, 1) := by decide +kernel
theorem dX6_takesValue_6 : decode cX6_takesValue 6 = .ok (.dup, 1) := by decide +kernel
theorem dX6_takesValue_7 : decode cX6_takesValue 7 = .ok (.getfield 71, 3) := by decide +kernel
theorem dX6_takesValue_10 : decode cX6_takesValue 10 = .ok (.iconst 1, 1) := by decide +kernel
theorem dX6_takesValue_11 : decode cX6_takesValue 11 = .ok (.iadd, 1) := by decide +kernel
theorem dX6_takesValue_12 : decode cX6_takesValue 12 = .ok (.putfield 71, 3) := by decide +kernel
theorem dX6_takesValue_15 : decode cX6_takesValue 15 = .ok (.aload_n 0, 1) := by decide +kernel
theorem dX6_takesValue_16 : decode cX6_takesValue 16 = .ok (.invokevirtual 164, 3) := by decide +kernel
theorem dX6_takesValue_19 : decode cX6_takesValue 19 = .ok (.iconst 1, 1) := by decide +kernel
theorem dX6_takesValue_20 : decode cX6_takesValue 20 = .ok (.ireturn, 1) := by decide +kernel
theorem dX6_endPart_0 : decode cX6_endPart 0 = .ok (.iconst 0, 1) := by decide +kernel
theorem dX6_endPart_1 : decode cX6_endPart 1 = .ok (.istore_n 1, 1) := by decide +kernel
theorem dX6_endPart_2 : decode cX6_endPart 2 = .ok (.iload_n 1, 1) := by decide +kernel
theorem dX6_endPart_3 : decode cX6_endPart 3 = .ok (.bipush 8, 2) := by decide +kernel
theorem dX6_endPart_5 : decode cX6_endPart 5 = .ok (.if_icmp .ge 37, 3) := by decide +kernel
theorem dX6_endPart_8 : decode cX6_endPart 8 = .ok (.aload_n 0, 1) := by decide +kernel
theorem dX6_endPart_9 : decode cX6_endPart 9 = .ok (.invokevirtual 167, 3) := by decide +kernel
theorem dX6_endPart_12 : decode cX6_endPart 12 = .ok (.bipush 33, 2) := by decide +kernel
theorem dX6_endPart_14 : decode cX6_endPart 14 = .ok (.if_icmp .ne 28, 3) := by decide +kernel
theorem dX6_endPart_17 : decode cX6_endPart 17 = .ok (.aload_n 0, 1) := by decide +kernel
theorem dX6_endPart_18 : decode cX6_endPart 18 = .ok (.aload_n 0, 1) := by decide +kernel
theorem dX6_endPart_19 : decode cX6_endPart 19 = .ok (.invokevirtual 170, 3) := by decide +kernel
theorem dX6_endPart_22 : decode cX6_endPart 22 = .ok (.ineg, 1) := by decide +kernel
theorem dX6_endPart_23 : decode cX6_endPart 23 = .ok (.invokevirtual 161, 3) := by decide +kernel
theorem dX6_endPart_26 : decode cX6_endPart 26 = .ok (.aload_n 0, 1) := by decide +kernel
theorem dX6_endPart_27 : decode cX6_endPart 27 = .ok (.dup, 1) := by decide +kernel
theorem dX6_endPart_28 : decode cX6_endPart 28 = .ok (.getfield 101, 3) := by decide +kernel
theorem dX6_endPart_31 : decode cX6_endPart 31 = .ok (.iconst 1, 1) := by decide +kernel
theorem dX6_endPart_32 : decode cX6_endPart 32 = .ok (.isub, 1) := by decide +kernel
theorem dX6_endPart_33 : decode cX6_endPart 33 = .ok (.putfield 101, 3) := by decide +kernel
theorem dX6_endPart_36 : decode cX6_endPart 36 = .ok (.iinc 1 1, 3) := by decide +kernel
theorem dX6_endPart_39 : decode cX6_endPart 39 = .ok (.goto (-37), 3) := by decide +kernel
theorem dX6_endPart_42 : decode cX6_endPart 42 = .ok (.aload_n 0, 1) := by decide +kernel
theorem dX6_endPart_43 : decode cX6_endPart 43 = .ok (.iconst 0, 1) := by decide +kernel
theorem dX6_endPart_44 : decode cX6_endPart 44 = .ok (.putfield 57, 3) := by decide +kernel
theorem dX6_endPart_47 : decode cX6_endPart 47 = .ok (.return_, 1) := by decide +kernel
theorem dX6_takesJoin_0 : decode cX6_takesJoin 0 = .ok (.aload_n 0, 1) := by decide +kernel
theorem dX6_takesJoin_1 : decode cX6_takesJoin 1 = .ok (.aload_n 0, 1) := by decide +kernel
theorem dX6_takesJoin_2 : decode cX6_takesJoin 2 = .ok (.getfield 43, 3) := by decide +kernel
theorem dX6_takesJoin_5 : decode cX6_takesJoin 5 = .ok (.invokevirtual 104, 3) := by decide +kernel
theorem dX6_takesJoin_8 : decode cX6_takesJoin 8 = .ok (.istore_n 1, 1) := by decide +kernel
theorem dX6_takesJoin_9 : decode cX6_takesJoin 9 = .ok (.iload_n 1, 1) := by decide +kernel
theorem dX6_takesJoin_10 : decode cX6_takesJoin 10 = .ok (.bipush 41, 2) := by decide +kernel
theorem dX6_takesJoin_12 : decode cX6_takesJoin 12 = .ok (.if_icmp .ne 8, 3) := by decide +kernel
theorem dX6_takesJoin_15 : decode cX6_takesJoin 15 = .ok (.aload_n 0, 1) := by decide +kernel
theorem dX6_takesJoin_16 : decode cX6_takesJoin 16 = .ok (.invokevirtual 173, 3) := by decide +kernel
theorem dX6_takesJoin_19 : decode cX6_takesJoin 19 = .ok (.ireturn, 1) := by decide +kernel
theorem dX6_takesJoin_20 : decode cX6_takesJoin 20 = .ok (.iload_n 1, 1) := by decide +kernel
theorem dX6_takesJoin_21 : decode cX6_takesJoin 21 = .ok (.invokestatic 176, 3) := by decide +kernel
theorem dX6_takesJoin_24 : decode cX6_takesJoin 24 = .ok (.istore_n 2, 1) := by decide +kernel
theorem dX6_takesJoin_25 : decode cX6_takesJoin 25 = .ok (.iload_n 2, 1) := by decide +kernel
theorem dX6_takesJoin_26 : decode cX6_takesJoin 26 = .ok (.ifCond .ne 5, 3) := by decide +kernel
theorem dX6_takesJoin_29 : decode cX6_takesJoin 29 = .ok (.iconst 0, 1) := by decide +kernel
theorem dX6_takesJoin_30 : decode cX6_takesJoin 30 = .ok (.ireturn, 1) := by decide +kernel
theorem dX6_takesJoin_31 : decode cX6_takesJoin 31 = .ok (.aload_n 0, 1) := by decide +kernel
theorem dX6_takesJoin_32 : decode cX6_takesJoin 32 = .ok (.iload_n 2, 1) := by decide +kernel
theorem dX6_takesJoin_33 : decode cX6_takesJoin 33 = .ok (.iconst 1, 1) := by decide +kernel
theorem dX6_takesJoin_34 : decode cX6_takesJoin 34 = .ok (.iadd, 1) := by decide +kernel
theorem dX6_takesJoin_35 : decode cX6_takesJoin 35 = .ok (.invokevirtual 66, 3) := by decide +kernel
theorem dX6_takesJoin_38 : decode cX6_takesJoin 38 = .ok (.iload_n 2, 1) := by decide +kernel
theorem dX6_takesJoin_39 : decode cX6_takesJoin 39 = .ok (.iconst 3, 1) := by decide +kernel
theorem dX6_takesJoin_40 : decode cX6_takesJoin 40 = .ok (.if_icmp .ne 16, 3) := by decide +kernel
theorem dX6_takesJoin_43 : decode cX6_takesJoin 43 = .ok (.aload_n 0, 1) := by decide +kernel
theorem dX6_takesJoin_44 : decode cX6_takesJoin 44 = .ok (.invokevirtual 167, 3) := by decide +kernel
theorem dX6_takesJoin_47 : decode cX6_takesJoin 47 = .ok (.invokestatic 176, 3) := by decide +kernel
theorem dX6_takesJoin_50 : decode cX6_takesJoin 50 = .ok (.iconst 3, 1) := by decide +kernel
theorem dX6_takesJoin_51 : decode cX6_takesJoin 51 = .ok (.if_icmp .ne 5, 3) := by decide +kernel
theorem dX6_takesJoin_54 : decode cX6_takesJoin 54 = .ok (.iconst 0, 1) := by decide +kernel
theorem dX6_takesJoin_55 : decode cX6_takesJoin 55 = .ok (.ireturn, 1) := by decide +kernel
theorem dX6_takesJoin_56 : decode cX6_takesJoin 56 = .ok (.aload_n 0, 1) := by decide +kernel
theorem dX6_takesJoin_57 : decode cX6_takesJoin 57 = .ok (.iload_n 2, 1) := by decide +kernel
theorem dX6_takesJoin_58 : decode cX6_takesJoin 58 = .ok (.invokevirtual 66, 3) := by decide +kernel
theorem dX6_takesJoin_61 : decode cX6_takesJoin 61 = .ok (.aload_n 0, 1) := by decide +kernel
theorem dX6_takesJoin_62 : decode cX6_takesJoin 62 = .ok (.iconst 1, 1) := by decide +kernel
theorem dX6_takesJoin_63 : decode cX6_takesJoin 63 = .ok (.putfield 57, 3) := by decide +kernel
theorem dX6_takesJoin_66 : decode cX6_takesJoin 66 = .ok (.aload_n 0, 1) := by decide +kernel
theorem dX6_takesJoin_67 : decode cX6_takesJoin 67 = .ok (.iload_n 1, 1) := by decide +kernel
theorem dX6_takesJoin_68 : decode cX6_takesJoin 68 = .ok (.invokevirtual 158, 3) := by decide +kernel
theorem dX6_takesJoin_71 : decode cX6_takesJoin 71 = .ok (.ireturn, 1) := by decide +kernel
theorem dX6_takesClosing_0 : decode cX6_takesClosing 0 = .ok (.aload_n 0, 1) := by decide +kernel
theorem dX6_takesClosing_1 : decode cX6_takesClosing 1 = .ok (.getfield 98, 3) := by decide +kernel
theorem dX6_takesClosing_4 : decode cX6_takesClosing 4 = .ok (.ifCond .gt 5, 3) := by decide +kernel
theorem dX6_takesClosing_7 : decode cX6_takesClosing 7 = .ok (.iconst 0, 1) := by decide +kernel
theorem dX6_takesClosing_8 : decode cX6_takesClosing 8 = .ok (.ireturn, 1) := by decide +kernel
theorem dX6_takesClosing_9 : decode cX6_takesClosing 9 = .ok (.aload_n 0, 1) := by decide +kernel
theorem dX6_takesClosing_10 : decode cX6_takesClosing 10 = .ok (.iconst 1, 1) := by decide +kernel
theorem dX6_takesClosing_11 : decode cX6_takesClosing 11 = .ok (.invokevirtual 66, 3) := by decide +kernel
theorem dX6_takesClosing_14 : decode cX6_takesClosing 14 = .ok (.aload_n 0, 1) := by decide +kernel
theorem dX6_takesClosing_15 : decode cX6_takesClosing 15 = .ok (.invokevirtual 170, 3) := by decide +kernel
theorem dX6_takesClosing_18 : decode cX6_takesClosing 18 = .ok (.pop, 1) := by decide +kernel
theorem dX6_takesClosing_19 : decode cX6_takesClosing 19 = .ok (.aload_n 0, 1) := by decide +kernel
theorem dX6_takesClosing_20 : decode cX6_takesClosing 20 = .ok (.dup, 1) := by decide +kernel
theorem dX6_takesClosing_21 : decode cX6_takesClosing 21 = .ok (.getfield 98, 3) := by decide +kernel
theorem dX6_takesClosing_24 : decode cX6_takesClosing 24 = .ok (.iconst 1, 1) := by decide +kernel
theorem dX6_takesClosing_25 : decode cX6_takesClosing 25 = .ok (.isub, 1) := by decide +kernel
theorem dX6_takesClosing_26 : decode cX6_takesClosing 26 = .ok (.putfield 98, 3) := by decide +kernel
theorem dX6_takesClosing_29 : decode cX6_takesClosing 29 = .ok (.aload_n 0, 1) := by decide +kernel
theorem dX6_takesClosing_30 : decode cX6_takesClosing 30 = .ok (.invokevirtual 164, 3) := by decide +kernel
theorem dX6_takesClosing_33 : decode cX6_takesClosing 33 = .ok (.iconst 1, 1) := by decide +kernel
theorem dX6_takesClosing_34 : decode cX6_takesClosing 34 = .ok (.ireturn, 1) := by decide +kernel
theorem dX6_rankOf_0 : decode cX6_rankOf 0 = .ok (.iload_n 0, 1) := by decide +kernel
theorem dX6_rankOf_1 : decode cX6_rankOf 1 = .ok (.lookupswitch 101 #[(38, 85), (42, 97), (43, 93), (45, 95), (47, 99), (60, 87), (61, 89), (62, 91), (124, 83)], 83) := by decide +kernel
theorem dX6_rankOf_84 : decode cX6_rankOf 84 = .ok (.iconst 1, 1) := by decide +kernel
theorem dX6_rankOf_85 : decode cX6_rankOf 85 = .ok (.ireturn, 1) := by decide +kernel
theorem dX6_rankOf_86 : decode cX6_rankOf 86 = .ok (.iconst 2, 1) := by decide +kernel
theorem dX6_rankOf_87 : decode cX6_rankOf 87 = .ok (.ireturn, 1) := by decide +kernel
theorem dX6_rankOf_88 : decode cX6_rankOf 88 = .ok (.iconst 3, 1) := by decide +kernel
theorem dX6_rankOf_89 : decode cX6_rankOf 89 = .ok (.ireturn, 1) := by decide +kernel
theorem dX6_rankOf_90 : decode cX6_rankOf 90 = .ok (.iconst 3, 1) := by decide +kernel
theorem dX6_rankOf_91 : decode cX6_rankOf 91 = .ok (.ireturn, 1) := by decide +kernel
theorem dX6_rankOf_92 : decode cX6_rankOf 92 = .ok (.iconst 3, 1) := by decide +kernel
theorem dX6_rankOf_93 : decode cX6_rankOf 93 = .ok (.ireturn, 1) := by decide +kernel
theorem dX6_rankOf_94 : decode cX6_rankOf 94 = .ok (.iconst 4, 1) := by decide +kernel
theorem dX6_rankOf_95 : decode cX6_rankOf 95 = .ok (.ireturn, 1) := by decide +kernel
theorem dX6_rankOf_96 : decode cX6_rankOf 96 = .ok (.iconst 4, 1) := by decide +kernel
theorem dX6_rankOf_97 : decode cX6_rankOf 97 = .ok (.ireturn, 1) := by decide +kernel
theorem dX6_rankOf_98 : decode cX6_rankOf 98 = .ok (.iconst 5, 1) := by decide +kernel
theorem dX6_rankOf_99 : decode cX6_rankOf 99 = .ok (.ireturn, 1) := by decide +kernel
theorem dX6_rankOf_100 : decode cX6_rankOf 100 = .ok (.iconst 5, 1) := by decide +kernel
theorem dX6_rankOf_101 : decode cX6_rankOf 101 = .ok (.ireturn, 1) := by decide +kernel
theorem dX6_rankOf_102 : decode cX6_rankOf 102 = .ok (.iconst 0, 1) := by decide +kernel
theorem dX6_rankOf_103 : decode cX6_rankOf 103 = .ok (.ireturn, 1) := by decide +kernel
theorem dX6_settle_0 : decode cX6_settle 0 = .ok (.iconst 0, 1) := by decide +kernel
theorem dX6_settle_1 : decode cX6_settle 1 = .ok (.istore_n 2, 1) := by decide +kernel
theorem dX6_settle_2 : decode cX6_settle 2 = .ok (.iload_n 2, 1) := by decide +kernel
theorem dX6_settle_3 : decode cX6_settle 3 = .ok (.bipush 96, 2) := by decide +kernel
theorem dX6_settle_5 : decode cX6_settle 5 = .ok (.if_icmp .ge 29, 3) := by decide +kernel
theorem dX6_settle_8 : decode cX6_settle 8 = .ok (.aload_n 0, 1) := by decide +kernel
theorem dX6_settle_9 : decode cX6_settle 9 = .ok (.invokevirtual 167, 3) := by decide +kernel
theorem dX6_settle_12 : decode cX6_settle 12 = .ok (.invokestatic 176, 3) := by decide +kernel
theorem dX6_settle_15 : decode cX6_settle 15 = .ok (.iload_n 1, 1) := by decide +kernel
theorem dX6_settle_16 : decode cX6_settle 16 = .ok (.if_icmp .lt 18, 3) := by decide +kernel
theorem dX6_settle_19 : decode cX6_settle 19 = .ok (.aload_n 0, 1) := by decide +kernel
theorem dX6_settle_20 : decode cX6_settle 20 = .ok (.aload_n 0, 1) := by decide +kernel
theorem dX6_settle_21 : decode cX6_settle 21 = .ok (.invokevirtual 170, 3) := by decide +kernel
theorem dX6_settle_24 : decode cX6_settle 24 = .ok (.ineg, 1) := by decide +kernel
theorem dX6_settle_25 : decode cX6_settle 25 = .ok (.invokevirtual 161, 3) := by decide +kernel
theorem dX6_settle_28 : decode cX6_settle 28 = .ok (.iinc 2 1, 3) := by decide +kernel
theorem dX6_settle_31 : decode cX6_settle 31 = .ok (.goto (-29), 3) := by decide +kernel
theorem dX6_settle_34 : decode cX6_settle 34 = .ok (.return_, 1) := by decide +kernel
theorem dX6_topSign_0 : decode cX6_topSign 0 = .ok (.aload_n 0, 1) := by decide +kernel
theorem dX6_topSign_1 : decode cX6_topSign 1 = .ok (.getfield 95, 3) := by decide +kernel
theorem dX6_topSign_4 : decode cX6_topSign 4 = .ok (.ifCond .le 29, 3) := by decide +kernel
theorem dX6_topSign_7 : decode cX6_topSign 7 = .ok (.aload_n 0, 1) := by decide +kernel
theorem dX6_topSign_8 : decode cX6_topSign 8 = .ok (.getfield 95, 3) := by decide +kernel
theorem dX6_topSign_11 : decode cX6_topSign 11 = .ok (.aload_n 0, 1) := by decide +kernel
theorem dX6_topSign_12 : decode cX6_topSign 12 = .ok (.getfield 19, 3) := by decide +kernel
theorem dX6_topSign_15 : decode cX6_topSign 15 = .ok (.arraylength, 1) := by decide +kernel
theorem dX6_topSign_16 : decode cX6_topSign 16 = .ok (.if_icmp .gt 17, 3) := by decide +kernel
theorem dX6_topSign_19 : decode cX6_topSign 19 = .ok (.aload_n 0, 1) := by decide +kernel
theorem dX6_topSign_20 : decode cX6_topSign 20 = .ok (.getfield 19, 3) := by decide +kernel
theorem dX6_topSign_23 : decode cX6_topSign 23 = .ok (.aload_n 0, 1) := by decide +kernel
theorem dX6_topSign_24 : decode cX6_topSign 24 = .ok (.getfield 95, 3) := by decide +kernel
theorem dX6_topSign_27 : decode cX6_topSign 27 = .ok (.iconst 1, 1) := by decide +kernel
theorem dX6_topSign_28 : decode cX6_topSign 28 = .ok (.isub, 1) := by decide +kernel
theorem dX6_topSign_29 : decode cX6_topSign 29 = .ok (.iaload, 1) := by decide +kernel
theorem dX6_topSign_30 : decode cX6_topSign 30 = .ok (.goto 4, 3) := by decide +kernel
theorem dX6_topSign_33 : decode cX6_topSign 33 = .ok (.iconst 0, 1) := by decide +kernel
theorem dX6_topSign_34 : decode cX6_topSign 34 = .ok (.ireturn, 1) := by decide +kernel
theorem dX6_takeSign_0 : decode cX6_takeSign 0 = .ok (.aload_n 0, 1) := by decide +kernel
theorem dX6_takeSign_1 : decode cX6_takeSign 1 = .ok (.invokevirtual 167, 3) := by decide +kernel
theorem dX6_takeSign_4 : decode cX6_takeSign 4 = .ok (.istore_n 1, 1) := by decide +kernel
theorem dX6_takeSign_5 : decode cX6_takeSign 5 = .ok (.aload_n 0, 1) := by decide +kernel
theorem dX6_takeSign_6 : decode cX6_takeSign 6 = .ok (.iconst 0, 1) := by decide +kernel
theorem dX6_takeSign_7 : decode cX6_takeSign 7 = .ok (.aload_n 0, 1) := by decide +kernel
theorem dX6_takeSign_8 : decode cX6_takeSign 8 = .ok (.getfield 95, 3) := by decide +kernel
theorem dX6_takeSign_11 : decode cX6_takeSign 11 = .ok (.iconst 1, 1) := by decide +kernel
theorem dX6_takeSign_12 : decode cX6_takeSign 12 = .ok (.isub, 1) := by decide +kernel
theorem dX6_takeSign_13 : decode cX6_takeSign 13 = .ok (.invokestatic 77, 3) := by decide +kernel
theorem dX6_takeSign_16 : decode cX6_takeSign 16 = .ok (.putfield 95, 3) := by decide +kernel
theorem dX6_takeSign_19 : decode cX6_takeSign 19 = .ok (.iload_n 1, 1) := by decide +kernel
theorem dX6_takeSign_20 : decode cX6_takeSign 20 = .ok (.ireturn, 1) := by decide +kernel
theorem dX6_waitsWith_0 : decode cX6_waitsWith 0 = .ok (.aload_n 0, 1) := by decide +kernel
theorem dX6_waitsWith_1 : decode cX6_waitsWith 1 = .ok (.getfield 95, 3) := by decide +kernel
theorem dX6_waitsWith_4 : decode cX6_waitsWith 4 = .ok (.ifCond .lt 15, 3) := by decide +kernel
theorem dX6_waitsWith_7 : decode cX6_waitsWith 7 = .ok (.aload_n 0, 1) := by decide +kernel
theorem dX6_waitsWith_8 : decode cX6_waitsWith 8 = .ok (.getfield 95, 3) := by decide +kernel
theorem dX6_waitsWith_11 : decode cX6_waitsWith 11 = .ok (.aload_n 0, 1) := by decide +kernel
theorem dX6_waitsWith_12 : decode cX6_waitsWith 12 = .ok (.getfield 19, 3) := by decide +kernel
theorem dX6_waitsWith_15 : decode cX6_waitsWith 15 = .ok (.arraylength, 1) := by decide +kernel
theorem dX6_waitsWith_16 : decode cX6_waitsWith 16 = .ok (.if_icmp .lt 5, 3) := by decide +kernel
theorem dX6_waitsWith_19 : decode cX6_waitsWith 19 = .ok (.iconst 0, 1) := by decide +kernel
theorem dX6_waitsWith_20 : decode cX6_waitsWith 20 = .ok (.ireturn, 1) := by decide +kernel
theorem dX6_waitsWith_21 : decode cX6_waitsWith 21 = .ok (.aload_n 0, 1) := by decide +kernel
theorem dX6_waitsWith_22 : decode cX6_waitsWith 22 = .ok (.getfield 19, 3) := by decide +kernel
theorem dX6_waitsWith_25 : decode cX6_waitsWith 25 = .ok (.aload_n 0, 1) := by decide +kernel
theorem dX6_waitsWith_26 : decode cX6_waitsWith 26 = .ok (.getfield 95, 3) := by decide +kernel
theorem dX6_waitsWith_29 : decode cX6_waitsWith 29 = .ok (.iload_n 1, 1) := by decide +kernel
theorem dX6_waitsWith_30 : decode cX6_waitsWith 30 = .ok (.iastore, 1) := by decide +kernel
theorem dX6_waitsWith_31 : decode cX6_waitsWith 31 = .ok (.aload_n 0, 1) := by decide +kernel
theorem dX6_waitsWith_32 : decode cX6_waitsWith 32 = .ok (.dup, 1) := by decide +kernel
theorem dX6_waitsWith_33 : decode cX6_waitsWith 33 = .ok (.getfield 95, 3) := by decide +kernel
theorem dX6_waitsWith_36 : decode cX6_waitsWith 36 = .ok (.iconst 1, 1) := by decide +kernel
theorem dX6_waitsWith_37 : decode cX6_waitsWith 37 = .ok (.iadd, 1) := by decide +kernel
theorem dX6_waitsWith_38 : decode cX6_waitsWith 38 = .ok (.putfield 95, 3) := by decide +kernel
theorem dX6_waitsWith_41 : decode cX6_waitsWith 41 = .ok (.iconst 1, 1) := by decide +kernel
theorem dX6_waitsWith_42 : decode cX6_waitsWith 42 = .ok (.ireturn, 1) := by decide +kernel
theorem dX6_write_0 : decode cX6_write 0 = .ok (.aload_n 0, 1) := by decide +kernel
theorem dX6_write_1 : decode cX6_write 1 = .ok (.getfield 74, 3) := by decide +kernel
theorem dX6_write_4 : decode cX6_write 4 = .ok (.ifCond .lt 15, 3) := by decide +kernel
theorem dX6_write_7 : decode cX6_write 7 = .ok (.aload_n 0, 1) := by decide +kernel
theorem dX6_write_8 : decode cX6_write 8 = .ok (.getfield 74, 3) := by decide +kernel
theorem dX6_write_11 : decode cX6_write 11 = .ok (.aload_n 0, 1) := by decide +kernel
theorem dX6_write_12 : decode cX6_write 12 = .ok (.getfield 15, 3) := by decide +kernel
theorem dX6_write_15 : decode cX6_write 15 = .ok (.arraylength, 1) := by decide +kernel
theorem dX6_write_16 : decode cX6_write 16 = .ok (.if_icmp .lt 4, 3) := by decide +kernel
theorem dX6_write_19 : decode cX6_write 19 = .ok (.return_, 1) := by decide +kernel
theorem dX6_write_20 : decode cX6_write 20 = .ok (.aload_n 0, 1) := by decide +kernel
theorem dX6_write_21 : decode cX6_write 21 = .ok (.getfield 15, 3) := by decide +kernel
theorem dX6_write_24 : decode cX6_write 24 = .ok (.aload_n 0, 1) := by decide +kernel
theorem dX6_write_25 : decode cX6_write 25 = .ok (.getfield 74, 3) := by decide +kernel
theorem dX6_write_28 : decode cX6_write 28 = .ok (.iload_n 1, 1) := by decide +kernel
theorem dX6_write_29 : decode cX6_write 29 = .ok (.iastore, 1) := by decide +kernel
theorem dX6_write_30 : decode cX6_write 30 = .ok (.aload_n 0, 1) := by decide +kernel
theorem dX6_write_31 : decode cX6_write 31 = .ok (.dup, 1) := by decide +kernel
theorem dX6_write_32 : decode cX6_write 32 = .ok (.getfield 74, 3) := by decide +kernel
theorem dX6_write_35 : decode cX6_write 35 = .ok (.iconst 1, 1) := by decide +kernel
theorem dX6_write_36 : decode cX6_write 36 = .ok (.iadd, 1) := by decide +kernel
theorem dX6_write_37 : decode cX6_write 37 = .ok (.putfield 74, 3) := by decide +kernel
theorem dX6_write_40 : decode cX6_write 40 = .ok (.return_, 1) := by decide +kernel
theorem dX7_init_0 : decode cX7_init 0 = .ok (.aload_n 0, 1) := by decide +kernel
theorem dX7_init_1 : decode cX7_init 1 = .ok (.invokespecial 1, 3) := by decide +kernel
theorem dX7_init_4 : decode cX7_init 4 = .ok (.aload_n 0, 1) := by decide +kernel
theorem dX7_init_5 : decode cX7_init 5 = .ok (.iload_n 1, 1) := by decide +kernel
theorem dX7_init_6 : decode cX7_init 6 = .ok (.putfield 7, 3) := by decide +kernel
theorem dX7_init_9 : decode cX7_init 9 = .ok (.aload_n 0, 1) := by decide +kernel
theorem dX7_init_10 : decode cX7_init 10 = .ok (.iload_n 2, 1) := by decide +kernel
theorem dX7_init_11 : decode cX7_init 11 = .ok (.putfield 13, 3) := by decide +kernel
theorem dX7_init_14 : decode cX7_init 14 = .ok (.aload_n 0, 1) := by decide +kernel
theorem dX7_init_15 : decode cX7_init 15 = .ok (.iload_n 3, 1) := by decide +kernel
theorem dX7_init_16 : decode cX7_init 16 = .ok (.putfield 16, 3) := by decide +kernel
theorem dX7_init_19 : decode cX7_init 19 = .ok (.aload_n 0, 1) := by decide +kernel
theorem dX7_init_20 : decode cX7_init 20 = .ok (.aload 4, 2) := by decide +kernel
theorem dX7_init_22 : decode cX7_init 22 = .ok (.putfield 19, 3) := by decide +kernel
theorem dX7_init_25 : decode cX7_init 25 = .ok (.aload_n 0, 1) := by decide +kernel
theorem dX7_init_26 : decode cX7_init 26 = .ok (.iconst 1, 1) := by decide +kernel
theorem dX7_init_27 : decode cX7_init 27 = .ok (.iload_n 3, 1) := by decide +kernel
theorem dX7_init_28 : decode cX7_init 28 = .ok (.invokestatic 23, 3) := by decide +kernel
theorem dX7_init_31 : decode cX7_init 31 = .ok (.newarray .int, 2) := by decide +kernel
theorem dX7_init_33 : decode cX7_init 33 = .ok (.putfield 29, 3) := by decide +kernel
theorem dX7_init_36 : decode cX7_init 36 = .ok (.return_, 1) := by decide +kernel
theorem dX7_value_0 : decode cX7_value 0 = .ok (.iconst 0, 1) := by decide +kernel
theorem dX7_value_1 : decode cX7_value 1 = .ok (.istore 4, 2) := by decide +kernel
theorem dX7_value_3 : decode cX7_value 3 = .ok (.iconst 0, 1) := by decide +kernel
theorem dX7_value_4 : decode cX7_value 4 = .ok (.istore 5, 2) := by decide +kernel
theorem dX7_value_6 : decode cX7_value 6 = .ok (.iload 5, 2) := by decide +kernel
theorem dX7_value_8 : decode cX7_value 8 = .ok (.aload_n 0, 1) := by decide +kernel
theorem dX7_value_9 : decode cX7_value 9 = .ok (.getfield 19, 3) := by decide +kernel
theorem dX7_value_12 : decode cX7_value 12 = .ok (.arraylength, 1) := by decide +kernel
theorem dX7_value_13 : decode cX7_value 13 = .ok (.if_icmp .ge 182, 3) := by decide +kernel
theorem dX7_value_16 : decode cX7_value 16 = .ok (.aload_n 0, 1) := by decide +kernel
theorem dX7_value_17 : decode cX7_value 17 = .ok (.getfield 19, 3) := by decide +kernel
theorem dX7_value_20 : decode cX7_value 20 = .ok (.iload 5, 2) := by decide +kernel
theorem dX7_value_22 : decode cX7_value 22 = .ok (.iaload, 1) := by decide +kernel
theorem dX7_value_23 : decode cX7_value 23 = .ok (.istore 6, 2) := by decide +kernel
theorem dX7_value_25 : decode cX7_value 25 = .ok (.iload 6, 2) := by decide +kernel
theorem dX7_value_27 : decode cX7_value 27 = .ok (.bipush (-3), 2) := by decide +kernel
theorem dX7_value_29 : decode cX7_value 29 = .ok (.if_icmp .lt 58, 3) := by decide +kernel
theorem dX7_value_32 : decode cX7_value 32 = .ok (.iload 4, 2) := by decide +kernel
theorem dX7_value_34 : decode cX7_value 34 = .ok (.aload_n 0, 1) := by decide +kernel
theorem dX7_value_35 : decode cX7_value 35 = .ok (.getfield 29, 3) := by decide +kernel
theorem dX7_value_38 : decode cX7_value 38 = .ok (.arraylength, 1) := by decide +kernel
theorem dX7_value_39 : decode cX7_value 39 = .ok (.if_icmp .ge 42, 3) := by decide +kernel
theorem dX7_value_42 : decode cX7_value 42 = .ok (.aload_n 0, 1) := by decide +kernel
theorem dX7_value_43 : decode cX7_value 43 = .ok (.getfield 29, 3) := by decide +kernel
theorem dX7_value_46 : decode cX7_value 46 = .ok (.iload 4, 2) := by decide +kernel
theorem dX7_value_48 : decode cX7_value 48 = .ok (.iload 6, 2) := by decide +kernel
theorem dX7_value_50 : decode cX7_value 50 = .ok (.ifCond .lt 8, 3) := by decide +kernel
theorem dX7_value_53 : decode cX7_value 53 = .ok (.iload 6, 2) := by decide +kernel
theorem dX7_value_55 : decode cX7_value 55 = .ok (.goto 25, 3) := by decide +kernel
theorem dX7_value_58 : decode cX7_value 58 = .ok (.iload 6, 2) := by decide +kernel
theorem dX7_value_60 : decode cX7_value 60 = .ok (.iconst (-1), 1) := by decide +kernel
theorem dX7_value_61 : decode cX7_value 61 = .ok (.if_icmp .ne 7, 3) := by decide +kernel
theorem dX7_value_64 : decode cX7_value 64 = .ok (.iload_n 1, 1) := by decide +kernel
theorem dX7_value_65 : decode cX7_value 65 = .ok (.goto 15, 3) := by decide +kernel
theorem dX7_value_68 : decode cX7_value 68 = .ok (.iload 6, 2) := by decide +kernel
theorem dX7_value_70 : decode cX7_value 70 = .ok (.bipush (-2), 2) := by decide +kernel
theorem dX7_value_72 : decode cX7_value 72 = .ok (.if_icmp .ne 7, 3) := by decide +kernel
theorem dX7_value_75 : decode cX7_value 75 = .ok (.iload_n 2, 1) := by decide +kernel
theorem dX7_value_76 : decode cX7_value 76 = .ok (.goto 4, 3) := by decide +kernel
theorem dX7_value_79 : decode cX7_value 79 = .ok (.iload_n 3, 1) := by decide +kernel
theorem dX7_value_80 : decode cX7_value 80 = .ok (.iastore, 1) := by decide +kernel
theorem dX7_value_81 : decode cX7_value 81 = .ok (.iinc 4 1, 3) := by decide +kernel
theorem dX7_value_84 : decode cX7_value 84 = .ok (.goto 105, 3) := by decide +kernel
theorem dX7_value_87 : decode cX7_value 87 = .ok (.iload 6, 2) := by decide +kernel
theorem dX7_value_89 : decode cX7_value 89 = .ok (.bipush (-33), 2) := by decide +kernel
theorem dX7_value_91 : decode cX7_value 91 = .ok (.if_icmp .ne 48, 3) := by decide +kernel
theorem dX7_value_94 : decode cX7_value 94 = .ok (.iload 4, 2) := by decide +kernel
theorem dX7_value_96 : decode cX7_value 96 = .ok (.iconst 1, 1) := by decide +kernel
theorem dX7_value_97 : decode cX7_value 97 = .ok (.if_icmp .lt 92, 3) := by decide +kernel
theorem dX7_value_100 : decode cX7_value 100 = .ok (.iload 4, 2) := by decide +kernel
theorem dX7_value_102 : decode cX7_value 102 = .ok (.aload_n 0, 1) := by decide +kernel
theorem dX7_value_103 : decode cX7_value 103 = .ok (.getfield 29, 3) := by decide +kernel
theorem dX7_value_106 : decode cX7_value 106 = .ok (.arraylength, 1) := by decide +kernel
theorem dX7_value_107 : decode cX7_value 107 = .ok (.if_icmp .gt 82, 3) := by decide +kernel
theorem dX7_value_110 : decode cX7_value 110 = .ok (.aload_n 0, 1) := by decide +kernel
theorem dX7_value_111 : decode cX7_value 111 = .ok (.getfield 29, 3) := by decide +kernel
theorem dX7_value_114 : decode cX7_value 114 = .ok (.iload 4, 2) := by decide +kernel
theorem dX7_value_116 : decode cX7_value 116 = .ok (.iconst 1, 1) := by decide +kernel
theorem dX7_value_117 : decode cX7_value 117 = .ok (.isub, 1) := by decide +kernel
theorem dX7_value_118 : decode cX7_value 118 = .ok (.aload_n 0, 1) := by decide +kernel
theorem dX7_value_119 : decode cX7_value 119 = .ok (.getfield 29, 3) := by decide +kernel
theorem dX7_value_122 : decode cX7_value 122 = .ok (.iload 4, 2) := by decide +kernel
theorem dX7_value_124 : decode cX7_value 124 = .ok (.iconst 1, 1) := by decide +kernel
theorem dX7_value_125 : decode cX7_value 125 = .ok (.isub, 1) := by decide +kernel
theorem dX7_value_126 : decode cX7_value 126 = .ok (.iaload, 1) := by decide +kernel
theorem dX7_value_127 : decode cX7_value 127 = .ok (.ifCond .ne 7, 3) := by decide +kernel
theorem dX7_value_130 : decode cX7_value 130 = .ok (.iconst 1, 1) := by decide +kernel
theorem dX7_value_131 : decode cX7_value 131 = .ok (.goto 4, 3) := by decide +kernel
theorem dX7_value_134 : decode cX7_value 134 = .ok (.iconst 0, 1) := by decide +kernel
theorem dX7_value_135 : decode cX7_value 135 = .ok (.iastore, 1) := by decide +kernel
theorem dX7_value_136 : decode cX7_value 136 = .ok (.goto 53, 3) := by decide +kernel
theorem dX7_value_139 : decode cX7_value 139 = .ok (.iload 4, 2) := by decide +kernel
theorem dX7_value_141 : decode cX7_value 141 = .ok (.iconst 2, 1) := by decide +kernel
theorem dX7_value_142 : decode cX7_value 142 = .ok (.if_icmp .lt 47, 3) := by decide +kernel
theorem dX7_value_145 : decode cX7_value 145 = .ok (.iload 4, 2) := by decide +kernel
theorem dX7_value_147 : decode cX7_value 147 = .ok (.aload_n 0, 1) := by decide +kernel
theorem dX7_value_148 : decode cX7_value 148 = .ok (.getfield 29, 3) := by decide +kernel
theorem dX7_value_151 : decode cX7_value 151 = .ok (.arraylength, 1) := by decide +kernel
theorem dX7_value_152 : decode cX7_value 152 = .ok (.if_icmp .gt 37, 3) := by decide +kernel
theorem dX7_value_155 : decode cX7_value 155 = .ok (.iinc 4 (-1), 3) := by decide +kernel
theorem dX7_value_158 : decode cX7_value 158 = .ok (.aload_n 0, 1) := by decide +kernel
theorem dX7_value_159 : decode cX7_value 159 = .ok (.getfield 29, 3) := by decide +kernel
theorem dX7_value_162 : decode cX7_value 162 = .ok (.iload 4, 2) := by decide +kernel
theorem dX7_value_164 : decode cX7_value 164 = .ok (.iconst 1, 1) := by decide +kernel
theorem dX7_value_165 : decode cX7_value 165 = .ok (.isub, 1) := by decide +kernel
theorem dX7_value_166 : decode cX7_value 166 = .ok (.iload 6, 2) := by decide +kernel
theorem dX7_value_168 : decode cX7_value 168 = .ok (.ineg, 1) := by decide +kernel
theorem dX7_value_169 : decode cX7_value 169 = .ok (.aload_n 0, 1) := by decide +kernel
theorem dX7_value_170 : decode cX7_value 170 = .ok (.getfield 29, 3) := by decide +kernel
theorem dX7_value_173 : decode cX7_value 173 = .ok (.iload 4, 2) := by decide +kernel
theorem dX7_value_175 : decode cX7_value 175 = .ok (.iconst 1, 1) := by decide +kernel
theorem dX7_value_176 : decode cX7_value 176 = .ok (.isub, 1) := by decide +kernel
theorem dX7_value_177 : decode cX7_value 177 = .ok (.iaload, 1) := by decide +kernel
theorem dX7_value_178 : decode cX7_value 178 = .ok (.aload_n 0, 1) := by decide +kernel
theorem dX7_value_179 : decode cX7_value 179 = .ok (.getfield 29, 3) := by decide +kernel
theorem dX7_value_182 : decode cX7_value 182 = .ok (.iload 4, 2) := by decide +kernel
theorem dX7_value_184 : decode cX7_value 184 = .ok (.iaload, 1) := by decide +kernel
theorem dX7_value_185 : decode cX7_value 185 = .ok (.invokestatic 32, 3) := by decide +kernel
theorem dX7_value_188 : decode cX7_value 188 = .ok (.iastore, 1) := by decide +kernel
theorem dX7_value_189 : decode cX7_value 189 = .ok (.iinc 5 1, 3) := by decide +kernel
theorem dX7_value_192 : decode cX7_value 192 = .ok (.goto (-186), 3) := by decide +kernel
theorem dX7_value_195 : decode cX7_value 195 = .ok (.aload_n 0, 1) := by decide +kernel
theorem dX7_value_196 : decode cX7_value 196 = .ok (.getfield 29, 3) := by decide +kernel
theorem dX7_value_199 : decode cX7_value 199 = .ok (.arraylength, 1) := by decide +kernel
theorem dX7_value_200 : decode cX7_value 200 = .ok (.ifCond .le 12, 3) := by decide +kernel
theorem dX7_value_203 : decode cX7_value 203 = .ok (.aload_n 0, 1) := by decide +kernel
theorem dX7_value_204 : decode cX7_value 204 = .ok (.getfield 29, 3) := by decide +kernel
theorem dX7_value_207 : decode cX7_value 207 = .ok (.iconst 0, 1) := by decide +kernel
theorem dX7_value_208 : decode cX7_value 208 = .ok (.iaload, 1) := by decide +kernel
theorem dX7_value_209 : decode cX7_value 209 = .ok (.goto 4, 3) := by decide +kernel
theorem dX7_value_212 : decode cX7_value 212 = .ok (.iconst 0, 1) := by decide +kernel
theorem dX7_value_213 : decode cX7_value 213 = .ok (.ireturn, 1) := by decide +kernel
theorem dX7_joined_0 : decode cX7_joined 0 = .ok (.iload_n 0, 1) := by decide +kernel
theorem dX7_joined_1 : decode cX7_joined 1 = .ok (.tableswitch 186 38 62 #[172, 186, 186, 186, 123, 115, 186, 119, 186, 127, 186, 186, 186, 186, 186, 186, 186, 186, 186, 186, 186, 186, 139, 150, 161], 115) := by decide +kernel
theorem dX7_joined_116 : decode cX7_joined 116 = .ok (.iload_n 1, 1) := by decide +kernel
theorem dX7_joined_117 : decode cX7_joined 117 = .ok (.iload_n 2, 1) := by decide +kernel
theorem dX7_joined_118 : decode cX7_joined 118 = .ok (.iadd, 1) := by decide +kernel
theorem dX7_joined_119 : decode cX7_joined 119 = .ok (.ireturn, 1) := by decide +kernel
theorem dX7_joined_120 : decode cX7_joined 120 = .ok (.iload_n 1, 1) := by decide +kernel
theorem dX7_joined_121 : decode cX7_joined 121 = .ok (.iload_n 2, 1) := by decide +kernel
theorem dX7_joined_122 : decode cX7_joined 122 = .ok (.isub, 1) := by decide +kernel
theorem dX7_joined_123 : decode cX7_joined 123 = .ok (.ireturn, 1) := by decide +kernel
theorem dX7_joined_124 : decode cX7_joined 124 = .ok (.iload_n 1, 1) := by decide +kernel
theorem dX7_joined_125 : decode cX7_joined 125 = .ok (.iload_n 2, 1) := by decide +kernel
theorem dX7_joined_126 : decode cX7_joined 126 = .ok (.imul, 1) := by decide +kernel
theorem dX7_joined_127 : decode cX7_joined 127 = .ok (.ireturn, 1) := by decide +kernel
theorem dX7_joined_128 : decode cX7_joined 128 = .ok (.iload_n 2, 1) := by decide +kernel
theorem dX7_joined_129 : decode cX7_joined 129 = .ok (.ifCond .ne 7, 3) := by decide +kernel
theorem dX7_joined_132 : decode cX7_joined 132 = .ok (.iconst 0, 1) := by decide +kernel
theorem dX7_joined_133 : decode cX7_joined 133 = .ok (.goto 6, 3) := by decide +kernel
theorem dX7_joined_136 : decode cX7_joined 136 = .ok (.iload_n 1, 1) := by decide +kernel
theorem dX7_joined_137 : decode cX7_joined 137 = .ok (.iload_n 2, 1) := by decide +kernel
theorem dX7_joined_138 : decode cX7_joined 138 = .ok (.idiv, 1) := by decide +kernel
theorem dX7_joined_139 : decode cX7_joined 139 = .ok (.ireturn, 1) := by decide +kernel
theorem dX7_joined_140 : decode cX7_joined 140 = .ok (.iload_n 1, 1) := by decide +kernel
theorem dX7_joined_141 : decode cX7_joined 141 = .ok (.iload_n 2, 1) := by decide +kernel
theorem dX7_joined_142 : decode cX7_joined 142 = .ok (.if_icmp .ge 7, 3) := by decide +kernel
theorem dX7_joined_145 : decode cX7_joined 145 = .ok (.iconst 1, 1) := by decide +kernel
theorem dX7_joined_146 : decode cX7_joined 146 = .ok (.goto 4, 3) := by decide +kernel
theorem dX7_joined_149 : decode cX7_joined 149 = .ok (.iconst 0, 1) := by decide +kernel
theorem dX7_joined_150 : decode cX7_joined 150 = .ok (.ireturn, 1) := by decide +kernel
theorem dX7_joined_151 : decode cX7_joined 151 = .ok (.iload_n 1, 1) := by decide +kernel
theorem dX7_joined_152 : decode cX7_joined 152 = .ok (.iload_n 2, 1) := by decide +kernel
theorem dX7_joined_153 : decode cX7_joined 153 = .ok (.if_icmp .ne 7, 3) := by decide +kernel
theorem dX7_joined_156 : decode cX7_joined 156 = .ok (.iconst 1, 1) := by decide +kernel
theorem dX7_joined_157 : decode cX7_joined 157 = .ok (.goto 4, 3) := by decide +kernel
theorem dX7_joined_160 : decode cX7_joined 160 = .ok (.iconst 0, 1) := by decide +kernel
theorem dX7_joined_161 : decode cX7_joined 161 = .ok (.ireturn, 1) := by decide +kernel
theorem dX7_joined_162 : decode cX7_joined 162 = .ok (.iload_n 1, 1) := by decide +kernel
theorem dX7_joined_163 : decode cX7_joined 163 = .ok (.iload_n 2, 1) := by decide +kernel
theorem dX7_joined_164 : decode cX7_joined 164 = .ok (.if_icmp .le 7, 3) := by decide +kernel
theorem dX7_joined_167 : decode cX7_joined 167 = .ok (.iconst 1, 1) := by decide +kernel
theorem dX7_joined_168 : decode cX7_joined 168 = .ok (.goto 4, 3) := by decide +kernel
theorem dX7_joined_171 : decode cX7_joined 171 = .ok (.iconst 0, 1) := by decide +kernel
theorem dX7_joined_172 : decode cX7_joined 172 = .ok (.ireturn, 1) := by decide +kernel
theorem dX7_joined_173 : decode cX7_joined 173 = .ok (.iload_n 1, 1) := by decide +kernel
theorem dX7_joined_174 : decode cX7_joined 174 = .ok (.ifCond .eq 11, 3) := by decide +kernel
theorem dX7_joined_177 : decode cX7_joined 177 = .ok (.iload_n 2, 1) := by decide +kernel
theorem dX7_joined_178 : decode cX7_joined 178 = .ok (.ifCond .eq 7, 3) := by decide +kernel
theorem dX7_joined_181 : decode cX7_joined 181 = .ok (.iconst 1, 1) := by decide +kernel
theorem dX7_joined_182 : decode cX7_joined 182 = .ok (.goto 4, 3) := by decide +kernel
theorem dX7_joined_185 : decode cX7_joined 185 = .ok (.iconst 0, 1) := by decide +kernel
theorem dX7_joined_186 : decode cX7_joined 186 = .ok (.ireturn, 1) := by decide +kernel
theorem dX7_joined_187 : decode cX7_joined 187 = .ok (.iload_n 1, 1) := by decide +kernel
theorem dX7_joined_188 : decode cX7_joined 188 = .ok (.ifCond .ne 7, 3) := by decide +kernel
theorem dX7_joined_191 : decode cX7_joined 191 = .ok (.iload_n 2, 1) := by decide +kernel
theorem dX7_joined_192 : decode cX7_joined 192 = .ok (.ifCond .eq 7, 3) := by decide +kernel
theorem dX7_joined_195 : decode cX7_joined 195 = .ok (.iconst 1, 1) := by decide +kernel
theorem dX7_joined_196 : decode cX7_joined 196 = .ok (.goto 4, 3) := by decide +kernel
theorem dX7_joined_199 : decode cX7_joined 199 = .ok (.iconst 0, 1) := by decide +kernel
theorem dX7_joined_200 : decode cX7_joined 200 = .ok (.ireturn, 1) := by decide +kernel
theorem dJ11_isValidCodePoint_9a6ad_0 : decode cJ11_isValidCodePoint_9a6ad 0 = .ok (.iload_n 0, 1) := by decide +kernel
theorem dJ11_isValidCodePoint_9a6ad_1 : decode cJ11_isValidCodePoint_9a6ad 1 = .ok (.bipush 16, 2) := by decide +kernel
theorem dJ11_isValidCodePoint_9a6ad_3 : decode cJ11_isValidCodePoint_9a6ad 3 = .ok (.iushr, 1) := by decide +kernel
theorem dJ11_isValidCodePoint_9a6ad_4 : decode cJ11_isValidCodePoint_9a6ad 4 = .ok (.istore_n 1, 1) := by decide +kernel
theorem dJ11_isValidCodePoint_9a6ad_5 : decode cJ11_isValidCodePoint_9a6ad 5 = .ok (.iload_n 1, 1) := by decide +kernel
theorem dJ11_isValidCodePoint_9a6ad_6 : decode cJ11_isValidCodePoint_9a6ad 6 = .ok (.bipush 17, 2) := by decide +kernel
theorem dJ11_isValidCodePoint_9a6ad_8 : decode cJ11_isValidCodePoint_9a6ad 8 = .ok (.if_icmp .ge 7, 3) := by decide +kernel
theorem dJ11_isValidCodePoint_9a6ad_11 : decode cJ11_isValidCodePoint_9a6ad 11 = .ok (.iconst 1, 1) := by decide +kernel
theorem dJ11_isValidCodePoint_9a6ad_12 : decode cJ11_isValidCodePoint_9a6ad 12 = .ok (.goto 4, 3) := by decide +kernel
theorem dJ11_isValidCodePoint_9a6ad_15 : decode cJ11_isValidCodePoint_9a6ad 15 = .ok (.iconst 0, 1) := by decide +kernel
theorem dJ11_isValidCodePoint_9a6ad_16 : decode cJ11_isValidCodePoint_9a6ad 16 = .ok (.ireturn, 1) := by decide +kernel
theorem dJ11_highSurrogate_5068e_0 : decode cJ11_highSurrogate_5068e 0 = .ok (.iload_n 0, 1) := by decide +kernel
theorem dJ11_highSurrogate_5068e_1 : decode cJ11_highSurrogate_5068e 1 = .ok (.bipush 10, 2) := by decide +kernel
theorem dJ11_highSurrogate_5068e_3 : decode cJ11_highSurrogate_5068e 3 = .ok (.iushr, 1) := by decide +kernel
theorem dJ11_highSurrogate_5068e_4 : decode cJ11_highSurrogate_5068e 4 = .ok (.ldc 110, 2) := by decide +kernel
theorem dJ11_highSurrogate_5068e_6 : decode cJ11_highSurrogate_5068e 6 = .ok (.iadd, 1) := by decide +kernel
theorem dJ11_highSurrogate_5068e_7 : decode cJ11_highSurrogate_5068e 7 = .ok (.i2c, 1) := by decide +kernel
theorem dJ11_highSurrogate_5068e_8 : decode cJ11_highSurrogate_5068e 8 = .ok (.ireturn, 1) := by decide +kernel
theorem dJ11_lowSurrogate_5068e_0 : decode cJ11_lowSurrogate_5068e 0 = .ok (.iload_n 0, 1) := by decide +kernel
theorem dJ11_lowSurrogate_5068e_1 : decode cJ11_lowSurrogate_5068e 1 = .ok (.sipush 1023, 3) := by decide +kernel
theorem dJ11_lowSurrogate_5068e_4 : decode cJ11_lowSurrogate_5068e 4 = .ok (.iand, 1) := by decide +kernel
theorem dJ11_lowSurrogate_5068e_5 : decode cJ11_lowSurrogate_5068e 5 = .ok (.ldc 76, 2) := by decide +kernel
theorem dJ11_lowSurrogate_5068e_7 : decode cJ11_lowSurrogate_5068e 7 = .ok (.iadd, 1) := by decide +kernel
theorem dJ11_lowSurrogate_5068e_8 : decode cJ11_lowSurrogate_5068e 8 = .ok (.i2c, 1) := by decide +kernel
theorem dJ11_lowSurrogate_5068e_9 : decode cJ11_lowSurrogate_5068e 9 = .ok (.ireturn, 1) := by decide +kernel
theorem dJ6_numberOfTrailingZeros_0f7a4_0 : decode cJ6_numberOfTrailingZeros_0f7a4 0 = .ok (.iload_n 0, 1) := by decide +kernel
theorem dJ6_numberOfTrailingZeros_0f7a4_1 : decode cJ6_numberOfTrailingZeros_0f7a4 1 = .ok (.iconst (-1), 1) := by decide +kernel
theorem dJ6_numberOfTrailingZeros_0f7a4_2 : decode cJ6_numberOfTrailingZeros_0f7a4 2 = .ok (.ixor, 1) := by decide +kernel
theorem dJ6_numberOfTrailingZeros_0f7a4_3 : decode cJ6_numberOfTrailingZeros_0f7a4 3 = .ok (.iload_n 0, 1) := by decide +kernel
theorem dJ6_numberOfTrailingZeros_0f7a4_4 : decode cJ6_numberOfTrailingZeros_0f7a4 4 = .ok (.iconst 1, 1) := by decide +kernel
theorem dJ6_numberOfTrailingZeros_0f7a4_5 : decode cJ6_numberOfTrailingZeros_0f7a4 5 = .ok (.isub, 1) := by decide +kernel
theorem dJ6_numberOfTrailingZeros_0f7a4_6 : decode cJ6_numberOfTrailingZeros_0f7a4 6 = .ok (.iand, 1) := by decide +kernel
theorem dJ6_numberOfTrailingZeros_0f7a4_7 : decode cJ6_numberOfTrailingZeros_0f7a4 7 = .ok (.istore_n 0, 1) := by decide +kernel
theorem dJ6_numberOfTrailingZeros_0f7a4_8 : decode cJ6_numberOfTrailingZeros_0f7a4 8 = .ok (.iload_n 0, 1) := by decide +kernel
theorem dJ6_numberOfTrailingZeros_0f7a4_9 : decode cJ6_numberOfTrailingZeros_0f7a4 9 = .ok (.ifCond .gt 8, 3) := by decide +kernel
theorem dJ6_numberOfTrailingZeros_0f7a4_12 : decode cJ6_numberOfTrailingZeros_0f7a4 12 = .ok (.iload_n 0, 1) := by decide +kernel
theorem dJ6_numberOfTrailingZeros_0f7a4_13 : decode cJ6_numberOfTrailingZeros_0f7a4 13 = .ok (.bipush 32, 2) := by decide +kernel
theorem dJ6_numberOfTrailingZeros_0f7a4_15 : decode cJ6_numberOfTrailingZeros_0f7a4 15 = .ok (.iand, 1) := by decide +kernel
theorem dJ6_numberOfTrailingZeros_0f7a4_16 : decode cJ6_numberOfTrailingZeros_0f7a4 16 = .ok (.ireturn, 1) := by decide +kernel
theorem dJ6_numberOfTrailingZeros_0f7a4_17 : decode cJ6_numberOfTrailingZeros_0f7a4 17 = .ok (.iconst 1, 1) := by decide +kernel
theorem dJ6_numberOfTrailingZeros_0f7a4_18 : decode cJ6_numberOfTrailingZeros_0f7a4 18 = .ok (.istore_n 1, 1) := by decide +kernel
theorem dJ6_numberOfTrailingZeros_0f7a4_19 : decode cJ6_numberOfTrailingZeros_0f7a4 19 = .ok (.iload_n 0, 1) := by decide +kernel
theorem dJ6_numberOfTrailingZeros_0f7a4_20 : decode cJ6_numberOfTrailingZeros_0f7a4 20 = .ok (.ldc_w 264, 3) := by decide +kernel
theorem dJ6_numberOfTrailingZeros_0f7a4_23 : decode cJ6_numberOfTrailingZeros_0f7a4 23 = .ok (.if_icmp .le 11, 3) := by decide +kernel
theorem dJ6_numberOfTrailingZeros_0f7a4_26 : decode cJ6_numberOfTrailingZeros_0f7a4 26 = .ok (.iinc 1 16, 3) := by decide +kernel
theorem dJ6_numberOfTrailingZeros_0f7a4_29 : decode cJ6_numberOfTrailingZeros_0f7a4 29 = .ok (.iload_n 0, 1) := by decide +kernel
theorem dJ6_numberOfTrailingZeros_0f7a4_30 : decode cJ6_numberOfTrailingZeros_0f7a4 30 = .ok (.bipush 16, 2) := by decide +kernel
theorem dJ6_numberOfTrailingZeros_0f7a4_32 : decode cJ6_numberOfTrailingZeros_0f7a4 32 = .ok (.iushr, 1) := by decide +kernel
theorem dJ6_numberOfTrailingZeros_0f7a4_33 : decode cJ6_numberOfTrailingZeros_0f7a4 33 = .ok (.istore_n 0, 1) := by decide +kernel
theorem dJ6_numberOfTrailingZeros_0f7a4_34 : decode cJ6_numberOfTrailingZeros_0f7a4 34 = .ok (.iload_n 0, 1) := by decide +kernel
theorem dJ6_numberOfTrailingZeros_0f7a4_35 : decode cJ6_numberOfTrailingZeros_0f7a4 35 = .ok (.sipush 256, 3) := by decide +kernel
theorem dJ6_numberOfTrailingZeros_0f7a4_38 : decode cJ6_numberOfTrailingZeros_0f7a4 38 = .ok (.if_icmp .le 11, 3) := by decide +kernel
theorem dJ6_numberOfTrailingZeros_0f7a4_41 : decode cJ6_numberOfTrailingZeros_0f7a4 41 = .ok (.iinc 1 8, 3) := by decide +kernel
theorem dJ6_numberOfTrailingZeros_0f7a4_44 : decode cJ6_numberOfTrailingZeros_0f7a4 44 = .ok (.iload_n 0, 1) := by decide +kernel
theorem dJ6_numberOfTrailingZeros_0f7a4_45 : decode cJ6_numberOfTrailingZeros_0f7a4 45 = .ok (.bipush 8, 2) := by decide +kernel
theorem dJ6_numberOfTrailingZeros_0f7a4_47 : decode cJ6_numberOfTrailingZeros_0f7a4 47 = .ok (.iushr, 1) := by decide +kernel
theorem dJ6_numberOfTrailingZeros_0f7a4_48 : decode cJ6_numberOfTrailingZeros_0f7a4 48 = .ok (.istore_n 0, 1) := by decide +kernel
theorem dJ6_numberOfTrailingZeros_0f7a4_49 : decode cJ6_numberOfTrailingZeros_0f7a4 49 = .ok (.iload_n 0, 1) := by decide +kernel
theorem dJ6_numberOfTrailingZeros_0f7a4_50 : decode cJ6_numberOfTrailingZeros_0f7a4 50 = .ok (.bipush 16, 2) := by decide +kernel
theorem dJ6_numberOfTrailingZeros_0f7a4_52 : decode cJ6_numberOfTrailingZeros_0f7a4 52 = .ok (.if_icmp .le 10, 3) := by decide +kernel
theorem dJ6_numberOfTrailingZeros_0f7a4_55 : decode cJ6_numberOfTrailingZeros_0f7a4 55 = .ok (.iinc 1 4, 3) := by decide +kernel
theorem dJ6_numberOfTrailingZeros_0f7a4_58 : decode cJ6_numberOfTrailingZeros_0f7a4 58 = .ok (.iload_n 0, 1) := by decide +kernel
theorem dJ6_numberOfTrailingZeros_0f7a4_59 : decode cJ6_numberOfTrailingZeros_0f7a4 59 = .ok (.iconst 4, 1) := by decide +kernel
theorem dJ6_numberOfTrailingZeros_0f7a4_60 : decode cJ6_numberOfTrailingZeros_0f7a4 60 = .ok (.iushr, 1) := by decide +kernel
theorem dJ6_numberOfTrailingZeros_0f7a4_61 : decode cJ6_numberOfTrailingZeros_0f7a4 61 = .ok (.istore_n 0, 1) := by decide +kernel
theorem dJ6_numberOfTrailingZeros_0f7a4_62 : decode cJ6_numberOfTrailingZeros_0f7a4 62 = .ok (.iload_n 0, 1) := by decide +kernel
theorem dJ6_numberOfTrailingZeros_0f7a4_63 : decode cJ6_numberOfTrailingZeros_0f7a4 63 = .ok (.iconst 4, 1) := by decide +kernel
theorem dJ6_numberOfTrailingZeros_0f7a4_64 : decode cJ6_numberOfTrailingZeros_0f7a4 64 = .ok (.if_icmp .le 10, 3) := by decide +kernel
theorem dJ6_numberOfTrailingZeros_0f7a4_67 : decode cJ6_numberOfTrailingZeros_0f7a4 67 = .ok (.iinc 1 2, 3) := by decide +kernel
theorem dJ6_numberOfTrailingZeros_0f7a4_70 : decode cJ6_numberOfTrailingZeros_0f7a4 70 = .ok (.iload_n 0, 1) := by decide +kernel
theorem dJ6_numberOfTrailingZeros_0f7a4_71 : decode cJ6_numberOfTrailingZeros_0f7a4 71 = .ok (.iconst 2, 1) := by decide +kernel
theorem dJ6_numberOfTrailingZeros_0f7a4_72 : decode cJ6_numberOfTrailingZeros_0f7a4 72 = .ok (.iushr, 1) := by decide +kernel
theorem dJ6_numberOfTrailingZeros_0f7a4_73 : decode cJ6_numberOfTrailingZeros_0f7a4 73 = .ok (.istore_n 0, 1) := by decide +kernel
theorem dJ6_numberOfTrailingZeros_0f7a4_74 : decode cJ6_numberOfTrailingZeros_0f7a4 74 = .ok (.iload_n 1, 1) := by decide +kernel
theorem dJ6_numberOfTrailingZeros_0f7a4_75 : decode cJ6_numberOfTrailingZeros_0f7a4 75 = .ok (.iload_n 0, 1) := by decide +kernel
theorem dJ6_numberOfTrailingZeros_0f7a4_76 : decode cJ6_numberOfTrailingZeros_0f7a4 76 = .ok (.iconst 1, 1) := by decide +kernel
theorem dJ6_numberOfTrailingZeros_0f7a4_77 : decode cJ6_numberOfTrailingZeros_0f7a4 77 = .ok (.iushr, 1) := by decide +kernel
theorem dJ6_numberOfTrailingZeros_0f7a4_78 : decode cJ6_numberOfTrailingZeros_0f7a4 78 = .ok (.iadd, 1) := by decide +kernel
theorem dJ6_numberOfTrailingZeros_0f7a4_79 : decode cJ6_numberOfTrailingZeros_0f7a4 79 = .ok (.ireturn, 1) := by decide +kernel
theorem dJ6_bitCount_0f7a4_0 : decode cJ6_bitCount_0f7a4 0 = .ok (.iload_n 0, 1) := by decide +kernel
theorem dJ6_bitCount_0f7a4_1 : decode cJ6_bitCount_0f7a4 1 = .ok (.iload_n 0, 1) := by decide +kernel
theorem dJ6_bitCount_0f7a4_2 : decode cJ6_bitCount_0f7a4 2 = .ok (.iconst 1, 1) := by decide +kernel
theorem dJ6_bitCount_0f7a4_3 : decode cJ6_bitCount_0f7a4 3 = .ok (.iushr, 1) := by decide +kernel
theorem dJ6_bitCount_0f7a4_4 : decode cJ6_bitCount_0f7a4 4 = .ok (.ldc_w 265, 3) := by decide +kernel
theorem dJ6_bitCount_0f7a4_7 : decode cJ6_bitCount_0f7a4 7 = .ok (.iand, 1) := by decide +kernel
theorem dJ6_bitCount_0f7a4_8 : decode cJ6_bitCount_0f7a4 8 = .ok (.isub, 1) := by decide +kernel
theorem dJ6_bitCount_0f7a4_9 : decode cJ6_bitCount_0f7a4 9 = .ok (.istore_n 0, 1) := by decide +kernel
theorem dJ6_bitCount_0f7a4_10 : decode cJ6_bitCount_0f7a4 10 = .ok (.iload_n 0, 1) := by decide +kernel
theorem dJ6_bitCount_0f7a4_11 : decode cJ6_bitCount_0f7a4 11 = .ok (.ldc_w 266, 3) := by decide +kernel
theorem dJ6_bitCount_0f7a4_14 : decode cJ6_bitCount_0f7a4 14 = .ok (.iand, 1) := by decide +kernel
theorem dJ6_bitCount_0f7a4_15 : decode cJ6_bitCount_0f7a4 15 = .ok (.iload_n 0, 1) := by decide +kernel
theorem dJ6_bitCount_0f7a4_16 : decode cJ6_bitCount_0f7a4 16 = .ok (.iconst 2, 1) := by decide +kernel
theorem dJ6_bitCount_0f7a4_17 : decode cJ6_bitCount_0f7a4 17 = .ok (.iushr, 1) := by decide +kernel
theorem dJ6_bitCount_0f7a4_18 : decode cJ6_bitCount_0f7a4 18 = .ok (.ldc_w 266, 3) := by decide +kernel
theorem dJ6_bitCount_0f7a4_21 : decode cJ6_bitCount_0f7a4 21 = .ok (.iand, 1) := by decide +kernel
theorem dJ6_bitCount_0f7a4_22 : decode cJ6_bitCount_0f7a4 22 = .ok (.iadd, 1) := by decide +kernel
theorem dJ6_bitCount_0f7a4_23 : decode cJ6_bitCount_0f7a4 23 = .ok (.istore_n 0, 1) := by decide +kernel
theorem dJ6_bitCount_0f7a4_24 : decode cJ6_bitCount_0f7a4 24 = .ok (.iload_n 0, 1) := by decide +kernel
theorem dJ6_bitCount_0f7a4_25 : decode cJ6_bitCount_0f7a4 25 = .ok (.iload_n 0, 1) := by decide +kernel
theorem dJ6_bitCount_0f7a4_26 : decode cJ6_bitCount_0f7a4 26 = .ok (.iconst 4, 1) := by decide +kernel
theorem dJ6_bitCount_0f7a4_27 : decode cJ6_bitCount_0f7a4 27 = .ok (.iushr, 1) := by decide +kernel
theorem dJ6_bitCount_0f7a4_28 : decode cJ6_bitCount_0f7a4 28 = .ok (.iadd, 1) := by decide +kernel
theorem dJ6_bitCount_0f7a4_29 : decode cJ6_bitCount_0f7a4 29 = .ok (.ldc_w 267, 3) := by decide +kernel
theorem dJ6_bitCount_0f7a4_32 : decode cJ6_bitCount_0f7a4 32 = .ok (.iand, 1) := by decide +kernel
theorem dJ6_bitCount_0f7a4_33 : decode cJ6_bitCount_0f7a4 33 = .ok (.istore_n 0, 1) := by decide +kernel
theorem dJ6_bitCount_0f7a4_34 : decode cJ6_bitCount_0f7a4 34 = .ok (.iload_n 0, 1) := by decide +kernel
theorem dJ6_bitCount_0f7a4_35 : decode cJ6_bitCount_0f7a4 35 = .ok (.iload_n 0, 1) := by decide +kernel
theorem dJ6_bitCount_0f7a4_36 : decode cJ6_bitCount_0f7a4 36 = .ok (.bipush 8, 2) := by decide +kernel
theorem dJ6_bitCount_0f7a4_38 : decode cJ6_bitCount_0f7a4 38 = .ok (.iushr, 1) := by decide +kernel
theorem dJ6_bitCount_0f7a4_39 : decode cJ6_bitCount_0f7a4 39 = .ok (.iadd, 1) := by decide +kernel
theorem dJ6_bitCount_0f7a4_40 : decode cJ6_bitCount_0f7a4 40 = .ok (.istore_n 0, 1) := by decide +kernel
theorem dJ6_bitCount_0f7a4_41 : decode cJ6_bitCount_0f7a4 41 = .ok (.iload_n 0, 1) := by decide +kernel
theorem dJ6_bitCount_0f7a4_42 : decode cJ6_bitCount_0f7a4 42 = .ok (.iload_n 0, 1) := by decide +kernel
theorem dJ6_bitCount_0f7a4_43 : decode cJ6_bitCount_0f7a4 43 = .ok (.bipush 16, 2) := by decide +kernel
theorem dJ6_bitCount_0f7a4_45 : decode cJ6_bitCount_0f7a4 45 = .ok (.iushr, 1) := by decide +kernel
theorem dJ6_bitCount_0f7a4_46 : decode cJ6_bitCount_0f7a4 46 = .ok (.iadd, 1) := by decide +kernel
theorem dJ6_bitCount_0f7a4_47 : decode cJ6_bitCount_0f7a4 47 = .ok (.istore_n 0, 1) := by decide +kernel
theorem dJ6_bitCount_0f7a4_48 : decode cJ6_bitCount_0f7a4 48 = .ok (.iload_n 0, 1) := by decide +kernel
theorem dJ6_bitCount_0f7a4_49 : decode cJ6_bitCount_0f7a4 49 = .ok (.bipush 63, 2) := by decide +kernel
theorem dJ6_bitCount_0f7a4_51 : decode cJ6_bitCount_0f7a4 51 = .ok (.iand, 1) := by decide +kernel
theorem dJ6_bitCount_0f7a4_52 : decode cJ6_bitCount_0f7a4 52 = .ok (.ireturn, 1) := by decide +kernel
theorem dJ9_abs_0f7a4_0 : decode cJ9_abs_0f7a4 0 = .ok (.iload_n 0, 1) := by decide +kernel
theorem dJ9_abs_0f7a4_1 : decode cJ9_abs_0f7a4 1 = .ok (.ifCond .ge 8, 3) := by decide +kernel
theorem dJ9_abs_0f7a4_4 : decode cJ9_abs_0f7a4 4 = .ok (.iload_n 0, 1) := by decide +kernel
theorem dJ9_abs_0f7a4_5 : decode cJ9_abs_0f7a4 5 = .ok (.ineg, 1) := by decide +kernel
theorem dJ9_abs_0f7a4_6 : decode cJ9_abs_0f7a4 6 = .ok (.goto 4, 3) := by decide +kernel
theorem dJ9_abs_0f7a4_9 : decode cJ9_abs_0f7a4 9 = .ok (.iload_n 0, 1) := by decide +kernel
theorem dJ9_abs_0f7a4_10 : decode cJ9_abs_0f7a4 10 = .ok (.ireturn, 1) := by decide +kernel
theorem dJ9_max_7cf53_0 : decode cJ9_max_7cf53 0 = .ok (.iload_n 0, 1) := by decide +kernel
theorem dJ9_max_7cf53_1 : decode cJ9_max_7cf53 1 = .ok (.iload_n 1, 1) := by decide +kernel
theorem dJ9_max_7cf53_2 : decode cJ9_max_7cf53 2 = .ok (.if_icmp .lt 7, 3) := by decide +kernel
theorem dJ9_max_7cf53_5 : decode cJ9_max_7cf53 5 = .ok (.iload_n 0, 1) := by decide +kernel
theorem dJ9_max_7cf53_6 : decode cJ9_max_7cf53 6 = .ok (.goto 4, 3) := by decide +kernel
theorem dJ9_max_7cf53_9 : decode cJ9_max_7cf53 9 = .ok (.iload_n 1, 1) := by decide +kernel
theorem dJ9_max_7cf53_10 : decode cJ9_max_7cf53 10 = .ok (.ireturn, 1) := by decide +kernel
theorem dJ9_min_7cf53_0 : decode cJ9_min_7cf53 0 = .ok (.iload_n 0, 1) := by decide +kernel
theorem dJ9_min_7cf53_1 : decode cJ9_min_7cf53 1 = .ok (.iload_n 1, 1) := by decide +kernel
theorem dJ9_min_7cf53_2 : decode cJ9_min_7cf53 2 = .ok (.if_icmp .gt 7, 3) := by decide +kernel
theorem dJ9_min_7cf53_5 : decode cJ9_min_7cf53 5 = .ok (.iload_n 0, 1) := by decide +kernel
theorem dJ9_min_7cf53_6 : decode cJ9_min_7cf53 6 = .ok (.goto 4, 3) := by decide +kernel
theorem dJ9_min_7cf53_9 : decode cJ9_min_7cf53 9 = .ok (.iload_n 1, 1) := by decide +kernel
theorem dJ9_min_7cf53_10 : decode cJ9_min_7cf53 10 = .ok (.ireturn, 1) := by decide +kernel
theorem dJ0_length_8abf5_0 : decode cJ0_length_8abf5 0 = .ok (.aload_n 0, 1) := by decide +kernel
theorem dJ0_length_8abf5_1 : decode cJ0_length_8abf5 1 = .ok (.getfield 9, 3) := by decide +kernel
theorem dJ0_length_8abf5_4 : decode cJ0_length_8abf5 4 = .ok (.arraylength, 1) := by decide +kernel
theorem dJ0_length_8abf5_5 : decode cJ0_length_8abf5 5 = .ok (.aload_n 0, 1) := by decide +kernel
theorem dJ0_length_8abf5_6 : decode cJ0_length_8abf5 6 = .ok (.invokevirtual 335, 3) := by decide +kernel
theorem dJ0_length_8abf5_9 : decode cJ0_length_8abf5 9 = .ok (.ishr, 1) := by decide +kernel
theorem dJ0_length_8abf5_10 : decode cJ0_length_8abf5 10 = .ok (.ireturn, 1) := by decide +kernel
theorem dJ0_charAt_5068e_0 : decode cJ0_charAt_5068e 0 = .ok (.aload_n 0, 1) := by decide +kernel
theorem dJ0_charAt_5068e_1 : decode cJ0_charAt_5068e 1 = .ok (.invokevirtual 492, 3) := by decide +kernel
theorem dJ0_charAt_5068e_4 : decode cJ0_charAt_5068e 4 = .ok (.ifCond .eq 12, 3) := by decide +kernel
theorem dJ0_charAt_5068e_7 : decode cJ0_charAt_5068e 7 = .ok (.aload_n 0, 1) := by decide +kernel
theorem dJ0_charAt_5068e_8 : decode cJ0_charAt_5068e 8 = .ok (.getfield 9, 3) := by decide +kernel
theorem dJ0_charAt_5068e_11 : decode cJ0_charAt_5068e 11 = .ok (.iload_n 1, 1) := by decide +kernel
theorem dJ0_charAt_5068e_12 : decode cJ0_charAt_5068e 12 = .ok (.invokestatic 495, 3) := by decide +kernel
theorem dJ0_charAt_5068e_15 : decode cJ0_charAt_5068e 15 = .ok (.ireturn, 1) := by decide +kernel
theorem dJ0_charAt_5068e_16 : decode cJ0_charAt_5068e 16 = .ok (.aload_n 0, 1) := by decide +kernel
theorem dJ0_charAt_5068e_17 : decode cJ0_charAt_5068e 17 = .ok (.getfield 9, 3) := by decide +kernel
theorem dJ0_charAt_5068e_20 : decode cJ0_charAt_5068e 20 = .ok (.iload_n 1, 1) := by decide +kernel
theorem dJ0_charAt_5068e_21 : decode cJ0_charAt_5068e 21 = .ok (.invokestatic 498, 3) := by decide +kernel
theorem dJ0_charAt_5068e_24 : decode cJ0_charAt_5068e 24 = .ok (.ireturn, 1) := by decide +kernel
theorem dJ0_indexOf_0f7a4_0 : decode cJ0_indexOf_0f7a4 0 = .ok (.aload_n 0, 1) := by decide +kernel
theorem dJ0_indexOf_0f7a4_1 : decode cJ0_indexOf_0f7a4 1 = .ok (.iload_n 1, 1) := by decide +kernel
theorem dJ0_indexOf_0f7a4_2 : decode cJ0_indexOf_0f7a4 2 = .ok (.iconst 0, 1) := by decide +kernel
theorem dJ0_indexOf_0f7a4_3 : decode cJ0_indexOf_0f7a4 3 = .ok (.invokevirtual 633, 3) := by decide +kernel
theorem dJ0_indexOf_0f7a4_6 : decode cJ0_indexOf_0f7a4 6 = .ok (.ireturn, 1) := by decide +kernel
theorem dJ0_indexOf_7cf53_0 : decode cJ0_indexOf_7cf53 0 = .ok (.aload_n 0, 1) := by decide +kernel
theorem dJ0_indexOf_7cf53_1 : decode cJ0_indexOf_7cf53 1 = .ok (.invokevirtual 492, 3) := by decide +kernel
theorem dJ0_indexOf_7cf53_4 : decode cJ0_indexOf_7cf53 4 = .ok (.ifCond .eq 19, 3) := by decide +kernel
theorem dJ0_indexOf_7cf53_7 : decode cJ0_indexOf_7cf53 7 = .ok (.aload_n 0, 1) := by decide +kernel
theorem dJ0_indexOf_7cf53_8 : decode cJ0_indexOf_7cf53 8 = .ok (.getfield 9, 3) := by decide +kernel
theorem dJ0_indexOf_7cf53_11 : decode cJ0_indexOf_7cf53 11 = .ok (.iload_n 1, 1) := by decide +kernel
theorem dJ0_indexOf_7cf53_12 : decode cJ0_indexOf_7cf53 12 = .ok (.iload_n 2, 1) := by decide +kernel
theorem dJ0_indexOf_7cf53_13 : decode cJ0_indexOf_7cf53 13 = .ok (.aload_n 0, 1) := by decide +kernel
theorem dJ0_indexOf_7cf53_14 : decode cJ0_indexOf_7cf53 14 = .ok (.invokevirtual 505, 3) := by decide +kernel
theorem dJ0_indexOf_7cf53_17 : decode cJ0_indexOf_7cf53 17 = .ok (.invokestatic 637, 3) := by decide +kernel
theorem dJ0_indexOf_7cf53_20 : decode cJ0_indexOf_7cf53 20 = .ok (.goto 16, 3) := by decide +kernel
theorem dJ0_indexOf_7cf53_23 : decode cJ0_indexOf_7cf53 23 = .ok (.aload_n 0, 1) := by decide +kernel
theorem dJ0_indexOf_7cf53_24 : decode cJ0_indexOf_7cf53 24 = .ok (.getfield 9, 3) := by decide +kernel
theorem dJ0_indexOf_7cf53_27 : decode cJ0_indexOf_7cf53 27 = .ok (.iload_n 1, 1) := by decide +kernel
theorem dJ0_indexOf_7cf53_28 : decode cJ0_indexOf_7cf53 28 = .ok (.iload_n 2, 1) := by decide +kernel
theorem dJ0_indexOf_7cf53_29 : decode cJ0_indexOf_7cf53 29 = .ok (.aload_n 0, 1) := by decide +kernel
theorem dJ0_indexOf_7cf53_30 : decode cJ0_indexOf_7cf53 30 = .ok (.invokevirtual 505, 3) := by decide +kernel
theorem dJ0_indexOf_7cf53_33 : decode cJ0_indexOf_7cf53 33 = .ok (.invokestatic 640, 3) := by decide +kernel
theorem dJ0_indexOf_7cf53_36 : decode cJ0_indexOf_7cf53 36 = .ok (.ireturn, 1) := by decide +kernel
theorem dJ0_coder_7d493_0 : decode cJ0_coder_7d493 0 = .ok (.getstatic 38, 3) := by decide +kernel
theorem dJ0_coder_7d493_3 : decode cJ0_coder_7d493 3 = .ok (.ifCond .eq 10, 3) := by decide +kernel
theorem dJ0_coder_7d493_6 : decode cJ0_coder_7d493 6 = .ok (.aload_n 0, 1) := by decide +kernel
theorem dJ0_coder_7d493_7 : decode cJ0_coder_7d493 7 = .ok (.getfield 15, 3) := by decide +kernel
theorem dJ0_coder_7d493_10 : decode cJ0_coder_7d493 10 = .ok (.goto 4, 3) := by decide +kernel
theorem dJ0_coder_7d493_13 : decode cJ0_coder_7d493 13 = .ok (.iconst 1, 1) := by decide +kernel
theorem dJ0_coder_7d493_14 : decode cJ0_coder_7d493 14 = .ok (.ireturn, 1) := by decide +kernel
theorem dJ0_isLatin1_aae02_0 : decode cJ0_isLatin1_aae02 0 = .ok (.getstatic 38, 3) := by decide +kernel
theorem dJ0_isLatin1_aae02_3 : decode cJ0_isLatin1_aae02 3 = .ok (.ifCond .eq 14, 3) := by decide +kernel
theorem dJ0_isLatin1_aae02_6 : decode cJ0_isLatin1_aae02 6 = .ok (.aload_n 0, 1) := by decide +kernel
theorem dJ0_isLatin1_aae02_7 : decode cJ0_isLatin1_aae02 7 = .ok (.getfield 15, 3) := by decide +kernel
theorem dJ0_isLatin1_aae02_10 : decode cJ0_isLatin1_aae02 10 = .ok (.ifCond .ne 7, 3) := by decide +kernel
theorem dJ0_isLatin1_aae02_13 : decode cJ0_isLatin1_aae02 13 = .ok (.iconst 1, 1) := by decide +kernel
theorem dJ0_isLatin1_aae02_14 : decode cJ0_isLatin1_aae02 14 = .ok (.goto 4, 3) := by decide +kernel
theorem dJ0_isLatin1_aae02_17 : decode cJ0_isLatin1_aae02 17 = .ok (.iconst 0, 1) := by decide +kernel
theorem dJ0_isLatin1_aae02_18 : decode cJ0_isLatin1_aae02 18 = .ok (.ireturn, 1) := by decide +kernel
theorem dJ0_checkIndex_df160_0 : decode cJ0_checkIndex_df160 0 = .ok (.iload_n 0, 1) := by decide +kernel
theorem dJ0_checkIndex_df160_1 : decode cJ0_checkIndex_df160 1 = .ok (.iload_n 1, 1) := by decide +kernel
theorem dJ0_checkIndex_df160_2 : decode cJ0_checkIndex_df160 2 = .ok (.getstatic 1053, 3) := by decide +kernel
theorem dJ0_checkIndex_df160_5 : decode cJ0_checkIndex_df160 5 = .ok (.invokestatic 1059, 3) := by decide +kernel
theorem dJ0_checkIndex_df160_8 : decode cJ0_checkIndex_df160 8 = .ok (.pop, 1) := by decide +kernel
theorem dJ0_checkIndex_df160_9 : decode cJ0_checkIndex_df160 9 = .ok (.return_, 1) := by decide +kernel
theorem dJ0_checkBoundsBeginEnd_23922_0 : decode cJ0_checkBoundsBeginEnd_23922 0 = .ok (.iload_n 0, 1) := by decide +kernel
theorem dJ0_checkBoundsBeginEnd_23922_1 : decode cJ0_checkBoundsBeginEnd_23922 1 = .ok (.iload_n 1, 1) := by decide +kernel
theorem dJ0_checkBoundsBeginEnd_23922_2 : decode cJ0_checkBoundsBeginEnd_23922 2 = .ok (.iload_n 2, 1) := by decide +kernel
theorem dJ0_checkBoundsBeginEnd_23922_3 : decode cJ0_checkBoundsBeginEnd_23922 3 = .ok (.getstatic 1053, 3) := by decide +kernel
theorem dJ0_checkBoundsBeginEnd_23922_6 : decode cJ0_checkBoundsBeginEnd_23922 6 = .ok (.invokestatic 1062, 3) := by decide +kernel
theorem dJ0_checkBoundsBeginEnd_23922_9 : decode cJ0_checkBoundsBeginEnd_23922 9 = .ok (.pop, 1) := by decide +kernel
theorem dJ0_checkBoundsBeginEnd_23922_10 : decode cJ0_checkBoundsBeginEnd_23922 10 = .ok (.return_, 1) := by decide +kernel
theorem dJ1_charAt_3b067_0 : decode cJ1_charAt_3b067 0 = .ok (.iload_n 1, 1) := by decide +kernel
theorem dJ1_charAt_3b067_1 : decode cJ1_charAt_3b067 1 = .ok (.aload_n 0, 1) := by decide +kernel
theorem dJ1_charAt_3b067_2 : decode cJ1_charAt_3b067 2 = .ok (.arraylength, 1) := by decide +kernel
theorem dJ1_charAt_3b067_3 : decode cJ1_charAt_3b067 3 = .ok (.invokestatic 9, 3) := by decide +kernel
theorem dJ1_charAt_3b067_6 : decode cJ1_charAt_3b067 6 = .ok (.aload_n 0, 1) := by decide +kernel
theorem dJ1_charAt_3b067_7 : decode cJ1_charAt_3b067 7 = .ok (.iload_n 1, 1) := by decide +kernel
theorem dJ1_charAt_3b067_8 : decode cJ1_charAt_3b067 8 = .ok (.baload, 1) := by decide +kernel
theorem dJ1_charAt_3b067_9 : decode cJ1_charAt_3b067 9 = .ok (.sipush 255, 3) := by decide +kernel
theorem dJ1_charAt_3b067_12 : decode cJ1_charAt_3b067 12 = .ok (.iand, 1) := by decide +kernel
theorem dJ1_charAt_3b067_13 : decode cJ1_charAt_3b067 13 = .ok (.i2c, 1) := by decide +kernel
theorem dJ1_charAt_3b067_14 : decode cJ1_charAt_3b067 14 = .ok (.ireturn, 1) := by decide +kernel
theorem dJ1_canEncode_9a6ad_0 : decode cJ1_canEncode_9a6ad 0 = .ok (.iload_n 0, 1) := by decide +kernel
theorem dJ1_canEncode_9a6ad_1 : decode cJ1_canEncode_9a6ad 1 = .ok (.ifCond .lt 14, 3) := by decide +kernel
theorem dJ1_canEncode_9a6ad_4 : decode cJ1_canEncode_9a6ad 4 = .ok (.iload_n 0, 1) := by decide +kernel
theorem dJ1_canEncode_9a6ad_5 : decode cJ1_canEncode_9a6ad 5 = .ok (.sipush 255, 3) := by decide +kernel
theorem dJ1_canEncode_9a6ad_8 : decode cJ1_canEncode_9a6ad 8 = .ok (.if_icmp .gt 7, 3) := by decide +kernel
theorem dJ1_canEncode_9a6ad_11 : decode cJ1_canEncode_9a6ad 11 = .ok (.iconst 1, 1) := by decide +kernel
theorem dJ1_canEncode_9a6ad_12 : decode cJ1_canEncode_9a6ad 12 = .ok (.goto 4, 3) := by decide +kernel
theorem dJ1_canEncode_9a6ad_15 : decode cJ1_canEncode_9a6ad 15 = .ok (.iconst 0, 1) := by decide +kernel
theorem dJ1_canEncode_9a6ad_16 : decode cJ1_canEncode_9a6ad 16 = .ok (.ireturn, 1) := by decide +kernel
theorem dJ1_indexOf_4cfef_0 : decode cJ1_indexOf_4cfef 0 = .ok (.iload_n 1, 1) := by decide +kernel
theorem dJ1_indexOf_4cfef_1 : decode cJ1_indexOf_4cfef 1 = .ok (.invokestatic 88, 3) := by decide +kernel
theorem dJ1_indexOf_4cfef_4 : decode cJ1_indexOf_4cfef 4 = .ok (.ifCond .ne 5, 3) := by decide +kernel
theorem dJ1_indexOf_4cfef_7 : decode cJ1_indexOf_4cfef 7 = .ok (.iconst (-1), 1) := by decide +kernel
theorem dJ1_indexOf_4cfef_8 : decode cJ1_indexOf_4cfef 8 = .ok (.ireturn, 1) := by decide +kernel
theorem dJ1_indexOf_4cfef_9 : decode cJ1_indexOf_4cfef 9 = .ok (.iload_n 2, 1) := by decide +kernel
theorem dJ1_indexOf_4cfef_10 : decode cJ1_indexOf_4cfef 10 = .ok (.iconst 0, 1) := by decide +kernel
theorem dJ1_indexOf_4cfef_11 : decode cJ1_indexOf_4cfef 11 = .ok (.invokestatic 92, 3) := by decide +kernel
theorem dJ1_indexOf_4cfef_14 : decode cJ1_indexOf_4cfef 14 = .ok (.istore_n 2, 1) := by decide +kernel
theorem dJ1_indexOf_4cfef_15 : decode cJ1_indexOf_4cfef 15 = .ok (.iload_n 3, 1) := by decide +kernel
theorem dJ1_indexOf_4cfef_16 : decode cJ1_indexOf_4cfef 16 = .ok (.aload_n 0, 1) := by decide +kernel
theorem dJ1_indexOf_4cfef_17 : decode cJ1_indexOf_4cfef 17 = .ok (.arraylength, 1) := by decide +kernel
theorem dJ1_indexOf_4cfef_18 : decode cJ1_indexOf_4cfef 18 = .ok (.invokestatic 38, 3) := by decide +kernel
theorem dJ1_indexOf_4cfef_21 : decode cJ1_indexOf_4cfef 21 = .ok (.istore_n 3, 1) := by decide +kernel
theorem dJ1_indexOf_4cfef_22 : decode cJ1_indexOf_4cfef 22 = .ok (.iload_n 2, 1) := by decide +kernel
theorem dJ1_indexOf_4cfef_23 : decode cJ1_indexOf_4cfef 23 = .ok (.iload_n 3, 1) := by decide +kernel
theorem dJ1_indexOf_4cfef_24 : decode cJ1_indexOf_4cfef 24 = .ok (.if_icmp .lt 5, 3) := by decide +kernel
theorem dJ1_indexOf_4cfef_27 : decode cJ1_indexOf_4cfef 27 = .ok (.iconst (-1), 1) := by decide +kernel
theorem dJ1_indexOf_4cfef_28 : decode cJ1_indexOf_4cfef 28 = .ok (.ireturn, 1) := by decide +kernel
theorem dJ1_indexOf_4cfef_29 : decode cJ1_indexOf_4cfef 29 = .ok (.aload_n 0, 1) := by decide +kernel
theorem dJ1_indexOf_4cfef_30 : decode cJ1_indexOf_4cfef 30 = .ok (.iload_n 1, 1) := by decide +kernel
theorem dJ1_indexOf_4cfef_31 : decode cJ1_indexOf_4cfef 31 = .ok (.iload_n 2, 1) := by decide +kernel
theorem dJ1_indexOf_4cfef_32 : decode cJ1_indexOf_4cfef 32 = .ok (.iload_n 3, 1) := by decide +kernel
theorem dJ1_indexOf_4cfef_33 : decode cJ1_indexOf_4cfef 33 = .ok (.invokestatic 95, 3) := by decide +kernel
theorem dJ1_indexOf_4cfef_36 : decode cJ1_indexOf_4cfef 36 = .ok (.ireturn, 1) := by decide +kernel
theorem dJ1_indexOfChar_4cfef_0 : decode cJ1_indexOfChar_4cfef 0 = .ok (.iload_n 1, 1) := by decide +kernel
theorem dJ1_indexOfChar_4cfef_1 : decode cJ1_indexOfChar_4cfef 1 = .ok (.i2b, 1) := by decide +kernel
theorem dJ1_indexOfChar_4cfef_2 : decode cJ1_indexOfChar_4cfef 2 = .ok (.istore 4, 2) := by decide +kernel
theorem dJ1_indexOfChar_4cfef_4 : decode cJ1_indexOfChar_4cfef 4 = .ok (.iload_n 2, 1) := by decide +kernel
theorem dJ1_indexOfChar_4cfef_5 : decode cJ1_indexOfChar_4cfef 5 = .ok (.istore 5, 2) := by decide +kernel
theorem dJ1_indexOfChar_4cfef_7 : decode cJ1_indexOfChar_4cfef 7 = .ok (.iload 5, 2) := by decide +kernel
theorem dJ1_indexOfChar_4cfef_9 : decode cJ1_indexOfChar_4cfef 9 = .ok (.iload_n 3, 1) := by decide +kernel
theorem dJ1_indexOfChar_4cfef_10 : decode cJ1_indexOfChar_4cfef 10 = .ok (.if_icmp .ge 21, 3) := by decide +kernel
theorem dJ1_indexOfChar_4cfef_13 : decode cJ1_indexOfChar_4cfef 13 = .ok (.aload_n 0, 1) := by decide +kernel
theorem dJ1_indexOfChar_4cfef_14 : decode cJ1_indexOfChar_4cfef 14 = .ok (.iload 5, 2) := by decide +kernel
theorem dJ1_indexOfChar_4cfef_16 : decode cJ1_indexOfChar_4cfef 16 = .ok (.baload, 1) := by decide +kernel
theorem dJ1_indexOfChar_4cfef_17 : decode cJ1_indexOfChar_4cfef 17 = .ok (.iload 4, 2) := by decide +kernel
theorem dJ1_indexOfChar_4cfef_19 : decode cJ1_indexOfChar_4cfef 19 = .ok (.if_icmp .ne 6, 3) := by decide +kernel
theorem dJ1_indexOfChar_4cfef_22 : decode cJ1_indexOfChar_4cfef 22 = .ok (.iload 5, 2) := by decide +kernel
theorem dJ1_indexOfChar_4cfef_24 : decode cJ1_indexOfChar_4cfef 24 = .ok (.ireturn, 1) := by decide +kernel
theorem dJ1_indexOfChar_4cfef_25 : decode cJ1_indexOfChar_4cfef 25 = .ok (.iinc 5 1, 3) := by decide +kernel
theorem dJ1_indexOfChar_4cfef_28 : decode cJ1_indexOfChar_4cfef 28 = .ok (.goto (-21), 3) := by decide +kernel
theorem dJ1_indexOfChar_4cfef_31 : decode cJ1_indexOfChar_4cfef 31 = .ok (.iconst (-1), 1) := by decide +kernel
theorem dJ1_indexOfChar_4cfef_32 : decode cJ1_indexOfChar_4cfef 32 = .ok (.ireturn, 1) := by decide +kernel
theorem dJ2_getChar_3b067_0 : decode cJ2_getChar_3b067 0 = .ok (.getstatic 44, 3) := by decide +kernel
theorem dJ2_getChar_3b067_3 : decode cJ2_getChar_3b067 3 = .ok (.ifCond .ne 25, 3) := by decide +kernel
theorem dJ2_getChar_3b067_6 : decode cJ2_getChar_3b067 6 = .ok (.iload_n 1, 1) := by decide +kernel
theorem dJ2_getChar_3b067_7 : decode cJ2_getChar_3b067 7 = .ok (.ifCond .lt 11, 3) := by decide +kernel
theorem dJ2_getChar_3b067_10 : decode cJ2_getChar_3b067 10 = .ok (.iload_n 1, 1) := by decide +kernel
theorem dJ2_getChar_3b067_11 : decode cJ2_getChar_3b067 11 = .ok (.aload_n 0, 1) := by decide +kernel
theorem dJ2_getChar_3b067_12 : decode cJ2_getChar_3b067 12 = .ok (.invokestatic 48, 3) := by decide +kernel
theorem dJ2_getChar_3b067_15 : decode cJ2_getChar_3b067 15 = .ok (.if_icmp .lt 13, 3) := by decide +kernel
theorem dJ2_getChar_3b067_18 : decode cJ2_getChar_3b067 18 = .ok (.new 52, 3) := by decide +kernel
theorem dJ2_getChar_3b067_21 : decode cJ2_getChar_3b067 21 = .ok (.dup, 1) := by decide +kernel
theorem dJ2_getChar_3b067_22 : decode cJ2_getChar_3b067 22 = .ok (.ldc 54, 2) := by decide +kernel
theorem dJ2_getChar_3b067_24 : decode cJ2_getChar_3b067 24 = .ok (.invokespecial 56, 3) := by decide +kernel
theorem dJ2_getChar_3b067_27 : decode cJ2_getChar_3b067 27 = .ok (.athrow, 1) := by decide +kernel
theorem dJ2_getChar_3b067_28 : decode cJ2_getChar_3b067 28 = .ok (.iload_n 1, 1) := by decide +kernel
theorem dJ2_getChar_3b067_29 : decode cJ2_getChar_3b067 29 = .ok (.iconst 1, 1) := by decide +kernel
theorem dJ2_getChar_3b067_30 : decode cJ2_getChar_3b067 30 = .ok (.ishl, 1) := by decide +kernel
theorem dJ2_getChar_3b067_31 : decode cJ2_getChar_3b067 31 = .ok (.istore_n 1, 1) := by decide +kernel
theorem dJ2_getChar_3b067_32 : decode cJ2_getChar_3b067 32 = .ok (.aload_n 0, 1) := by decide +kernel
theorem dJ2_getChar_3b067_33 : decode cJ2_getChar_3b067 33 = .ok (.iload_n 1, 1) := by decide +kernel
theorem dJ2_getChar_3b067_34 : decode cJ2_getChar_3b067 34 = .ok (.iinc 1 1, 3) := by decide +kernel
theorem dJ2_getChar_3b067_37 : decode cJ2_getChar_3b067 37 = .ok (.baload, 1) := by decide +kernel
theorem dJ2_getChar_3b067_38 : decode cJ2_getChar_3b067 38 = .ok (.sipush 255, 3) := by decide +kernel
theorem dJ2_getChar_3b067_41 : decode cJ2_getChar_3b067 41 = .ok (.iand, 1) := by decide +kernel
theorem dJ2_getChar_3b067_42 : decode cJ2_getChar_3b067 42 = .ok (.getstatic 59, 3) := by decide +kernel
theorem dJ2_getChar_3b067_45 : decode cJ2_getChar_3b067 45 = .ok (.ishl, 1) := by decide +kernel
theorem dJ2_getChar_3b067_46 : decode cJ2_getChar_3b067 46 = .ok (.aload_n 0, 1) := by decide +kernel
theorem dJ2_getChar_3b067_47 : decode cJ2_getChar_3b067 47 = .ok (.iload_n 1, 1) := by decide +kernel
theorem dJ2_getChar_3b067_48 : decode cJ2_getChar_3b067 48 = .ok (.baload, 1) := by decide +kernel
theorem dJ2_getChar_3b067_49 : decode cJ2_getChar_3b067 49 = .ok (.sipush 255, 3) := by decide +kernel
theorem dJ2_getChar_3b067_52 : decode cJ2_getChar_3b067 52 = .ok (.iand, 1) := by decide +kernel
theorem dJ2_getChar_3b067_53 : decode cJ2_getChar_3b067 53 = .ok (.getstatic 63, 3) := by decide +kernel
theorem dJ2_getChar_3b067_56 : decode cJ2_getChar_3b067 56 = .ok (.ishl, 1) := by decide +kernel
theorem dJ2_getChar_3b067_57 : decode cJ2_getChar_3b067 57 = .ok (.ior, 1) := by decide +kernel
theorem dJ2_getChar_3b067_58 : decode cJ2_getChar_3b067 58 = .ok (.i2c, 1) := by decide +kernel
theorem dJ2_getChar_3b067_59 : decode cJ2_getChar_3b067 59 = .ok (.ireturn, 1) := by decide +kernel
theorem dJ2_length_9d52b_0 : decode cJ2_length_9d52b 0 = .ok (.aload_n 0, 1) := by decide +kernel
theorem dJ2_length_9d52b_1 : decode cJ2_length_9d52b 1 = .ok (.arraylength, 1) := by decide +kernel
theorem dJ2_length_9d52b_2 : decode cJ2_length_9d52b 2 = .ok (.iconst 1, 1) := by decide +kernel
theorem dJ2_length_9d52b_3 : decode cJ2_length_9d52b 3 = .ok (.ishr, 1) := by decide +kernel
theorem dJ2_length_9d52b_4 : decode cJ2_length_9d52b 4 = .ok (.ireturn, 1) := by decide +kernel
theorem dJ2_indexOf_4cfef_0 : decode cJ2_indexOf_4cfef 0 = .ok (.iload_n 2, 1) := by decide +kernel
theorem dJ2_indexOf_4cfef_1 : decode cJ2_indexOf_4cfef 1 = .ok (.iconst 0, 1) := by decide +kernel
theorem dJ2_indexOf_4cfef_2 : decode cJ2_indexOf_4cfef 2 = .ok (.invokestatic 224, 3) := by decide +kernel
theorem dJ2_indexOf_4cfef_5 : decode cJ2_indexOf_4cfef 5 = .ok (.istore_n 2, 1) := by decide +kernel
theorem dJ2_indexOf_4cfef_6 : decode cJ2_indexOf_4cfef 6 = .ok (.iload_n 3, 1) := by decide +kernel
theorem dJ2_indexOf_4cfef_7 : decode cJ2_indexOf_4cfef 7 = .ok (.aload_n 0, 1) := by decide +kernel
theorem dJ2_indexOf_4cfef_8 : decode cJ2_indexOf_4cfef 8 = .ok (.arraylength, 1) := by decide +kernel
theorem dJ2_indexOf_4cfef_9 : decode cJ2_indexOf_4cfef 9 = .ok (.iconst 1, 1) := by decide +kernel
theorem dJ2_indexOf_4cfef_10 : decode cJ2_indexOf_4cfef 10 = .ok (.ishr, 1) := by decide +kernel
theorem dJ2_indexOf_4cfef_11 : decode cJ2_indexOf_4cfef 11 = .ok (.invokestatic 183, 3) := by decide +kernel
theorem dJ2_indexOf_4cfef_14 : decode cJ2_indexOf_4cfef 14 = .ok (.istore_n 3, 1) := by decide +kernel
theorem dJ2_indexOf_4cfef_15 : decode cJ2_indexOf_4cfef 15 = .ok (.iload_n 2, 1) := by decide +kernel
theorem dJ2_indexOf_4cfef_16 : decode cJ2_indexOf_4cfef 16 = .ok (.iload_n 3, 1) := by decide +kernel
theorem dJ2_indexOf_4cfef_17 : decode cJ2_indexOf_4cfef 17 = .ok (.if_icmp .lt 5, 3) := by decide +kernel
theorem dJ2_indexOf_4cfef_20 : decode cJ2_indexOf_4cfef 20 = .ok (.iconst (-1), 1) := by decide +kernel
theorem dJ2_indexOf_4cfef_21 : decode cJ2_indexOf_4cfef 21 = .ok (.ireturn, 1) := by decide +kernel
theorem dJ2_indexOf_4cfef_22 : decode cJ2_indexOf_4cfef 22 = .ok (.iload_n 1, 1) := by decide +kernel
theorem dJ2_indexOf_4cfef_23 : decode cJ2_indexOf_4cfef 23 = .ok (.ldc 227, 2) := by decide +kernel
theorem dJ2_indexOf_4cfef_25 : decode cJ2_indexOf_4cfef 25 = .ok (.if_icmp .ge 11, 3) := by decide +kernel
theorem dJ2_indexOf_4cfef_28 : decode cJ2_indexOf_4cfef 28 = .ok (.aload_n 0, 1) := by decide +kernel
theorem dJ2_indexOf_4cfef_29 : decode cJ2_indexOf_4cfef 29 = .ok (.iload_n 1, 1) := by decide +kernel
theorem dJ2_indexOf_4cfef_30 : decode cJ2_indexOf_4cfef 30 = .ok (.iload_n 2, 1) := by decide +kernel
theorem dJ2_indexOf_4cfef_31 : decode cJ2_indexOf_4cfef 31 = .ok (.iload_n 3, 1) := by decide +kernel
theorem dJ2_indexOf_4cfef_32 : decode cJ2_indexOf_4cfef 32 = .ok (.invokestatic 228, 3) := by decide +kernel
theorem dJ2_indexOf_4cfef_35 : decode cJ2_indexOf_4cfef 35 = .ok (.ireturn, 1) := by decide +kernel
theorem dJ2_indexOf_4cfef_36 : decode cJ2_indexOf_4cfef 36 = .ok (.aload_n 0, 1) := by decide +kernel
theorem dJ2_indexOf_4cfef_37 : decode cJ2_indexOf_4cfef 37 = .ok (.iload_n 1, 1) := by decide +kernel
theorem dJ2_indexOf_4cfef_38 : decode cJ2_indexOf_4cfef 38 = .ok (.iload_n 2, 1) := by decide +kernel
theorem dJ2_indexOf_4cfef_39 : decode cJ2_indexOf_4cfef 39 = .ok (.iload_n 3, 1) := by decide +kernel
theorem dJ2_indexOf_4cfef_40 : decode cJ2_indexOf_4cfef 40 = .ok (.invokestatic 232, 3) := by decide +kernel
theorem dJ2_indexOf_4cfef_43 : decode cJ2_indexOf_4cfef 43 = .ok (.ireturn, 1) := by decide +kernel
theorem dJ2_indexOfChar_4cfef_0 : decode cJ2_indexOfChar_4cfef 0 = .ok (.iload_n 2, 1) := by decide +kernel
theorem dJ2_indexOfChar_4cfef_1 : decode cJ2_indexOfChar_4cfef 1 = .ok (.iload_n 3, 1) := by decide +kernel
theorem dJ2_indexOfChar_4cfef_2 : decode cJ2_indexOfChar_4cfef 2 = .ok (.aload_n 0, 1) := by decide +kernel
theorem dJ2_indexOfChar_4cfef_3 : decode cJ2_indexOfChar_4cfef 3 = .ok (.invokestatic 96, 3) := by decide +kernel
theorem dJ2_indexOfChar_4cfef_6 : decode cJ2_indexOfChar_4cfef 6 = .ok (.aload_n 0, 1) := by decide +kernel
theorem dJ2_indexOfChar_4cfef_7 : decode cJ2_indexOfChar_4cfef 7 = .ok (.iload_n 1, 1) := by decide +kernel
theorem dJ2_indexOfChar_4cfef_8 : decode cJ2_indexOfChar_4cfef 8 = .ok (.iload_n 2, 1) := by decide +kernel
theorem dJ2_indexOfChar_4cfef_9 : decode cJ2_indexOfChar_4cfef 9 = .ok (.iload_n 3, 1) := by decide +kernel
theorem dJ2_indexOfChar_4cfef_10 : decode cJ2_indexOfChar_4cfef 10 = .ok (.invokestatic 244, 3) := by decide +kernel
theorem dJ2_indexOfChar_4cfef_13 : decode cJ2_indexOfChar_4cfef 13 = .ok (.ireturn, 1) := by decide +kernel
theorem dJ2_indexOfCharUnsafe_4cfef_0 : decode cJ2_indexOfCharUnsafe_4cfef 0 = .ok (.iload_n 2, 1) := by decide +kernel
theorem dJ2_indexOfCharUnsafe_4cfef_1 : decode cJ2_indexOfCharUnsafe_4cfef 1 = .ok (.istore 4, 2) := by decide +kernel
theorem dJ2_indexOfCharUnsafe_4cfef_3 : decode cJ2_indexOfCharUnsafe_4cfef 3 = .ok (.iload 4, 2) := by decide +kernel
theorem dJ2_indexOfCharUnsafe_4cfef_5 : decode cJ2_indexOfCharUnsafe_4cfef 5 = .ok (.iload_n 3, 1) := by decide +kernel
theorem dJ2_indexOfCharUnsafe_4cfef_6 : decode cJ2_indexOfCharUnsafe_4cfef 6 = .ok (.if_icmp .ge 22, 3) := by decide +kernel
theorem dJ2_indexOfCharUnsafe_4cfef_9 : decode cJ2_indexOfCharUnsafe_4cfef 9 = .ok (.aload_n 0, 1) := by decide +kernel
theorem dJ2_indexOfCharUnsafe_4cfef_10 : decode cJ2_indexOfCharUnsafe_4cfef 10 = .ok (.iload 4, 2) := by decide +kernel
theorem dJ2_indexOfCharUnsafe_4cfef_12 : decode cJ2_indexOfCharUnsafe_4cfef 12 = .ok (.invokestatic 71, 3) := by decide +kernel
theorem dJ2_indexOfCharUnsafe_4cfef_15 : decode cJ2_indexOfCharUnsafe_4cfef 15 = .ok (.iload_n 1, 1) := by decide +kernel
theorem dJ2_indexOfCharUnsafe_4cfef_16 : decode cJ2_indexOfCharUnsafe_4cfef 16 = .ok (.if_icmp .ne 6, 3) := by decide +kernel
theorem dJ2_indexOfCharUnsafe_4cfef_19 : decode cJ2_indexOfCharUnsafe_4cfef 19 = .ok (.iload 4, 2) := by decide +kernel
theorem dJ2_indexOfCharUnsafe_4cfef_21 : decode cJ2_indexOfCharUnsafe_4cfef 21 = .ok (.ireturn, 1) := by decide +kernel
theorem dJ2_indexOfCharUnsafe_4cfef_22 : decode cJ2_indexOfCharUnsafe_4cfef 22 = .ok (.iinc 4 1, 3) := by decide +kernel
theorem dJ2_indexOfCharUnsafe_4cfef_25 : decode cJ2_indexOfCharUnsafe_4cfef 25 = .ok (.goto (-22), 3) := by decide +kernel
theorem dJ2_indexOfCharUnsafe_4cfef_28 : decode cJ2_indexOfCharUnsafe_4cfef 28 = .ok (.iconst (-1), 1) := by decide +kernel
theorem dJ2_indexOfCharUnsafe_4cfef_29 : decode cJ2_indexOfCharUnsafe_4cfef 29 = .ok (.ireturn, 1) := by decide +kernel
theorem dJ2_indexOfSupplementary_4cfef_0 : decode cJ2_indexOfSupplementary_4cfef 0 = .ok (.iload_n 1, 1) := by decide +kernel
theorem dJ2_indexOfSupplementary_4cfef_1 : decode cJ2_indexOfSupplementary_4cfef 1 = .ok (.invokestatic 164, 3) := by decide +kernel
theorem dJ2_indexOfSupplementary_4cfef_4 : decode cJ2_indexOfSupplementary_4cfef 4 = .ok (.ifCond .eq 65, 3) := by decide +kernel
theorem dJ2_indexOfSupplementary_4cfef_7 : decode cJ2_indexOfSupplementary_4cfef 7 = .ok (.iload_n 1, 1) := by decide +kernel
theorem dJ2_indexOfSupplementary_4cfef_8 : decode cJ2_indexOfSupplementary_4cfef 8 = .ok (.invokestatic 157, 3) := by decide +kernel
theorem dJ2_indexOfSupplementary_4cfef_11 : decode cJ2_indexOfSupplementary_4cfef 11 = .ok (.istore 4, 2) := by decide +kernel
theorem dJ2_indexOfSupplementary_4cfef_13 : decode cJ2_indexOfSupplementary_4cfef 13 = .ok (.iload_n 1, 1) := by decide +kernel
theorem dJ2_indexOfSupplementary_4cfef_14 : decode cJ2_indexOfSupplementary_4cfef 14 = .ok (.invokestatic 161, 3) := by decide +kernel
theorem dJ2_indexOfSupplementary_4cfef_17 : decode cJ2_indexOfSupplementary_4cfef 17 = .ok (.istore 5, 2) := by decide +kernel
theorem dJ2_indexOfSupplementary_4cfef_19 : decode cJ2_indexOfSupplementary_4cfef 19 = .ok (.iload_n 2, 1) := by decide +kernel
theorem dJ2_indexOfSupplementary_4cfef_20 : decode cJ2_indexOfSupplementary_4cfef 20 = .ok (.iload_n 3, 1) := by decide +kernel
theorem dJ2_indexOfSupplementary_4cfef_21 : decode cJ2_indexOfSupplementary_4cfef 21 = .ok (.aload_n 0, 1) := by decide +kernel
theorem dJ2_indexOfSupplementary_4cfef_22 : decode cJ2_indexOfSupplementary_4cfef 22 = .ok (.invokestatic 96, 3) := by decide +kernel
theorem dJ2_indexOfSupplementary_4cfef_25 : decode cJ2_indexOfSupplementary_4cfef 25 = .ok (.iload_n 2, 1) := by decide +kernel
theorem dJ2_indexOfSupplementary_4cfef_26 : decode cJ2_indexOfSupplementary_4cfef 26 = .ok (.istore 6, 2) := by decide +kernel
theorem dJ2_indexOfSupplementary_4cfef_28 : decode cJ2_indexOfSupplementary_4cfef 28 = .ok (.iload 6, 2) := by decide +kernel
theorem dJ2_indexOfSupplementary_4cfef_30 : decode cJ2_indexOfSupplementary_4cfef 30 = .ok (.iload_n 3, 1) := by decide +kernel
theorem dJ2_indexOfSupplementary_4cfef_31 : decode cJ2_indexOfSupplementary_4cfef 31 = .ok (.iconst 1, 1) := by decide +kernel
theorem dJ2_indexOfSupplementary_4cfef_32 : decode cJ2_indexOfSupplementary_4cfef 32 = .ok (.isub, 1) := by decide +kernel
theorem dJ2_indexOfSupplementary_4cfef_33 : decode cJ2_indexOfSupplementary_4cfef 33 = .ok (.if_icmp .ge 36, 3) := by decide +kernel
theorem dJ2_indexOfSupplementary_4cfef_36 : decode cJ2_indexOfSupplementary_4cfef 36 = .ok (.aload_n 0, 1) := by decide +kernel
theorem dJ2_indexOfSupplementary_4cfef_37 : decode cJ2_indexOfSupplementary_4cfef 37 = .ok (.iload 6, 2) := by decide +kernel
theorem dJ2_indexOfSupplementary_4cfef_39 : decode cJ2_indexOfSupplementary_4cfef 39 = .ok (.invokestatic 71, 3) := by decide +kernel
theorem dJ2_indexOfSupplementary_4cfef_42 : decode cJ2_indexOfSupplementary_4cfef 42 = .ok (.iload 4, 2) := by decide +kernel
theorem dJ2_indexOfSupplementary_4cfef_44 : decode cJ2_indexOfSupplementary_4cfef 44 = .ok (.if_icmp .ne 19, 3) := by decide +kernel
theorem dJ2_indexOfSupplementary_4cfef_47 : decode cJ2_indexOfSupplementary_4cfef 47 = .ok (.aload_n 0, 1) := by decide +kernel
theorem dJ2_indexOfSupplementary_4cfef_48 : decode cJ2_indexOfSupplementary_4cfef 48 = .ok (.iload 6, 2) := by decide +kernel
theorem dJ2_indexOfSupplementary_4cfef_50 : decode cJ2_indexOfSupplementary_4cfef 50 = .ok (.iconst 1, 1) := by decide +kernel
theorem dJ2_indexOfSupplementary_4cfef_51 : decode cJ2_indexOfSupplementary_4cfef 51 = .ok (.iadd, 1) := by decide +kernel
theorem dJ2_indexOfSupplementary_4cfef_52 : decode cJ2_indexOfSupplementary_4cfef 52 = .ok (.invokestatic 71, 3) := by decide +kernel
theorem dJ2_indexOfSupplementary_4cfef_55 : decode cJ2_indexOfSupplementary_4cfef 55 = .ok (.iload 5, 2) := by decide +kernel
theorem dJ2_indexOfSupplementary_4cfef_57 : decode cJ2_indexOfSupplementary_4cfef 57 = .ok (.if_icmp .ne 6, 3) := by decide +kernel
theorem dJ2_indexOfSupplementary_4cfef_60 : decode cJ2_indexOfSupplementary_4cfef 60 = .ok (.iload 6, 2) := by decide +kernel
theorem dJ2_indexOfSupplementary_4cfef_62 : decode cJ2_indexOfSupplementary_4cfef 62 = .ok (.ireturn, 1) := by decide +kernel
theorem dJ2_indexOfSupplementary_4cfef_63 : decode cJ2_indexOfSupplementary_4cfef 63 = .ok (.iinc 6 1, 3) := by decide +kernel
theorem dJ2_indexOfSupplementary_4cfef_66 : decode cJ2_indexOfSupplementary_4cfef 66 = .ok (.goto (-38), 3) := by decide +kernel
theorem dJ2_indexOfSupplementary_4cfef_69 : decode cJ2_indexOfSupplementary_4cfef 69 = .ok (.iconst (-1), 1) := by decide +kernel
theorem dJ2_indexOfSupplementary_4cfef_70 : decode cJ2_indexOfSupplementary_4cfef 70 = .ok (.ireturn, 1) := by decide +kernel
theorem dJ2_charAt_3b067_0 : decode cJ2_charAt_3b067 0 = .ok (.iload_n 1, 1) := by decide +kernel
theorem dJ2_charAt_3b067_1 : decode cJ2_charAt_3b067 1 = .ok (.aload_n 0, 1) := by decide +kernel
theorem dJ2_charAt_3b067_2 : decode cJ2_charAt_3b067 2 = .ok (.invokestatic 67, 3) := by decide +kernel
theorem dJ2_charAt_3b067_5 : decode cJ2_charAt_3b067 5 = .ok (.aload_n 0, 1) := by decide +kernel
theorem dJ2_charAt_3b067_6 : decode cJ2_charAt_3b067 6 = .ok (.iload_n 1, 1) := by decide +kernel
theorem dJ2_charAt_3b067_7 : decode cJ2_charAt_3b067 7 = .ok (.invokestatic 71, 3) := by decide +kernel
theorem dJ2_charAt_3b067_10 : decode cJ2_charAt_3b067 10 = .ok (.ireturn, 1) := by decide +kernel
theorem dJ2_checkIndex_2214a_0 : decode cJ2_checkIndex_2214a 0 = .ok (.iload_n 0, 1) := by decide +kernel
theorem dJ2_checkIndex_2214a_1 : decode cJ2_checkIndex_2214a 1 = .ok (.aload_n 1, 1) := by decide +kernel
theorem dJ2_checkIndex_2214a_2 : decode cJ2_checkIndex_2214a 2 = .ok (.invokestatic 48, 3) := by decide +kernel
theorem dJ2_checkIndex_2214a_5 : decode cJ2_checkIndex_2214a 5 = .ok (.invokestatic 414, 3) := by decide +kernel
theorem dJ2_checkIndex_2214a_8 : decode cJ2_checkIndex_2214a 8 = .ok (.return_, 1) := by decide +kernel
theorem dJ2_checkBoundsBeginEnd_d044e_0 : decode cJ2_checkBoundsBeginEnd_d044e 0 = .ok (.iload_n 0, 1) := by decide +kernel
theorem dJ2_checkBoundsBeginEnd_d044e_1 : decode cJ2_checkBoundsBeginEnd_d044e 1 = .ok (.iload_n 1, 1) := by decide +kernel
theorem dJ2_checkBoundsBeginEnd_d044e_2 : decode cJ2_checkBoundsBeginEnd_d044e 2 = .ok (.aload_n 2, 1) := by decide +kernel
theorem dJ2_checkBoundsBeginEnd_d044e_3 : decode cJ2_checkBoundsBeginEnd_d044e 3 = .ok (.invokestatic 48, 3) := by decide +kernel
theorem dJ2_checkBoundsBeginEnd_d044e_6 : decode cJ2_checkBoundsBeginEnd_d044e 6 = .ok (.invokestatic 241, 3) := by decide +kernel
theorem dJ2_checkBoundsBeginEnd_d044e_9 : decode cJ2_checkBoundsBeginEnd_d044e 9 = .ok (.return_, 1) := by decide +kernel
theorem dJ7_copyOf_59c91_0 : decode cJ7_copyOf_59c91 0 = .ok (.iload_n 1, 1) := by decide +kernel
theorem dJ7_copyOf_59c91_1 : decode cJ7_copyOf_59c91 1 = .ok (.aload_n 0, 1) := by decide +kernel
theorem dJ7_copyOf_59c91_2 : decode cJ7_copyOf_59c91 2 = .ok (.arraylength, 1) := by decide +kernel
theorem dJ7_copyOf_59c91_3 : decode cJ7_copyOf_59c91 3 = .ok (.if_icmp .ne 11, 3) := by decide +kernel
theorem dJ7_copyOf_59c91_6 : decode cJ7_copyOf_59c91 6 = .ok (.aload_n 0, 1) := by decide +kernel
theorem dJ7_copyOf_59c91_7 : decode cJ7_copyOf_59c91 7 = .ok (.invokevirtual 316, 3) := by decide +kernel
theorem dJ7_copyOf_59c91_10 : decode cJ7_copyOf_59c91 10 = .ok (.checkcast 317, 3) := by decide +kernel
theorem dJ7_copyOf_59c91_13 : decode cJ7_copyOf_59c91 13 = .ok (.areturn, 1) := by decide +kernel
theorem dJ7_copyOf_59c91_14 : decode cJ7_copyOf_59c91 14 = .ok (.iload_n 1, 1) := by decide +kernel
theorem dJ7_copyOf_59c91_15 : decode cJ7_copyOf_59c91 15 = .ok (.newarray .int, 2) := by decide +kernel
theorem dJ7_copyOf_59c91_17 : decode cJ7_copyOf_59c91 17 = .ok (.astore_n 2, 1) := by decide +kernel
theorem dJ7_copyOf_59c91_18 : decode cJ7_copyOf_59c91 18 = .ok (.aload_n 0, 1) := by decide +kernel
theorem dJ7_copyOf_59c91_19 : decode cJ7_copyOf_59c91 19 = .ok (.iconst 0, 1) := by decide +kernel
theorem dJ7_copyOf_59c91_20 : decode cJ7_copyOf_59c91 20 = .ok (.aload_n 2, 1) := by decide +kernel
theorem dJ7_copyOf_59c91_21 : decode cJ7_copyOf_59c91 21 = .ok (.iconst 0, 1) := by decide +kernel
theorem dJ7_copyOf_59c91_22 : decode cJ7_copyOf_59c91 22 = .ok (.aload_n 0, 1) := by decide +kernel
theorem dJ7_copyOf_59c91_23 : decode cJ7_copyOf_59c91 23 = .ok (.arraylength, 1) := by decide +kernel
theorem dJ7_copyOf_59c91_24 : decode cJ7_copyOf_59c91 24 = .ok (.iload_n 1, 1) := by decide +kernel
theorem dJ7_copyOf_59c91_25 : decode cJ7_copyOf_59c91 25 = .ok (.invokestatic 304, 3) := by decide +kernel
theorem dJ7_copyOf_59c91_28 : decode cJ7_copyOf_59c91 28 = .ok (.invokestatic 150, 3) := by decide +kernel
theorem dJ7_copyOf_59c91_31 : decode cJ7_copyOf_59c91 31 = .ok (.aload_n 2, 1) := by decide +kernel
theorem dJ7_copyOf_59c91_32 : decode cJ7_copyOf_59c91 32 = .ok (.areturn, 1) := by decide +kernel
theorem dJ3_checkIndex_8e157_0 : decode cJ3_checkIndex_8e157 0 = .ok (.iload_n 0, 1) := by decide +kernel
theorem dJ3_checkIndex_8e157_1 : decode cJ3_checkIndex_8e157 1 = .ok (.ifCond .lt 8, 3) := by decide +kernel
theorem dJ3_checkIndex_8e157_4 : decode cJ3_checkIndex_8e157 4 = .ok (.iload_n 0, 1) := by decide +kernel
theorem dJ3_checkIndex_8e157_5 : decode cJ3_checkIndex_8e157 5 = .ok (.iload_n 1, 1) := by decide +kernel
theorem dJ3_checkIndex_8e157_6 : decode cJ3_checkIndex_8e157 6 = .ok (.if_icmp .lt 10, 3) := by decide +kernel
theorem dJ3_checkIndex_8e157_9 : decode cJ3_checkIndex_8e157 9 = .ok (.aload_n 2, 1) := by decide +kernel
theorem dJ3_checkIndex_8e157_10 : decode cJ3_checkIndex_8e157 10 = .ok (.iload_n 0, 1) := by decide +kernel
theorem dJ3_checkIndex_8e157_11 : decode cJ3_checkIndex_8e157 11 = .ok (.iload_n 1, 1) := by decide +kernel
theorem dJ3_checkIndex_8e157_12 : decode cJ3_checkIndex_8e157 12 = .ok (.invokestatic 95, 3) := by decide +kernel
theorem dJ3_checkIndex_8e157_15 : decode cJ3_checkIndex_8e157 15 = .ok (.athrow, 1) := by decide +kernel
theorem dJ3_checkIndex_8e157_16 : decode cJ3_checkIndex_8e157 16 = .ok (.iload_n 0, 1) := by decide +kernel
theorem dJ3_checkIndex_8e157_17 : decode cJ3_checkIndex_8e157 17 = .ok (.ireturn, 1) := by decide +kernel
theorem dJ3_checkFromToIndex_8c36e_0 : decode cJ3_checkFromToIndex_8c36e 0 = .ok (.iload_n 0, 1) := by decide +kernel
theorem dJ3_checkFromToIndex_8c36e_1 : decode cJ3_checkFromToIndex_8c36e 1 = .ok (.ifCond .lt 13, 3) := by decide +kernel
theorem dJ3_checkFromToIndex_8c36e_4 : decode cJ3_checkFromToIndex_8c36e 4 = .ok (.iload_n 0, 1) := by decide +kernel
theorem dJ3_checkFromToIndex_8c36e_5 : decode cJ3_checkFromToIndex_8c36e 5 = .ok (.iload_n 1, 1) := by decide +kernel
theorem dJ3_checkFromToIndex_8c36e_6 : decode cJ3_checkFromToIndex_8c36e 6 = .ok (.if_icmp .gt 8, 3) := by decide +kernel
theorem dJ3_checkFromToIndex_8c36e_9 : decode cJ3_checkFromToIndex_8c36e 9 = .ok (.iload_n 1, 1) := by decide +kernel
theorem dJ3_checkFromToIndex_8c36e_10 : decode cJ3_checkFromToIndex_8c36e 10 = .ok (.iload_n 2, 1) := by decide +kernel
theorem dJ3_checkFromToIndex_8c36e_11 : decode cJ3_checkFromToIndex_8c36e 11 = .ok (.if_icmp .le 11, 3) := by decide +kernel
theorem dJ3_checkFromToIndex_8c36e_14 : decode cJ3_checkFromToIndex_8c36e 14 = .ok (.aload_n 3, 1) := by decide +kernel
theorem dJ3_checkFromToIndex_8c36e_15 : decode cJ3_checkFromToIndex_8c36e 15 = .ok (.iload_n 0, 1) := by decide +kernel
theorem dJ3_checkFromToIndex_8c36e_16 : decode cJ3_checkFromToIndex_8c36e 16 = .ok (.iload_n 1, 1) := by decide +kernel
theorem dJ3_checkFromToIndex_8c36e_17 : decode cJ3_checkFromToIndex_8c36e 17 = .ok (.iload_n 2, 1) := by decide +kernel
theorem dJ3_checkFromToIndex_8c36e_18 : decode cJ3_checkFromToIndex_8c36e 18 = .ok (.invokestatic 99, 3) := by decide +kernel
theorem dJ3_checkFromToIndex_8c36e_21 : decode cJ3_checkFromToIndex_8c36e 21 = .ok (.athrow, 1) := by decide +kernel
theorem dJ3_checkFromToIndex_8c36e_22 : decode cJ3_checkFromToIndex_8c36e 22 = .ok (.iload_n 0, 1) := by decide +kernel
theorem dJ3_checkFromToIndex_8c36e_23 : decode cJ3_checkFromToIndex_8c36e 23 = .ok (.ireturn, 1) := by decide +kernel
