theorem dX9_init_0 : decode cX9_init 0 = .ok (.aload_n 0, 1) := by decide +kernel
theorem dX9_init_1 : decode cX9_init 1 = .ok (.invokespecial 1, 3) := by decide +kernel
theorem dX9_init_4 : decode cX9_init 4 = .ok (.aload_n 0, 1) := by decide +kernel
theorem dX9_init_5 : decode cX9_init 5 = .ok (.sipush 3790, 3) := by decide +kernel
theorem dX9_init_8 : decode cX9_init 8 = .ok (.newarray .int, 2) := by decide +kernel
theorem dX9_init_10 : decode cX9_init 10 = .ok (.putfield 7, 3) := by decide +kernel
theorem dX9_init_13 : decode cX9_init 13 = .ok (.aload_n 0, 1) := by decide +kernel
theorem dX9_init_14 : decode cX9_init 14 = .ok (.sipush 3790, 3) := by decide +kernel
theorem dX9_init_17 : decode cX9_init 17 = .ok (.newarray .int, 2) := by decide +kernel
theorem dX9_init_19 : decode cX9_init 19 = .ok (.putfield 13, 3) := by decide +kernel
theorem dX9_init_22 : decode cX9_init 22 = .ok (.aload_n 0, 1) := by decide +kernel
theorem dX9_init_23 : decode cX9_init 23 = .ok (.sipush 3790, 3) := by decide +kernel
theorem dX9_init_26 : decode cX9_init 26 = .ok (.newarray .int, 2) := by decide +kernel
theorem dX9_init_28 : decode cX9_init 28 = .ok (.putfield 16, 3) := by decide +kernel
theorem dX9_init_31 : decode cX9_init 31 = .ok (.aload_n 0, 1) := by decide +kernel
theorem dX9_init_32 : decode cX9_init 32 = .ok (.iconst 4, 1) := by decide +kernel
theorem dX9_init_33 : decode cX9_init 33 = .ok (.newarray .int, 2) := by decide +kernel
theorem dX9_init_35 : decode cX9_init 35 = .ok (.putfield 19, 3) := by decide +kernel
theorem dX9_init_38 : decode cX9_init 38 = .ok (.aload_n 0, 1) := by decide +kernel
theorem dX9_init_39 : decode cX9_init 39 = .ok (.iconst 4, 1) := by decide +kernel
theorem dX9_init_40 : decode cX9_init 40 = .ok (.newarray .int, 2) := by decide +kernel
theorem dX9_init_42 : decode cX9_init 42 = .ok (.putfield 22, 3) := by decide +kernel
theorem dX9_init_45 : decode cX9_init 45 = .ok (.aload_n 0, 1) := by decide +kernel
theorem dX9_init_46 : decode cX9_init 46 = .ok (.bipush 96, 2) := by decide +kernel
theorem dX9_init_48 : decode cX9_init 48 = .ok (.newarray .int, 2) := by decide +kernel
theorem dX9_init_50 : decode cX9_init 50 = .ok (.putfield 25, 3) := by decide +kernel
theorem dX9_init_53 : decode cX9_init 53 = .ok (.aload_n 0, 1) := by decide +kernel
theorem dX9_init_54 : decode cX9_init 54 = .ok (.bipush 96, 2) := by decide +kernel
theorem dX9_init_56 : decode cX9_init 56 = .ok (.newarray .int, 2) := by decide +kernel
theorem dX9_init_58 : decode cX9_init 58 = .ok (.putfield 28, 3) := by decide +kernel
theorem dX9_init_61 : decode cX9_init 61 = .ok (.aload_n 0, 1) := by decide +kernel
theorem dX9_init_62 : decode cX9_init 62 = .ok (.sipush 128, 3) := by decide +kernel
theorem dX9_init_65 : decode cX9_init 65 = .ok (.newarray .int, 2) := by decide +kernel
theorem dX9_init_67 : decode cX9_init 67 = .ok (.putfield 31, 3) := by decide +kernel
theorem dX9_init_70 : decode cX9_init 70 = .ok (.aload_n 0, 1) := by decide +kernel
theorem dX9_init_71 : decode cX9_init 71 = .ok (.bipush 100, 2) := by decide +kernel
theorem dX9_init_73 : decode cX9_init 73 = .ok (.newarray .int, 2) := by decide +kernel
theorem dX9_init_75 : decode cX9_init 75 = .ok (.putfield 34, 3) := by decide +kernel
theorem dX9_init_78 : decode cX9_init 78 = .ok (.aload_n 0, 1) := by decide +kernel
theorem dX9_init_79 : decode cX9_init 79 = .ok (.bipush 6, 2) := by decide +kernel
theorem dX9_init_81 : decode cX9_init 81 = .ok (.newarray .int, 2) := by decide +kernel
theorem dX9_init_83 : decode cX9_init 83 = .ok (.putfield 37, 3) := by decide +kernel
theorem dX9_init_86 : decode cX9_init 86 = .ok (.aload_n 0, 1) := by decide +kernel
theorem dX9_init_87 : decode cX9_init 87 = .ok (.bipush 14, 2) := by decide +kernel
theorem dX9_init_89 : decode cX9_init 89 = .ok (.newarray .int, 2) := by decide +kernel
theorem dX9_init_91 : decode cX9_init 91 = .ok (.putfield 40, 3) := by decide +kernel
theorem dX9_init_94 : decode cX9_init 94 = .ok (.aload_n 0, 1) := by decide +kernel
theorem dX9_init_95 : decode cX9_init 95 = .ok (.bipush 14, 2) := by decide +kernel
theorem dX9_init_97 : decode cX9_init 97 = .ok (.newarray .boolean, 2) := by decide +kernel
theorem dX9_init_99 : decode cX9_init 99 = .ok (.putfield 43, 3) := by decide +kernel
theorem dX9_init_102 : decode cX9_init 102 = .ok (.aload_n 0, 1) := by decide +kernel
theorem dX9_init_103 : decode cX9_init 103 = .ok (.bipush 6, 2) := by decide +kernel
theorem dX9_init_105 : decode cX9_init 105 = .ok (.newarray .boolean, 2) := by decide +kernel
theorem dX9_init_107 : decode cX9_init 107 = .ok (.putfield 47, 3) := by decide +kernel
theorem dX9_init_110 : decode cX9_init 110 = .ok (.aload_n 0, 1) := by decide +kernel
theorem dX9_init_111 : decode cX9_init 111 = .ok (.bipush 24, 2) := by decide +kernel
theorem dX9_init_113 : decode cX9_init 113 = .ok (.newarray .int, 2) := by decide +kernel
theorem dX9_init_115 : decode cX9_init 115 = .ok (.putfield 50, 3) := by decide +kernel
theorem dX9_init_118 : decode cX9_init 118 = .ok (.aload_n 0, 1) := by decide +kernel
theorem dX9_init_119 : decode cX9_init 119 = .ok (.bipush 60, 2) := by decide +kernel
theorem dX9_init_121 : decode cX9_init 121 = .ok (.newarray .int, 2) := by decide +kernel
theorem dX9_init_123 : decode cX9_init 123 = .ok (.putfield 53, 3) := by decide +kernel
theorem dX9_init_126 : decode cX9_init 126 = .ok (.aload_n 0, 1) := by decide +kernel
theorem dX9_init_127 : decode cX9_init 127 = .ok (.bipush 60, 2) := by decide +kernel
theorem dX9_init_129 : decode cX9_init 129 = .ok (.newarray .int, 2) := by decide +kernel
theorem dX9_init_131 : decode cX9_init 131 = .ok (.putfield 56, 3) := by decide +kernel
theorem dX9_init_134 : decode cX9_init 134 = .ok (.iconst 0, 1) := by decide +kernel
theorem dX9_init_135 : decode cX9_init 135 = .ok (.istore_n 1, 1) := by decide +kernel
theorem dX9_init_136 : decode cX9_init 136 = .ok (.iload_n 1, 1) := by decide +kernel
theorem dX9_init_137 : decode cX9_init 137 = .ok (.iconst 4, 1) := by decide +kernel
theorem dX9_init_138 : decode cX9_init 138 = .ok (.if_icmp .ge 16, 3) := by decide +kernel
theorem dX9_init_141 : decode cX9_init 141 = .ok (.aload_n 0, 1) := by decide +kernel
theorem dX9_init_142 : decode cX9_init 142 = .ok (.getfield 19, 3) := by decide +kernel
theorem dX9_init_145 : decode cX9_init 145 = .ok (.iload_n 1, 1) := by decide +kernel
theorem dX9_init_146 : decode cX9_init 146 = .ok (.iconst (-1), 1) := by decide +kernel
theorem dX9_init_147 : decode cX9_init 147 = .ok (.iastore, 1) := by decide +kernel
theorem dX9_init_148 : decode cX9_init 148 = .ok (.iinc 1 1, 3) := by decide +kernel
theorem dX9_init_151 : decode cX9_init 151 = .ok (.goto (-15), 3) := by decide +kernel
theorem dX9_init_154 : decode cX9_init 154 = .ok (.return_, 1) := by decide +kernel
theorem dX9_isIn_0 : decode cX9_isIn 0 = .ok (.lload_n 0, 1) := by decide +kernel
theorem dX9_isIn_1 : decode cX9_isIn 1 = .ok (.lload_n 2, 1) := by decide +kernel
theorem dX9_isIn_2 : decode cX9_isIn 2 = .ok (.lcmp, 1) := by decide +kernel
theorem dX9_isIn_3 : decode cX9_isIn 3 = .ok (.ifCond .lt 14, 3) := by decide +kernel
theorem dX9_isIn_6 : decode cX9_isIn 6 = .ok (.lload_n 0, 1) := by decide +kernel
theorem dX9_isIn_7 : decode cX9_isIn 7 = .ok (.lload 4, 2) := by decide +kernel
theorem dX9_isIn_9 : decode cX9_isIn 9 = .ok (.lcmp, 1) := by decide +kernel
theorem dX9_isIn_10 : decode cX9_isIn 10 = .ok (.ifCond .gt 7, 3) := by decide +kernel
theorem dX9_isIn_13 : decode cX9_isIn 13 = .ok (.iconst 1, 1) := by decide +kernel
theorem dX9_isIn_14 : decode cX9_isIn 14 = .ok (.goto 4, 3) := by decide +kernel
theorem dX9_isIn_17 : decode cX9_isIn 17 = .ok (.iconst 0, 1) := by decide +kernel
theorem dX9_isIn_18 : decode cX9_isIn 18 = .ok (.ireturn, 1) := by decide +kernel
theorem dX9_orNone_0 : decode cX9_orNone 0 = .ok (.iload_n 0, 1) := by decide +kernel
theorem dX9_orNone_1 : decode cX9_orNone 1 = .ok (.ifCond .ge 8, 3) := by decide +kernel
theorem dX9_orNone_4 : decode cX9_orNone 4 = .ok (.ldc 59, 2) := by decide +kernel
theorem dX9_orNone_6 : decode cX9_orNone 6 = .ok (.goto 4, 3) := by decide +kernel
theorem dX9_orNone_9 : decode cX9_orNone 9 = .ok (.iload_n 0, 1) := by decide +kernel
theorem dX9_orNone_10 : decode cX9_orNone 10 = .ok (.ireturn, 1) := by decide +kernel
theorem dX9_least_0 : decode cX9_least 0 = .ok (.iload_n 0, 1) := by decide +kernel
theorem dX9_least_1 : decode cX9_least 1 = .ok (.iload_n 1, 1) := by decide +kernel
theorem dX9_least_2 : decode cX9_least 2 = .ok (.if_icmp .ge 7, 3) := by decide +kernel
theorem dX9_least_5 : decode cX9_least 5 = .ok (.iload_n 0, 1) := by decide +kernel
theorem dX9_least_6 : decode cX9_least 6 = .ok (.goto 4, 3) := by decide +kernel
theorem dX9_least_9 : decode cX9_least 9 = .ok (.iload_n 1, 1) := by decide +kernel
theorem dX9_least_10 : decode cX9_least 10 = .ok (.ireturn, 1) := by decide +kernel
theorem dX9_becomes_0 : decode cX9_becomes 0 = .ok (.aload_n 0, 1) := by decide +kernel
theorem dX9_becomes_1 : decode cX9_becomes 1 = .ok (.getfield 7, 3) := by decide +kernel
theorem dX9_becomes_4 : decode cX9_becomes 4 = .ok (.iload_n 1, 1) := by decide +kernel
theorem dX9_becomes_5 : decode cX9_becomes 5 = .ok (.iaload, 1) := by decide +kernel
theorem dX9_becomes_6 : decode cX9_becomes 6 = .ok (.istore_n 3, 1) := by decide +kernel
theorem dX9_becomes_7 : decode cX9_becomes 7 = .ok (.aload_n 0, 1) := by decide +kernel
theorem dX9_becomes_8 : decode cX9_becomes 8 = .ok (.getfield 7, 3) := by decide +kernel
theorem dX9_becomes_11 : decode cX9_becomes 11 = .ok (.iload_n 1, 1) := by decide +kernel
theorem dX9_becomes_12 : decode cX9_becomes 12 = .ok (.iload_n 2, 1) := by decide +kernel
theorem dX9_becomes_13 : decode cX9_becomes 13 = .ok (.iastore, 1) := by decide +kernel
theorem dX9_becomes_14 : decode cX9_becomes 14 = .ok (.iload_n 3, 1) := by decide +kernel
theorem dX9_becomes_15 : decode cX9_becomes 15 = .ok (.ireturn, 1) := by decide +kernel
theorem dX9_manAt_0 : decode cX9_manAt 0 = .ok (.bipush 50, 2) := by decide +kernel
theorem dX9_manAt_2 : decode cX9_manAt 2 = .ok (.bipush 14, 2) := by decide +kernel
theorem dX9_manAt_4 : decode cX9_manAt 4 = .ok (.iload_n 1, 1) := by decide +kernel
theorem dX9_manAt_5 : decode cX9_manAt 5 = .ok (.imul, 1) := by decide +kernel
theorem dX9_manAt_6 : decode cX9_manAt 6 = .ok (.iadd, 1) := by decide +kernel
theorem dX9_manAt_7 : decode cX9_manAt 7 = .ok (.ireturn, 1) := by decide +kernel
theorem dX9_masterAt_0 : decode cX9_masterAt 0 = .ok (.sipush 250, 3) := by decide +kernel
theorem dX9_masterAt_3 : decode cX9_masterAt 3 = .ok (.iconst 4, 1) := by decide +kernel
theorem dX9_masterAt_4 : decode cX9_masterAt 4 = .ok (.iload_n 1, 1) := by decide +kernel
theorem dX9_masterAt_5 : decode cX9_masterAt 5 = .ok (.imul, 1) := by decide +kernel
theorem dX9_masterAt_6 : decode cX9_masterAt 6 = .ok (.iadd, 1) := by decide +kernel
theorem dX9_masterAt_7 : decode cX9_masterAt 7 = .ok (.ireturn, 1) := by decide +kernel
theorem dX9_markAt_0 : decode cX9_markAt 0 = .ok (.sipush 280, 3) := by decide +kernel
theorem dX9_markAt_3 : decode cX9_markAt 3 = .ok (.iconst 4, 1) := by decide +kernel
theorem dX9_markAt_4 : decode cX9_markAt 4 = .ok (.iload_n 1, 1) := by decide +kernel
theorem dX9_markAt_5 : decode cX9_markAt 5 = .ok (.imul, 1) := by decide +kernel
theorem dX9_markAt_6 : decode cX9_markAt 6 = .ok (.iadd, 1) := by decide +kernel
theorem dX9_markAt_7 : decode cX9_markAt 7 = .ok (.ireturn, 1) := by decide +kernel
theorem dX9_textAt_0 : decode cX9_textAt 0 = .ok (.sipush 780, 3) := by decide +kernel
theorem dX9_textAt_3 : decode cX9_textAt 3 = .ok (.sipush 200, 3) := by decide +kernel
theorem dX9_textAt_6 : decode cX9_textAt 6 = .ok (.iload_n 1, 1) := by decide +kernel
theorem dX9_textAt_7 : decode cX9_textAt 7 = .ok (.imul, 1) := by decide +kernel
theorem dX9_textAt_8 : decode cX9_textAt 8 = .ok (.iadd, 1) := by decide +kernel
theorem dX9_textAt_9 : decode cX9_textAt 9 = .ok (.ireturn, 1) := by decide +kernel
theorem dX9_isMan_0 : decode cX9_isMan 0 = .ok (.iload_n 1, 1) := by decide +kernel
theorem dX9_isMan_1 : decode cX9_isMan 1 = .ok (.i2l, 1) := by decide +kernel
theorem dX9_isMan_2 : decode cX9_isMan 2 = .ok (.lconst 0, 1) := by decide +kernel
theorem dX9_isMan_3 : decode cX9_isMan 3 = .ok (.aload_n 0, 1) := by decide +kernel
theorem dX9_isMan_4 : decode cX9_isMan 4 = .ok (.getfield 7, 3) := by decide +kernel
theorem dX9_isMan_7 : decode cX9_isMan 7 = .ok (.iconst 2, 1) := by decide +kernel
theorem dX9_isMan_8 : decode cX9_isMan 8 = .ok (.iaload, 1) := by decide +kernel
theorem dX9_isMan_9 : decode cX9_isMan 9 = .ok (.iconst 1, 1) := by decide +kernel
theorem dX9_isMan_10 : decode cX9_isMan 10 = .ok (.isub, 1) := by decide +kernel
theorem dX9_isMan_11 : decode cX9_isMan 11 = .ok (.i2l, 1) := by decide +kernel
theorem dX9_isMan_12 : decode cX9_isMan 12 = .ok (.invokestatic 60, 3) := by decide +kernel
theorem dX9_isMan_15 : decode cX9_isMan 15 = .ok (.ireturn, 1) := by decide +kernel
theorem dX9_isMaster_0 : decode cX9_isMaster 0 = .ok (.iload_n 1, 1) := by decide +kernel
theorem dX9_isMaster_1 : decode cX9_isMaster 1 = .ok (.i2l, 1) := by decide +kernel
theorem dX9_isMaster_2 : decode cX9_isMaster 2 = .ok (.lconst 0, 1) := by decide +kernel
theorem dX9_isMaster_3 : decode cX9_isMaster 3 = .ok (.aload_n 0, 1) := by decide +kernel
theorem dX9_isMaster_4 : decode cX9_isMaster 4 = .ok (.getfield 7, 3) := by decide +kernel
theorem dX9_isMaster_7 : decode cX9_isMaster 7 = .ok (.iconst 3, 1) := by decide +kernel
theorem dX9_isMaster_8 : decode cX9_isMaster 8 = .ok (.iaload, 1) := by decide +kernel
theorem dX9_isMaster_9 : decode cX9_isMaster 9 = .ok (.iconst 1, 1) := by decide +kernel
theorem dX9_isMaster_10 : decode cX9_isMaster 10 = .ok (.isub, 1) := by decide +kernel
theorem dX9_isMaster_11 : decode cX9_isMaster 11 = .ok (.i2l, 1) := by decide +kernel
theorem dX9_isMaster_12 : decode cX9_isMaster 12 = .ok (.invokestatic 60, 3) := by decide +kernel
theorem dX9_isMaster_15 : decode cX9_isMaster 15 = .ok (.ireturn, 1) := by decide +kernel
theorem dX9_isMark_0 : decode cX9_isMark 0 = .ok (.iload_n 1, 1) := by decide +kernel
theorem dX9_isMark_1 : decode cX9_isMark 1 = .ok (.i2l, 1) := by decide +kernel
theorem dX9_isMark_2 : decode cX9_isMark 2 = .ok (.lconst 0, 1) := by decide +kernel
theorem dX9_isMark_3 : decode cX9_isMark 3 = .ok (.aload_n 0, 1) := by decide +kernel
theorem dX9_isMark_4 : decode cX9_isMark 4 = .ok (.getfield 7, 3) := by decide +kernel
theorem dX9_isMark_7 : decode cX9_isMark 7 = .ok (.iconst 4, 1) := by decide +kernel
theorem dX9_isMark_8 : decode cX9_isMark 8 = .ok (.iaload, 1) := by decide +kernel
theorem dX9_isMark_9 : decode cX9_isMark 9 = .ok (.iconst 1, 1) := by decide +kernel
theorem dX9_isMark_10 : decode cX9_isMark 10 = .ok (.isub, 1) := by decide +kernel
theorem dX9_isMark_11 : decode cX9_isMark 11 = .ok (.i2l, 1) := by decide +kernel
theorem dX9_isMark_12 : decode cX9_isMark 12 = .ok (.invokestatic 60, 3) := by decide +kernel
theorem dX9_isMark_15 : decode cX9_isMark 15 = .ok (.ireturn, 1) := by decide +kernel
theorem dX9_isText_0 : decode cX9_isText 0 = .ok (.iload_n 1, 1) := by decide +kernel
theorem dX9_isText_1 : decode cX9_isText 1 = .ok (.i2l, 1) := by decide +kernel
theorem dX9_isText_2 : decode cX9_isText 2 = .ok (.lconst 0, 1) := by decide +kernel
theorem dX9_isText_3 : decode cX9_isText 3 = .ok (.aload_n 0, 1) := by decide +kernel
theorem dX9_isText_4 : decode cX9_isText 4 = .ok (.getfield 7, 3) := by decide +kernel
theorem dX9_isText_7 : decode cX9_isText 7 = .ok (.iconst 5, 1) := by decide +kernel
theorem dX9_isText_8 : decode cX9_isText 8 = .ok (.iaload, 1) := by decide +kernel
theorem dX9_isText_9 : decode cX9_isText 9 = .ok (.iconst 1, 1) := by decide +kernel
theorem dX9_isText_10 : decode cX9_isText 10 = .ok (.isub, 1) := by decide +kernel
theorem dX9_isText_11 : decode cX9_isText 11 = .ok (.i2l, 1) := by decide +kernel
theorem dX9_isText_12 : decode cX9_isText 12 = .ok (.invokestatic 60, 3) := by decide +kernel
theorem dX9_isText_15 : decode cX9_isText 15 = .ok (.ireturn, 1) := by decide +kernel
theorem dX9_isPlace_0 : decode cX9_isPlace 0 = .ok (.iload_n 0, 1) := by decide +kernel
theorem dX9_isPlace_1 : decode cX9_isPlace 1 = .ok (.i2l, 1) := by decide +kernel
theorem dX9_isPlace_2 : decode cX9_isPlace 2 = .ok (.lconst 0, 1) := by decide +kernel
theorem dX9_isPlace_3 : decode cX9_isPlace 3 = .ok (.ldc2_w 64, 3) := by decide +kernel
theorem dX9_isPlace_6 : decode cX9_isPlace 6 = .ok (.invokestatic 60, 3) := by decide +kernel
theorem dX9_isPlace_9 : decode cX9_isPlace 9 = .ok (.ireturn, 1) := by decide +kernel
theorem dX9_kindOf_0 : decode cX9_kindOf 0 = .ok (.aload_n 0, 1) := by decide +kernel
theorem dX9_kindOf_1 : decode cX9_kindOf 1 = .ok (.getfield 7, 3) := by decide +kernel
theorem dX9_kindOf_4 : decode cX9_kindOf 4 = .ok (.aload_n 0, 1) := by decide +kernel
theorem dX9_kindOf_5 : decode cX9_kindOf 5 = .ok (.iload_n 1, 1) := by decide +kernel
theorem dX9_kindOf_6 : decode cX9_kindOf 6 = .ok (.invokevirtual 66, 3) := by decide +kernel
theorem dX9_kindOf_9 : decode cX9_kindOf 9 = .ok (.iconst 5, 1) := by decide +kernel
theorem dX9_kindOf_10 : decode cX9_kindOf 10 = .ok (.iadd, 1) := by decide +kernel
theorem dX9_kindOf_11 : decode cX9_kindOf 11 = .ok (.iaload, 1) := by decide +kernel
theorem dX9_kindOf_12 : decode cX9_kindOf 12 = .ok (.ireturn, 1) := by decide +kernel
theorem dX9_isDead_0 : decode cX9_isDead 0 = .ok (.aload_n 0, 1) := by decide +kernel
theorem dX9_isDead_1 : decode cX9_isDead 1 = .ok (.getfield 7, 3) := by decide +kernel
theorem dX9_isDead_4 : decode cX9_isDead 4 = .ok (.aload_n 0, 1) := by decide +kernel
theorem dX9_isDead_5 : decode cX9_isDead 5 = .ok (.iload_n 1, 1) := by decide +kernel
theorem dX9_isDead_6 : decode cX9_isDead 6 = .ok (.invokevirtual 66, 3) := by decide +kernel
theorem dX9_isDead_9 : decode cX9_isDead 9 = .ok (.bipush 11, 2) := by decide +kernel
theorem dX9_isDead_11 : decode cX9_isDead 11 = .ok (.iadd, 1) := by decide +kernel
theorem dX9_isDead_12 : decode cX9_isDead 12 = .ok (.iaload, 1) := by decide +kernel
theorem dX9_isDead_13 : decode cX9_isDead 13 = .ok (.iconst 1, 1) := by decide +kernel
theorem dX9_isDead_14 : decode cX9_isDead 14 = .ok (.if_icmp .ne 7, 3) := by decide +kernel
theorem dX9_isDead_17 : decode cX9_isDead 17 = .ok (.iconst 1, 1) := by decide +kernel
theorem dX9_isDead_18 : decode cX9_isDead 18 = .ok (.goto 4, 3) := by decide +kernel
theorem dX9_isDead_21 : decode cX9_isDead 21 = .ok (.iconst 0, 1) := by decide +kernel
theorem dX9_isDead_22 : decode cX9_isDead 22 = .ok (.ireturn, 1) := by decide +kernel
theorem dX9_hasLanded_0 : decode cX9_hasLanded 0 = .ok (.aload_n 0, 1) := by decide +kernel
theorem dX9_hasLanded_1 : decode cX9_hasLanded 1 = .ok (.getfield 7, 3) := by decide +kernel
theorem dX9_hasLanded_4 : decode cX9_hasLanded 4 = .ok (.aload_n 0, 1) := by decide +kernel
theorem dX9_hasLanded_5 : decode cX9_hasLanded 5 = .ok (.iload_n 1, 1) := by decide +kernel
theorem dX9_hasLanded_6 : decode cX9_hasLanded 6 = .ok (.invokevirtual 66, 3) := by decide +kernel
theorem dX9_hasLanded_9 : decode cX9_hasLanded 9 = .ok (.bipush 10, 2) := by decide +kernel
theorem dX9_hasLanded_11 : decode cX9_hasLanded 11 = .ok (.iadd, 1) := by decide +kernel
theorem dX9_hasLanded_12 : decode cX9_hasLanded 12 = .ok (.iaload, 1) := by decide +kernel
theorem dX9_hasLanded_13 : decode cX9_hasLanded 13 = .ok (.ifCond .lt 7, 3) := by decide +kernel
theorem dX9_hasLanded_16 : decode cX9_hasLanded 16 = .ok (.iconst 1, 1) := by decide +kernel
theorem dX9_hasLanded_17 : decode cX9_hasLanded 17 = .ok (.goto 4, 3) := by decide +kernel
theorem dX9_hasLanded_20 : decode cX9_hasLanded 20 = .ok (.iconst 0, 1) := by decide +kernel
theorem dX9_hasLanded_21 : decode cX9_hasLanded 21 = .ok (.ireturn, 1) := by decide +kernel
theorem dX9_isOut_0 : decode cX9_isOut 0 = .ok (.aload_n 0, 1) := by decide +kernel
theorem dX9_isOut_1 : decode cX9_isOut 1 = .ok (.iload_n 1, 1) := by decide +kernel
theorem dX9_isOut_2 : decode cX9_isOut 2 = .ok (.invokevirtual 70, 3) := by decide +kernel
theorem dX9_isOut_5 : decode cX9_isOut 5 = .ok (.ifCond .ne 11, 3) := by decide +kernel
theorem dX9_isOut_8 : decode cX9_isOut 8 = .ok (.aload_n 0, 1) := by decide +kernel
theorem dX9_isOut_9 : decode cX9_isOut 9 = .ok (.iload_n 1, 1) := by decide +kernel
theorem dX9_isOut_10 : decode cX9_isOut 10 = .ok (.invokevirtual 74, 3) := by decide +kernel
theorem dX9_isOut_13 : decode cX9_isOut 13 = .ok (.ifCond .ne 7, 3) := by decide +kernel
theorem dX9_isOut_16 : decode cX9_isOut 16 = .ok (.iconst 1, 1) := by decide +kernel
theorem dX9_isOut_17 : decode cX9_isOut 17 = .ok (.goto 4, 3) := by decide +kernel
theorem dX9_isOut_20 : decode cX9_isOut 20 = .ok (.iconst 0, 1) := by decide +kernel
theorem dX9_isOut_21 : decode cX9_isOut 21 = .ok (.ireturn, 1) := by decide +kernel
theorem dX9_isHeld_0 : decode cX9_isHeld 0 = .ok (.aload_n 0, 1) := by decide +kernel
theorem dX9_isHeld_1 : decode cX9_isHeld 1 = .ok (.iload_n 1, 1) := by decide +kernel
theorem dX9_isHeld_2 : decode cX9_isHeld 2 = .ok (.invokevirtual 77, 3) := by decide +kernel
theorem dX9_isHeld_5 : decode cX9_isHeld 5 = .ok (.i2l, 1) := by decide +kernel
theorem dX9_isHeld_6 : decode cX9_isHeld 6 = .ok (.lconst 1, 1) := by decide +kernel
theorem dX9_isHeld_7 : decode cX9_isHeld 7 = .ok (.ldc2_w 80, 3) := by decide +kernel
theorem dX9_isHeld_10 : decode cX9_isHeld 10 = .ok (.invokestatic 60, 3) := by decide +kernel
theorem dX9_isHeld_13 : decode cX9_isHeld 13 = .ok (.ireturn, 1) := by decide +kernel
theorem dX9_becomesOf_0 : decode cX9_becomesOf 0 = .ok (.aload_n 0, 1) := by decide +kernel
theorem dX9_becomesOf_1 : decode cX9_becomesOf 1 = .ok (.iload_n 1, 1) := by decide +kernel
theorem dX9_becomesOf_2 : decode cX9_becomesOf 2 = .ok (.invokevirtual 66, 3) := by decide +kernel
theorem dX9_becomesOf_5 : decode cX9_becomesOf 5 = .ok (.istore 4, 2) := by decide +kernel
theorem dX9_becomesOf_7 : decode cX9_becomesOf 7 = .ok (.aload_n 0, 1) := by decide +kernel
theorem dX9_becomesOf_8 : decode cX9_becomesOf 8 = .ok (.getfield 7, 3) := by decide +kernel
theorem dX9_becomesOf_11 : decode cX9_becomesOf 11 = .ok (.iload 4, 2) := by decide +kernel
theorem dX9_becomesOf_13 : decode cX9_becomesOf 13 = .ok (.iconst 5, 1) := by decide +kernel
theorem dX9_becomesOf_14 : decode cX9_becomesOf 14 = .ok (.iadd, 1) := by decide +kernel
theorem dX9_becomesOf_15 : decode cX9_becomesOf 15 = .ok (.iload_n 2, 1) := by decide +kernel
theorem dX9_becomesOf_16 : decode cX9_becomesOf 16 = .ok (.iastore, 1) := by decide +kernel
theorem dX9_becomesOf_17 : decode cX9_becomesOf 17 = .ok (.aload_n 0, 1) := by decide +kernel
theorem dX9_becomesOf_18 : decode cX9_becomesOf 18 = .ok (.getfield 7, 3) := by decide +kernel
theorem dX9_becomesOf_21 : decode cX9_becomesOf 21 = .ok (.iload 4, 2) := by decide +kernel
theorem dX9_becomesOf_23 : decode cX9_becomesOf 23 = .ok (.bipush 6, 2) := by decide +kernel
theorem dX9_becomesOf_25 : decode cX9_becomesOf 25 = .ok (.iadd, 1) := by decide +kernel
theorem dX9_becomesOf_26 : decode cX9_becomesOf 26 = .ok (.iload_n 3, 1) := by decide +kernel
theorem dX9_becomesOf_27 : decode cX9_becomesOf 27 = .ok (.iastore, 1) := by decide +kernel
theorem dX9_becomesOf_28 : decode cX9_becomesOf 28 = .ok (.aload_n 0, 1) := by decide +kernel
theorem dX9_becomesOf_29 : decode cX9_becomesOf 29 = .ok (.getfield 7, 3) := by decide +kernel
theorem dX9_becomesOf_32 : decode cX9_becomesOf 32 = .ok (.iload 4, 2) := by decide +kernel
theorem dX9_becomesOf_34 : decode cX9_becomesOf 34 = .ok (.bipush 7, 2) := by decide +kernel
theorem dX9_becomesOf_36 : decode cX9_becomesOf 36 = .ok (.iadd, 1) := by decide +kernel
theorem dX9_becomesOf_37 : decode cX9_becomesOf 37 = .ok (.aload_n 0, 1) := by decide +kernel
theorem dX9_becomesOf_38 : decode cX9_becomesOf 38 = .ok (.getfield 7, 3) := by decide +kernel
theorem dX9_becomesOf_41 : decode cX9_becomesOf 41 = .ok (.iconst 0, 1) := by decide +kernel
theorem dX9_becomesOf_42 : decode cX9_becomesOf 42 = .ok (.iaload, 1) := by decide +kernel
theorem dX9_becomesOf_43 : decode cX9_becomesOf 43 = .ok (.iastore, 1) := by decide +kernel
theorem dX9_becomesOf_44 : decode cX9_becomesOf 44 = .ok (.return_, 1) := by decide +kernel
theorem dX9_ship_0 : decode cX9_ship 0 = .ok (.iload_n 1, 1) := by decide +kernel
theorem dX9_ship_1 : decode cX9_ship 1 = .ok (.invokestatic 82, 3) := by decide +kernel
theorem dX9_ship_4 : decode cX9_ship 4 = .ok (.ifCond .eq 23, 3) := by decide +kernel
theorem dX9_ship_7 : decode cX9_ship 7 = .ok (.iload_n 2, 1) := by decide +kernel
theorem dX9_ship_8 : decode cX9_ship 8 = .ok (.i2l, 1) := by decide +kernel
theorem dX9_ship_9 : decode cX9_ship 9 = .ok (.aload_n 0, 1) := by decide +kernel
theorem dX9_ship_10 : decode cX9_ship 10 = .ok (.getfield 7, 3) := by decide +kernel
theorem dX9_ship_13 : decode cX9_ship 13 = .ok (.iconst 0, 1) := by decide +kernel
theorem dX9_ship_14 : decode cX9_ship 14 = .ok (.iaload, 1) := by decide +kernel
theorem dX9_ship_15 : decode cX9_ship 15 = .ok (.iconst 1, 1) := by decide +kernel
theorem dX9_ship_16 : decode cX9_ship 16 = .ok (.iadd, 1) := by decide +kernel
theorem dX9_ship_17 : decode cX9_ship 17 = .ok (.i2l, 1) := by decide +kernel
theorem dX9_ship_18 : decode cX9_ship 18 = .ok (.ldc2_w 85, 3) := by decide +kernel
theorem dX9_ship_21 : decode cX9_ship 21 = .ok (.invokestatic 60, 3) := by decide +kernel
theorem dX9_ship_24 : decode cX9_ship 24 = .ok (.ifCond .ne 6, 3) := by decide +kernel
theorem dX9_ship_27 : decode cX9_ship 27 = .ok (.ldc 87, 2) := by decide +kernel
theorem dX9_ship_29 : decode cX9_ship 29 = .ok (.ireturn, 1) := by decide +kernel
theorem dX9_ship_30 : decode cX9_ship 30 = .ok (.aload_n 0, 1) := by decide +kernel
theorem dX9_ship_31 : decode cX9_ship 31 = .ok (.getfield 7, 3) := by decide +kernel
theorem dX9_ship_34 : decode cX9_ship 34 = .ok (.iconst 1, 1) := by decide +kernel
theorem dX9_ship_35 : decode cX9_ship 35 = .ok (.iaload, 1) := by decide +kernel
theorem dX9_ship_36 : decode cX9_ship 36 = .ok (.bipush 8, 2) := by decide +kernel
theorem dX9_ship_38 : decode cX9_ship 38 = .ok (.if_icmp .ne 6, 3) := by decide +kernel
theorem dX9_ship_41 : decode cX9_ship 41 = .ok (.ldc 88, 2) := by decide +kernel
theorem dX9_ship_43 : decode cX9_ship 43 = .ok (.ireturn, 1) := by decide +kernel
theorem dX9_ship_44 : decode cX9_ship 44 = .ok (.aload_n 0, 1) := by decide +kernel
theorem dX9_ship_45 : decode cX9_ship 45 = .ok (.getfield 7, 3) := by decide +kernel
theorem dX9_ship_48 : decode cX9_ship 48 = .ok (.bipush 30, 2) := by decide +kernel
theorem dX9_ship_50 : decode cX9_ship 50 = .ok (.iconst 2, 1) := by decide +kernel
theorem dX9_ship_51 : decode cX9_ship 51 = .ok (.aload_n 0, 1) := by decide +kernel
theorem dX9_ship_52 : decode cX9_ship 52 = .ok (.getfield 7, 3) := by decide +kernel
theorem dX9_ship_55 : decode cX9_ship 55 = .ok (.iconst 1, 1) := by decide +kernel
theorem dX9_ship_56 : decode cX9_ship 56 = .ok (.iaload, 1) := by decide +kernel
theorem dX9_ship_57 : decode cX9_ship 57 = .ok (.imul, 1) := by decide +kernel
theorem dX9_ship_58 : decode cX9_ship 58 = .ok (.iadd, 1) := by decide +kernel
theorem dX9_ship_59 : decode cX9_ship 59 = .ok (.iload_n 1, 1) := by decide +kernel
theorem dX9_ship_60 : decode cX9_ship 60 = .ok (.iastore, 1) := by decide +kernel
theorem dX9_ship_61 : decode cX9_ship 61 = .ok (.aload_n 0, 1) := by decide +kernel
theorem dX9_ship_62 : decode cX9_ship 62 = .ok (.getfield 7, 3) := by decide +kernel
theorem dX9_ship_65 : decode cX9_ship 65 = .ok (.bipush 30, 2) := by decide +kernel
theorem dX9_ship_67 : decode cX9_ship 67 = .ok (.iconst 2, 1) := by decide +kernel
theorem dX9_ship_68 : decode cX9_ship 68 = .ok (.aload_n 0, 1) := by decide +kernel
theorem dX9_ship_69 : decode cX9_ship 69 = .ok (.getfield 7, 3) := by decide +kernel
theorem dX9_ship_72 : decode cX9_ship 72 = .ok (.iconst 1, 1) := by decide +kernel
theorem dX9_ship_73 : decode cX9_ship 73 = .ok (.iaload, 1) := by decide +kernel
theorem dX9_ship_74 : decode cX9_ship 74 = .ok (.imul, 1) := by decide +kernel
theorem dX9_ship_75 : decode cX9_ship 75 = .ok (.iadd, 1) := by decide +kernel
theorem dX9_ship_76 : decode cX9_ship 76 = .ok (.iconst 1, 1) := by decide +kernel
theorem dX9_ship_77 : decode cX9_ship 77 = .ok (.iadd, 1) := by decide +kernel
theorem dX9_ship_78 : decode cX9_ship 78 = .ok (.iload_n 2, 1) := by decide +kernel
theorem dX9_ship_79 : decode cX9_ship 79 = .ok (.iastore, 1) := by decide +kernel
theorem dX9_ship_80 : decode cX9_ship 80 = .ok (.aload_n 0, 1) := by decide +kernel
theorem dX9_ship_81 : decode cX9_ship 81 = .ok (.getfield 7, 3) := by decide +kernel
theorem dX9_ship_84 : decode cX9_ship 84 = .ok (.iconst 1, 1) := by decide +kernel
theorem dX9_ship_85 : decode cX9_ship 85 = .ok (.dup2, 1) := by decide +kernel
theorem dX9_ship_86 : decode cX9_ship 86 = .ok (.iaload, 1) := by decide +kernel
theorem dX9_ship_87 : decode cX9_ship 87 = .ok (.iconst 1, 1) := by decide +kernel
theorem dX9_ship_88 : decode cX9_ship 88 = .ok (.iadd, 1) := by decide +kernel
theorem dX9_ship_89 : decode cX9_ship 89 = .ok (.iastore, 1) := by decide +kernel
theorem dX9_ship_90 : decode cX9_ship 90 = .ok (.aload_n 0, 1) := by decide +kernel
theorem dX9_ship_91 : decode cX9_ship 91 = .ok (.getfield 7, 3) := by decide +kernel
theorem dX9_ship_94 : decode cX9_ship 94 = .ok (.iconst 1, 1) := by decide +kernel
theorem dX9_ship_95 : decode cX9_ship 95 = .ok (.iaload, 1) := by decide +kernel
theorem dX9_ship_96 : decode cX9_ship 96 = .ok (.iconst 1, 1) := by decide +kernel
theorem dX9_ship_97 : decode cX9_ship 97 = .ok (.isub, 1) := by decide +kernel
theorem dX9_ship_98 : decode cX9_ship 98 = .ok (.ireturn, 1) := by decide +kernel
theorem dX9_man_0 : decode cX9_man 0 = .ok (.iload_n 1, 1) := by decide +kernel
theorem dX9_man_1 : decode cX9_man 1 = .ok (.i2l, 1) := by decide +kernel
theorem dX9_man_2 : decode cX9_man 2 = .ok (.lconst 0, 1) := by decide +kernel
theorem dX9_man_3 : decode cX9_man 3 = .ok (.aload_n 0, 1) := by decide +kernel
theorem dX9_man_4 : decode cX9_man 4 = .ok (.getfield 7, 3) := by decide +kernel
theorem dX9_man_7 : decode cX9_man 7 = .ok (.iconst 1, 1) := by decide +kernel
theorem dX9_man_8 : decode cX9_man 8 = .ok (.iaload, 1) := by decide +kernel
theorem dX9_man_9 : decode cX9_man 9 = .ok (.iconst 1, 1) := by decide +kernel
theorem dX9_man_10 : decode cX9_man 10 = .ok (.isub, 1) := by decide +kernel
theorem dX9_man_11 : decode cX9_man 11 = .ok (.i2l, 1) := by decide +kernel
theorem dX9_man_12 : decode cX9_man 12 = .ok (.invokestatic 60, 3) := by decide +kernel
theorem dX9_man_15 : decode cX9_man 15 = .ok (.ifCond .eq 29, 3) := by decide +kernel
theorem dX9_man_18 : decode cX9_man 18 = .ok (.aload_n 0, 1) := by decide +kernel
theorem dX9_man_19 : decode cX9_man 19 = .ok (.getfield 7, 3) := by decide +kernel
theorem dX9_man_22 : decode cX9_man 22 = .ok (.bipush 30, 2) := by decide +kernel
theorem dX9_man_24 : decode cX9_man 24 = .ok (.iconst 2, 1) := by decide +kernel
theorem dX9_man_25 : decode cX9_man 25 = .ok (.iload_n 1, 1) := by decide +kernel
theorem dX9_man_26 : decode cX9_man 26 = .ok (.imul, 1) := by decide +kernel
theorem dX9_man_27 : decode cX9_man 27 = .ok (.iadd, 1) := by decide +kernel
theorem dX9_man_28 : decode cX9_man 28 = .ok (.iconst 1, 1) := by decide +kernel
theorem dX9_man_29 : decode cX9_man 29 = .ok (.iadd, 1) := by decide +kernel
theorem dX9_man_30 : decode cX9_man 30 = .ok (.iaload, 1) := by decide +kernel
theorem dX9_man_31 : decode cX9_man 31 = .ok (.aload_n 0, 1) := by decide +kernel
theorem dX9_man_32 : decode cX9_man 32 = .ok (.getfield 7, 3) := by decide +kernel
theorem dX9_man_35 : decode cX9_man 35 = .ok (.iconst 0, 1) := by decide +kernel
theorem dX9_man_36 : decode cX9_man 36 = .ok (.iaload, 1) := by decide +kernel
theorem dX9_man_37 : decode cX9_man 37 = .ok (.if_icmp .lt 7, 3) := by decide +kernel
theorem dX9_man_40 : decode cX9_man 40 = .ok (.iconst 1, 1) := by decide +kernel
theorem dX9_man_41 : decode cX9_man 41 = .ok (.goto 4, 3) := by decide +kernel
theorem dX9_man_44 : decode cX9_man 44 = .ok (.iconst 0, 1) := by decide +kernel
theorem dX9_man_45 : decode cX9_man 45 = .ok (.istore 6, 2) := by decide +kernel
theorem dX9_man_47 : decode cX9_man 47 = .ok (.iload 6, 2) := by decide +kernel
theorem dX9_man_49 : decode cX9_man 49 = .ok (.ifCond .eq 55, 3) := by decide +kernel
theorem dX9_man_52 : decode cX9_man 52 = .ok (.iload_n 2, 1) := by decide +kernel
theorem dX9_man_53 : decode cX9_man 53 = .ok (.i2l, 1) := by decide +kernel
theorem dX9_man_54 : decode cX9_man 54 = .ok (.lconst 0, 1) := by decide +kernel
theorem dX9_man_55 : decode cX9_man 55 = .ok (.ldc2_w 89, 3) := by decide +kernel
theorem dX9_man_58 : decode cX9_man 58 = .ok (.invokestatic 60, 3) := by decide +kernel
theorem dX9_man_61 : decode cX9_man 61 = .ok (.ifCond .eq 43, 3) := by decide +kernel
theorem dX9_man_64 : decode cX9_man 64 = .ok (.iload_n 3, 1) := by decide +kernel
theorem dX9_man_65 : decode cX9_man 65 = .ok (.i2l, 1) := by decide +kernel
theorem dX9_man_66 : decode cX9_man 66 = .ok (.lconst 0, 1) := by decide +kernel
theorem dX9_man_67 : decode cX9_man 67 = .ok (.ldc2_w 64, 3) := by decide +kernel
theorem dX9_man_70 : decode cX9_man 70 = .ok (.invokestatic 60, 3) := by decide +kernel
theorem dX9_man_73 : decode cX9_man 73 = .ok (.ifCond .eq 31, 3) := by decide +kernel
theorem dX9_man_76 : decode cX9_man 76 = .ok (.iload 4, 2) := by decide +kernel
theorem dX9_man_78 : decode cX9_man 78 = .ok (.i2l, 1) := by decide +kernel
theorem dX9_man_79 : decode cX9_man 79 = .ok (.ldc2_w 91, 3) := by decide +kernel
theorem dX9_man_82 : decode cX9_man 82 = .ok (.ldc2_w 93, 3) := by decide +kernel
theorem dX9_man_85 : decode cX9_man 85 = .ok (.invokestatic 60, 3) := by decide +kernel
theorem dX9_man_88 : decode cX9_man 88 = .ok (.ifCond .eq 16, 3) := by decide +kernel
theorem dX9_man_91 : decode cX9_man 91 = .ok (.iload 5, 2) := by decide +kernel
theorem dX9_man_93 : decode cX9_man 93 = .ok (.i2l, 1) := by decide +kernel
theorem dX9_man_94 : decode cX9_man 94 = .ok (.lconst 0, 1) := by decide +kernel
theorem dX9_man_95 : decode cX9_man 95 = .ok (.ldc2_w 95, 3) := by decide +kernel
theorem dX9_man_98 : decode cX9_man 98 = .ok (.invokestatic 60, 3) := by decide +kernel
theorem dX9_man_101 : decode cX9_man 101 = .ok (.ifCond .ne 6, 3) := by decide +kernel
theorem dX9_man_104 : decode cX9_man 104 = .ok (.ldc 87, 2) := by decide +kernel
theorem dX9_man_106 : decode cX9_man 106 = .ok (.ireturn, 1) := by decide +kernel
theorem dX9_man_107 : decode cX9_man 107 = .ok (.aload_n 0, 1) := by decide +kernel
theorem dX9_man_108 : decode cX9_man 108 = .ok (.getfield 7, 3) := by decide +kernel
theorem dX9_man_111 : decode cX9_man 111 = .ok (.iconst 2, 1) := by decide +kernel
theorem dX9_man_112 : decode cX9_man 112 = .ok (.iaload, 1) := by decide +kernel
theorem dX9_man_113 : decode cX9_man 113 = .ok (.bipush 14, 2) := by decide +kernel
theorem dX9_man_115 : decode cX9_man 115 = .ok (.if_icmp .ne 6, 3) := by decide +kernel
theorem dX9_man_118 : decode cX9_man 118 = .ok (.ldc 88, 2) := by decide +kernel
theorem dX9_man_120 : decode cX9_man 120 = .ok (.ireturn, 1) := by decide +kernel
theorem dX9_man_121 : decode cX9_man 121 = .ok (.aload_n 0, 1) := by decide +kernel
theorem dX9_man_122 : decode cX9_man 122 = .ok (.aload_n 0, 1) := by decide +kernel
theorem dX9_man_123 : decode cX9_man 123 = .ok (.getfield 7, 3) := by decide +kernel
theorem dX9_man_126 : decode cX9_man 126 = .ok (.iconst 2, 1) := by decide +kernel
theorem dX9_man_127 : decode cX9_man 127 = .ok (.iaload, 1) := by decide +kernel
theorem dX9_man_128 : decode cX9_man 128 = .ok (.invokevirtual 66, 3) := by decide +kernel
theorem dX9_man_131 : decode cX9_man 131 = .ok (.istore 7, 2) := by decide +kernel
theorem dX9_man_133 : decode cX9_man 133 = .ok (.aload_n 0, 1) := by decide +kernel
theorem dX9_man_134 : decode cX9_man 134 = .ok (.getfield 7, 3) := by decide +kernel
theorem dX9_man_137 : decode cX9_man 137 = .ok (.iload 7, 2) := by decide +kernel
theorem dX9_man_139 : decode cX9_man 139 = .ok (.iconst 0, 1) := by decide +kernel
theorem dX9_man_140 : decode cX9_man 140 = .ok (.iadd, 1) := by decide +kernel
theorem dX9_man_141 : decode cX9_man 141 = .ok (.iload_n 2, 1) := by decide +kernel
theorem dX9_man_142 : decode cX9_man 142 = .ok (.iastore, 1) := by decide +kernel
theorem dX9_man_143 : decode cX9_man 143 = .ok (.aload_n 0, 1) := by decide +kernel
theorem dX9_man_144 : decode cX9_man 144 = .ok (.getfield 7, 3) := by decide +kernel
theorem dX9_man_147 : decode cX9_man 147 = .ok (.iload 7, 2) := by decide +kernel
theorem dX9_man_149 : decode cX9_man 149 = .ok (.iconst 1, 1) := by decide +kernel
theorem dX9_man_150 : decode cX9_man 150 = .ok (.iadd, 1) := by decide +kernel
theorem dX9_man_151 : decode cX9_man 151 = .ok (.iload_n 3, 1) := by decide +kernel
theorem dX9_man_152 : decode cX9_man 152 = .ok (.iastore, 1) := by decide +kernel
theorem dX9_man_153 : decode cX9_man 153 = .ok (.aload_n 0, 1) := by decide +kernel
theorem dX9_man_154 : decode cX9_man 154 = .ok (.getfield 7, 3) := by decide +kernel
theorem dX9_man_157 : decode cX9_man 157 = .ok (.iload 7, 2) := by decide +kernel
theorem dX9_man_159 : decode cX9_man 159 = .ok (.iconst 2, 1) := by decide +kernel
theorem dX9_man_160 : decode cX9_man 160 = .ok (.iadd, 1) := by decide +kernel
theorem dX9_man_161 : decode cX9_man 161 = .ok (.iload 4, 2) := by decide +kernel
theorem dX9_man_163 : decode cX9_man 163 = .ok (.iastore, 1) := by decide +kernel
theorem dX9_man_164 : decode cX9_man 164 = .ok (.aload_n 0, 1) := by decide +kernel
theorem dX9_man_165 : decode cX9_man 165 = .ok (.getfield 7, 3) := by decide +kernel
theorem dX9_man_168 : decode cX9_man 168 = .ok (.iload 7, 2) := by decide +kernel
theorem dX9_man_170 : decode cX9_man 170 = .ok (.iconst 3, 1) := by decide +kernel
theorem dX9_man_171 : decode cX9_man 171 = .ok (.iadd, 1) := by decide +kernel
theorem dX9_man_172 : decode cX9_man 172 = .ok (.iload 5, 2) := by decide +kernel
theorem dX9_man_174 : decode cX9_man 174 = .ok (.iastore, 1) := by decide +kernel
theorem dX9_man_175 : decode cX9_man 175 = .ok (.aload_n 0, 1) := by decide +kernel
theorem dX9_man_176 : decode cX9_man 176 = .ok (.getfield 7, 3) := by decide +kernel
theorem dX9_man_179 : decode cX9_man 179 = .ok (.iload 7, 2) := by decide +kernel
theorem dX9_man_181 : decode cX9_man 181 = .ok (.iconst 4, 1) := by decide +kernel
theorem dX9_man_182 : decode cX9_man 182 = .ok (.iadd, 1) := by decide +kernel
theorem dX9_man_183 : decode cX9_man 183 = .ok (.iconst (-1), 1) := by decide +kernel
theorem dX9_man_184 : decode cX9_man 184 = .ok (.iastore, 1) := by decide +kernel
theorem dX9_man_185 : decode cX9_man 185 = .ok (.aload_n 0, 1) := by decide +kernel
theorem dX9_man_186 : decode cX9_man 186 = .ok (.getfield 7, 3) := by decide +kernel
theorem dX9_man_189 : decode cX9_man 189 = .ok (.iload 7, 2) := by decide +kernel
theorem dX9_man_191 : decode cX9_man 191 = .ok (.bipush 9, 2) := by decide +kernel
theorem dX9_man_193 : decode cX9_man 193 = .ok (.iadd, 1) := by decide +kernel
theorem dX9_man_194 : decode cX9_man 194 = .ok (.iconst 0, 1) := by decide +kernel
theorem dX9_man_195 : decode cX9_man 195 = .ok (.iastore, 1) := by decide +kernel
theorem dX9_man_196 : decode cX9_man 196 = .ok (.aload_n 0, 1) := by decide +kernel
theorem dX9_man_197 : decode cX9_man 197 = .ok (.getfield 7, 3) := by decide +kernel
theorem dX9_man_200 : decode cX9_man 200 = .ok (.iload 7, 2) := by decide +kernel
theorem dX9_man_202 : decode cX9_man 202 = .ok (.bipush 10, 2) := by decide +kernel
theorem dX9_man_204 : decode cX9_man 204 = .ok (.iadd, 1) := by decide +kernel
theorem dX9_man_205 : decode cX9_man 205 = .ok (.iconst (-1), 1) := by decide +kernel
theorem dX9_man_206 : decode cX9_man 206 = .ok (.iastore, 1) := by decide +kernel
theorem dX9_man_207 : decode cX9_man 207 = .ok (.aload_n 0, 1) := by decide +kernel
theorem dX9_man_208 : decode cX9_man 208 = .ok (.getfield 7, 3) := by decide +kernel
theorem dX9_man_211 : decode cX9_man 211 = .ok (.iload 7, 2) := by decide +kernel
theorem dX9_man_213 : decode cX9_man 213 = .ok (.bipush 11, 2) := by decide +kernel
theorem dX9_man_215 : decode cX9_man 215 = .ok (.iadd, 1) := by decide +kernel
theorem dX9_man_216 : decode cX9_man 216 = .ok (.iconst 0, 1) := by decide +kernel
theorem dX9_man_217 : decode cX9_man 217 = .ok (.iastore, 1) := by decide +kernel
theorem dX9_man_218 : decode cX9_man 218 = .ok (.aload_n 0, 1) := by decide +kernel
theorem dX9_man_219 : decode cX9_man 219 = .ok (.getfield 7, 3) := by decide +kernel
theorem dX9_man_222 : decode cX9_man 222 = .ok (.iload 7, 2) := by decide +kernel
theorem dX9_man_224 : decode cX9_man 224 = .ok (.bipush 12, 2) := by decide +kernel
theorem dX9_man_226 : decode cX9_man 226 = .ok (.iadd, 1) := by decide +kernel
theorem dX9_man_227 : decode cX9_man 227 = .ok (.sipush 364, 3) := by decide +kernel
theorem dX9_man_230 : decode cX9_man 230 = .ok (.iastore, 1) := by decide +kernel
theorem dX9_man_231 : decode cX9_man 231 = .ok (.aload_n 0, 1) := by decide +kernel
theorem dX9_man_232 : decode cX9_man 232 = .ok (.getfield 7, 3) := by decide +kernel
theorem dX9_man_235 : decode cX9_man 235 = .ok (.iload 7, 2) := by decide +kernel
theorem dX9_man_237 : decode cX9_man 237 = .ok (.bipush 13, 2) := by decide +kernel
theorem dX9_man_239 : decode cX9_man 239 = .ok (.iadd, 1) := by decide +kernel
theorem dX9_man_240 : decode cX9_man 240 = .ok (.iload_n 1, 1) := by decide +kernel
theorem dX9_man_241 : decode cX9_man 241 = .ok (.iastore, 1) := by decide +kernel
theorem dX9_man_242 : decode cX9_man 242 = .ok (.aload_n 0, 1) := by decide +kernel
theorem dX9_man_243 : decode cX9_man 243 = .ok (.aload_n 0, 1) := by decide +kernel
theorem dX9_man_244 : decode cX9_man 244 = .ok (.getfield 7, 3) := by decide +kernel
theorem dX9_man_247 : decode cX9_man 247 = .ok (.iconst 2, 1) := by decide +kernel
theorem dX9_man_248 : decode cX9_man 248 = .ok (.iaload, 1) := by decide +kernel
theorem dX9_man_249 : decode cX9_man 249 = .ok (.iconst 1, 1) := by decide +kernel
theorem dX9_man_250 : decode cX9_man 250 = .ok (.iconst 0, 1) := by decide +kernel
theorem dX9_man_251 : decode cX9_man 251 = .ok (.invokevirtual 97, 3) := by decide +kernel
theorem dX9_man_254 : decode cX9_man 254 = .ok (.aload_n 0, 1) := by decide +kernel
theorem dX9_man_255 : decode cX9_man 255 = .ok (.getfield 7, 3) := by decide +kernel
theorem dX9_man_258 : decode cX9_man 258 = .ok (.iconst 2, 1) := by decide +kernel
theorem dX9_man_259 : decode cX9_man 259 = .ok (.dup2, 1) := by decide +kernel
theorem dX9_man_260 : decode cX9_man 260 = .ok (.iaload, 1) := by decide +kernel
theorem dX9_man_261 : decode cX9_man 261 = .ok (.iconst 1, 1) := by decide +kernel
theorem dX9_man_262 : decode cX9_man 262 = .ok (.iadd, 1) := by decide +kernel
theorem dX9_man_263 : decode cX9_man 263 = .ok (.iastore, 1) := by decide +kernel
theorem dX9_man_264 : decode cX9_man 264 = .ok (.aload_n 0, 1) := by decide +kernel
theorem dX9_man_265 : decode cX9_man 265 = .ok (.getfield 7, 3) := by decide +kernel
theorem dX9_man_268 : decode cX9_man 268 = .ok (.iconst 2, 1) := by decide +kernel
theorem dX9_man_269 : decode cX9_man 269 = .ok (.iaload, 1) := by decide +kernel
theorem dX9_man_270 : decode cX9_man 270 = .ok (.iconst 1, 1) := by decide +kernel
theorem dX9_man_271 : decode cX9_man 271 = .ok (.isub, 1) := by decide +kernel
theorem dX9_man_272 : decode cX9_man 272 = .ok (.ireturn, 1) := by decide +kernel
theorem dX9_term_0 : decode cX9_term 0 = .ok (.aload_n 0, 1) := by decide +kernel
theorem dX9_term_1 : decode cX9_term 1 = .ok (.iload_n 1, 1) := by decide +kernel
theorem dX9_term_2 : decode cX9_term 2 = .ok (.invokevirtual 101, 3) := by decide +kernel
theorem dX9_term_5 : decode cX9_term 5 = .ok (.ifCond .eq 15, 3) := by decide +kernel
theorem dX9_term_8 : decode cX9_term 8 = .ok (.iload_n 2, 1) := by decide +kernel
theorem dX9_term_9 : decode cX9_term 9 = .ok (.i2l, 1) := by decide +kernel
theorem dX9_term_10 : decode cX9_term 10 = .ok (.lconst 1, 1) := by decide +kernel
theorem dX9_term_11 : decode cX9_term 11 = .ok (.ldc2_w 104, 3) := by decide +kernel
theorem dX9_term_14 : decode cX9_term 14 = .ok (.invokestatic 60, 3) := by decide +kernel
theorem dX9_term_17 : decode cX9_term 17 = .ok (.ifCond .ne 6, 3) := by decide +kernel
theorem dX9_term_20 : decode cX9_term 20 = .ok (.ldc 87, 2) := by decide +kernel
theorem dX9_term_22 : decode cX9_term 22 = .ok (.ireturn, 1) := by decide +kernel
theorem dX9_term_23 : decode cX9_term 23 = .ok (.aload_n 0, 1) := by decide +kernel
theorem dX9_term_24 : decode cX9_term 24 = .ok (.iload_n 1, 1) := by decide +kernel
theorem dX9_term_25 : decode cX9_term 25 = .ok (.invokevirtual 74, 3) := by decide +kernel
theorem dX9_term_28 : decode cX9_term 28 = .ok (.ifCond .eq 8, 3) := by decide +kernel
theorem dX9_term_31 : decode cX9_term 31 = .ok (.ldc 106, 2) := by decide +kernel
theorem dX9_term_33 : decode cX9_term 33 = .ok (.goto 16, 3) := by decide +kernel
theorem dX9_term_36 : decode cX9_term 36 = .ok (.aload_n 0, 1) := by decide +kernel
theorem dX9_term_37 : decode cX9_term 37 = .ok (.aload_n 0, 1) := by decide +kernel
theorem dX9_term_38 : decode cX9_term 38 = .ok (.iload_n 1, 1) := by decide +kernel
theorem dX9_term_39 : decode cX9_term 39 = .ok (.invokevirtual 66, 3) := by decide +kernel
theorem dX9_term_42 : decode cX9_term 42 = .ok (.bipush 12, 2) := by decide +kernel
theorem dX9_term_44 : decode cX9_term 44 = .ok (.iadd, 1) := by decide +kernel
theorem dX9_term_45 : decode cX9_term 45 = .ok (.iload_n 2, 1) := by decide +kernel
theorem dX9_term_46 : decode cX9_term 46 = .ok (.invokevirtual 107, 3) := by decide +kernel
theorem dX9_term_49 : decode cX9_term 49 = .ok (.ireturn, 1) := by decide +kernel
theorem dX9_marksOf_0 : decode cX9_marksOf 0 = .ok (.iconst 0, 1) := by decide +kernel
theorem dX9_marksOf_1 : decode cX9_marksOf 1 = .ok (.istore_n 2, 1) := by decide +kernel
theorem dX9_marksOf_2 : decode cX9_marksOf 2 = .ok (.iconst 0, 1) := by decide +kernel
theorem dX9_marksOf_3 : decode cX9_marksOf 3 = .ok (.istore_n 3, 1) := by decide +kernel
theorem dX9_marksOf_4 : decode cX9_marksOf 4 = .ok (.iload_n 3, 1) := by decide +kernel
theorem dX9_marksOf_5 : decode cX9_marksOf 5 = .ok (.aload_n 0, 1) := by decide +kernel
theorem dX9_marksOf_6 : decode cX9_marksOf 6 = .ok (.getfield 7, 3) := by decide +kernel
theorem dX9_marksOf_9 : decode cX9_marksOf 9 = .ok (.iconst 4, 1) := by decide +kernel
theorem dX9_marksOf_10 : decode cX9_marksOf 10 = .ok (.iaload, 1) := by decide +kernel
theorem dX9_marksOf_11 : decode cX9_marksOf 11 = .ok (.if_icmp .ge 46, 3) := by decide +kernel
theorem dX9_marksOf_14 : decode cX9_marksOf 14 = .ok (.iload_n 2, 1) := by decide +kernel
theorem dX9_marksOf_15 : decode cX9_marksOf 15 = .ok (.aload_n 0, 1) := by decide +kernel
theorem dX9_marksOf_16 : decode cX9_marksOf 16 = .ok (.getfield 7, 3) := by decide +kernel
theorem dX9_marksOf_19 : decode cX9_marksOf 19 = .ok (.aload_n 0, 1) := by decide +kernel
theorem dX9_marksOf_20 : decode cX9_marksOf 20 = .ok (.iload_n 3, 1) := by decide +kernel
theorem dX9_marksOf_21 : decode cX9_marksOf 21 = .ok (.invokevirtual 111, 3) := by decide +kernel
theorem dX9_marksOf_24 : decode cX9_marksOf 24 = .ok (.iaload, 1) := by decide +kernel
theorem dX9_marksOf_25 : decode cX9_marksOf 25 = .ok (.iload_n 1, 1) := by decide +kernel
theorem dX9_marksOf_26 : decode cX9_marksOf 26 = .ok (.if_icmp .ne 22, 3) := by decide +kernel
theorem dX9_marksOf_29 : decode cX9_marksOf 29 = .ok (.aload_n 0, 1) := by decide +kernel
theorem dX9_marksOf_30 : decode cX9_marksOf 30 = .ok (.getfield 7, 3) := by decide +kernel
theorem dX9_marksOf_33 : decode cX9_marksOf 33 = .ok (.aload_n 0, 1) := by decide +kernel
theorem dX9_marksOf_34 : decode cX9_marksOf 34 = .ok (.iload_n 3, 1) := by decide +kernel
theorem dX9_marksOf_35 : decode cX9_marksOf 35 = .ok (.invokevirtual 111, 3) := by decide +kernel
theorem dX9_marksOf_38 : decode cX9_marksOf 38 = .ok (.iconst 3, 1) := by decide +kernel
theorem dX9_marksOf_39 : decode cX9_marksOf 39 = .ok (.iadd, 1) := by decide +kernel
theorem dX9_marksOf_40 : decode cX9_marksOf 40 = .ok (.iaload, 1) := by decide +kernel
theorem dX9_marksOf_41 : decode cX9_marksOf 41 = .ok (.ifCond .ne 7, 3) := by decide +kernel
theorem dX9_marksOf_44 : decode cX9_marksOf 44 = .ok (.iconst 1, 1) := by decide +kernel
theorem dX9_marksOf_45 : decode cX9_marksOf 45 = .ok (.goto 4, 3) := by decide +kernel
theorem dX9_marksOf_48 : decode cX9_marksOf 48 = .ok (.iconst 0, 1) := by decide +kernel
theorem dX9_marksOf_49 : decode cX9_marksOf 49 = .ok (.iadd, 1) := by decide +kernel
theorem dX9_marksOf_50 : decode cX9_marksOf 50 = .ok (.istore_n 2, 1) := by decide +kernel
theorem dX9_marksOf_51 : decode cX9_marksOf 51 = .ok (.iinc 3 1, 3) := by decide +kernel
theorem dX9_marksOf_54 : decode cX9_marksOf 54 = .ok (.goto (-50), 3) := by decide +kernel
theorem dX9_marksOf_57 : decode cX9_marksOf 57 = .ok (.iload_n 2, 1) := by decide +kernel
theorem dX9_marksOf_58 : decode cX9_marksOf 58 = .ok (.ireturn, 1) := by decide +kernel
theorem dX9_told_0 : decode cX9_told 0 = .ok (.aload_n 0, 1) := by decide +kernel
theorem dX9_told_1 : decode cX9_told 1 = .ok (.iload_n 1, 1) := by decide +kernel
theorem dX9_told_2 : decode cX9_told 2 = .ok (.invokevirtual 101, 3) := by decide +kernel
theorem dX9_told_5 : decode cX9_told 5 = .ok (.ifCond .eq 15, 3) := by decide +kernel
theorem dX9_told_8 : decode cX9_told 8 = .ok (.iload_n 2, 1) := by decide +kernel
theorem dX9_told_9 : decode cX9_told 9 = .ok (.i2l, 1) := by decide +kernel
theorem dX9_told_10 : decode cX9_told 10 = .ok (.lconst 0, 1) := by decide +kernel
theorem dX9_told_11 : decode cX9_told 11 = .ok (.ldc2_w 114, 3) := by decide +kernel
theorem dX9_told_14 : decode cX9_told 14 = .ok (.invokestatic 60, 3) := by decide +kernel
theorem dX9_told_17 : decode cX9_told 17 = .ok (.ifCond .ne 6, 3) := by decide +kernel
theorem dX9_told_20 : decode cX9_told 20 = .ok (.ldc 87, 2) := by decide +kernel
theorem dX9_told_22 : decode cX9_told 22 = .ok (.ireturn, 1) := by decide +kernel
theorem dX9_told_23 : decode cX9_told 23 = .ok (.iload_n 2, 1) := by decide +kernel
theorem dX9_told_24 : decode cX9_told 24 = .ok (.bipush 8, 2) := by decide +kernel
theorem dX9_told_26 : decode cX9_told 26 = .ok (.if_icmp .ne 9, 3) := by decide +kernel
theorem dX9_told_29 : decode cX9_told 29 = .ok (.aload_n 0, 1) := by decide +kernel
theorem dX9_told_30 : decode cX9_told 30 = .ok (.iload_n 1, 1) := by decide +kernel
theorem dX9_told_31 : decode cX9_told 31 = .ok (.invokevirtual 116, 3) := by decide +kernel
theorem dX9_told_34 : decode cX9_told 34 = .ok (.ireturn, 1) := by decide +kernel
theorem dX9_told_35 : decode cX9_told 35 = .ok (.aload_n 0, 1) := by decide +kernel
theorem dX9_told_36 : decode cX9_told 36 = .ok (.getfield 7, 3) := by decide +kernel
theorem dX9_told_39 : decode cX9_told 39 = .ok (.aload_n 0, 1) := by decide +kernel
theorem dX9_told_40 : decode cX9_told 40 = .ok (.iload_n 1, 1) := by decide +kernel
theorem dX9_told_41 : decode cX9_told 41 = .ok (.invokevirtual 66, 3) := by decide +kernel
theorem dX9_told_44 : decode cX9_told 44 = .ok (.iload_n 2, 1) := by decide +kernel
theorem dX9_told_45 : decode cX9_told 45 = .ok (.iadd, 1) := by decide +kernel
theorem dX9_told_46 : decode cX9_told 46 = .ok (.iaload, 1) := by decide +kernel
theorem dX9_told_47 : decode cX9_told 47 = .ok (.istore_n 3, 1) := by decide +kernel
theorem dX9_told_48 : decode cX9_told 48 = .ok (.iload_n 2, 1) := by decide +kernel
theorem dX9_told_49 : decode cX9_told 49 = .ok (.iconst 4, 1) := by decide +kernel
theorem dX9_told_50 : decode cX9_told 50 = .ok (.if_icmp .eq 9, 3) := by decide +kernel
theorem dX9_told_53 : decode cX9_told 53 = .ok (.iload_n 2, 1) := by decide +kernel
theorem dX9_told_54 : decode cX9_told 54 = .ok (.bipush 10, 2) := by decide +kernel
theorem dX9_told_56 : decode cX9_told 56 = .ok (.if_icmp .ne 10, 3) := by decide +kernel
theorem dX9_told_59 : decode cX9_told 59 = .ok (.iload_n 3, 1) := by decide +kernel
theorem dX9_told_60 : decode cX9_told 60 = .ok (.invokestatic 119, 3) := by decide +kernel
theorem dX9_told_63 : decode cX9_told 63 = .ok (.goto 4, 3) := by decide +kernel
theorem dX9_told_66 : decode cX9_told 66 = .ok (.iload_n 3, 1) := by decide +kernel
theorem dX9_told_67 : decode cX9_told 67 = .ok (.ireturn, 1) := by decide +kernel
theorem dX9_as_0 : decode cX9_as 0 = .ok (.aload_n 0, 1) := by decide +kernel
theorem dX9_as_1 : decode cX9_as 1 = .ok (.iload_n 1, 1) := by decide +kernel
theorem dX9_as_2 : decode cX9_as 2 = .ok (.invokevirtual 101, 3) := by decide +kernel
theorem dX9_as_5 : decode cX9_as 5 = .ok (.ifCond .eq 15, 3) := by decide +kernel
theorem dX9_as_8 : decode cX9_as 8 = .ok (.iload_n 2, 1) := by decide +kernel
theorem dX9_as_9 : decode cX9_as 9 = .ok (.i2l, 1) := by decide +kernel
theorem dX9_as_10 : decode cX9_as 10 = .ok (.lconst 0, 1) := by decide +kernel
theorem dX9_as_11 : decode cX9_as 11 = .ok (.ldc2_w 89, 3) := by decide +kernel
theorem dX9_as_14 : decode cX9_as 14 = .ok (.invokestatic 60, 3) := by decide +kernel
theorem dX9_as_17 : decode cX9_as 17 = .ok (.ifCond .ne 6, 3) := by decide +kernel
theorem dX9_as_20 : decode cX9_as 20 = .ok (.ldc 87, 2) := by decide +kernel
theorem dX9_as_22 : decode cX9_as 22 = .ok (.ireturn, 1) := by decide +kernel
theorem dX9_as_23 : decode cX9_as 23 = .ok (.aload_n 0, 1) := by decide +kernel
theorem dX9_as_24 : decode cX9_as 24 = .ok (.iload_n 1, 1) := by decide +kernel
theorem dX9_as_25 : decode cX9_as 25 = .ok (.invokevirtual 77, 3) := by decide +kernel
theorem dX9_as_28 : decode cX9_as 28 = .ok (.istore_n 3, 1) := by decide +kernel
theorem dX9_as_29 : decode cX9_as 29 = .ok (.iload_n 2, 1) := by decide +kernel
theorem dX9_as_30 : decode cX9_as 30 = .ok (.ifCond .eq 31, 3) := by decide +kernel
theorem dX9_as_33 : decode cX9_as 33 = .ok (.iload_n 2, 1) := by decide +kernel
theorem dX9_as_34 : decode cX9_as 34 = .ok (.iload_n 3, 1) := by decide +kernel
theorem dX9_as_35 : decode cX9_as 35 = .ok (.if_icmp .eq 26, 3) := by decide +kernel
theorem dX9_as_38 : decode cX9_as 38 = .ok (.iload_n 2, 1) := by decide +kernel
theorem dX9_as_39 : decode cX9_as 39 = .ok (.iconst 1, 1) := by decide +kernel
theorem dX9_as_40 : decode cX9_as 40 = .ok (.if_icmp .ne 25, 3) := by decide +kernel
theorem dX9_as_43 : decode cX9_as 43 = .ok (.iload_n 3, 1) := by decide +kernel
theorem dX9_as_44 : decode cX9_as 44 = .ok (.i2l, 1) := by decide +kernel
theorem dX9_as_45 : decode cX9_as 45 = .ok (.lconst 1, 1) := by decide +kernel
theorem dX9_as_46 : decode cX9_as 46 = .ok (.ldc2_w 80, 3) := by decide +kernel
theorem dX9_as_49 : decode cX9_as 49 = .ok (.invokestatic 60, 3) := by decide +kernel
theorem dX9_as_52 : decode cX9_as 52 = .ok (.ifCond .ne 9, 3) := by decide +kernel
theorem dX9_as_55 : decode cX9_as 55 = .ok (.iload_n 3, 1) := by decide +kernel
theorem dX9_as_56 : decode cX9_as 56 = .ok (.bipush 7, 2) := by decide +kernel
theorem dX9_as_58 : decode cX9_as 58 = .ok (.if_icmp .ne 7, 3) := by decide +kernel
theorem dX9_as_61 : decode cX9_as 61 = .ok (.iconst 1, 1) := by decide +kernel
theorem dX9_as_62 : decode cX9_as 62 = .ok (.goto 4, 3) := by decide +kernel
theorem dX9_as_65 : decode cX9_as 65 = .ok (.iconst 0, 1) := by decide +kernel
theorem dX9_as_66 : decode cX9_as 66 = .ok (.istore 4, 2) := by decide +kernel
theorem dX9_as_68 : decode cX9_as 68 = .ok (.iload 4, 2) := by decide +kernel
theorem dX9_as_70 : decode cX9_as 70 = .ok (.ifCond .eq 19, 3) := by decide +kernel
theorem dX9_as_73 : decode cX9_as 73 = .ok (.aload_n 0, 1) := by decide +kernel
theorem dX9_as_74 : decode cX9_as 74 = .ok (.getfield 7, 3) := by decide +kernel
theorem dX9_as_77 : decode cX9_as 77 = .ok (.aload_n 0, 1) := by decide +kernel
theorem dX9_as_78 : decode cX9_as 78 = .ok (.iload_n 1, 1) := by decide +kernel
theorem dX9_as_79 : decode cX9_as 79 = .ok (.invokevirtual 66, 3) := by decide +kernel
theorem dX9_as_82 : decode cX9_as 82 = .ok (.bipush 6, 2) := by decide +kernel
theorem dX9_as_84 : decode cX9_as 84 = .ok (.iadd, 1) := by decide +kernel
theorem dX9_as_85 : decode cX9_as 85 = .ok (.iaload, 1) := by decide +kernel
theorem dX9_as_86 : decode cX9_as 86 = .ok (.goto 5, 3) := by decide +kernel
theorem dX9_as_89 : decode cX9_as 89 = .ok (.ldc 122, 2) := by decide +kernel
theorem dX9_as_91 : decode cX9_as 91 = .ok (.ireturn, 1) := by decide +kernel
theorem dX9_dies_0 : decode cX9_dies 0 = .ok (.aload_n 0, 1) := by decide +kernel
theorem dX9_dies_1 : decode cX9_dies 1 = .ok (.iload_n 1, 1) := by decide +kernel
theorem dX9_dies_2 : decode cX9_dies 2 = .ok (.invokevirtual 101, 3) := by decide +kernel
theorem dX9_dies_5 : decode cX9_dies 5 = .ok (.ifCond .ne 6, 3) := by decide +kernel
theorem dX9_dies_8 : decode cX9_dies 8 = .ok (.ldc 87, 2) := by decide +kernel
theorem dX9_dies_10 : decode cX9_dies 10 = .ok (.ireturn, 1) := by decide +kernel
theorem dX9_dies_11 : decode cX9_dies 11 = .ok (.aload_n 0, 1) := by decide +kernel
theorem dX9_dies_12 : decode cX9_dies 12 = .ok (.iload_n 1, 1) := by decide +kernel
theorem dX9_dies_13 : decode cX9_dies 13 = .ok (.invokevirtual 70, 3) := by decide +kernel
theorem dX9_dies_16 : decode cX9_dies 16 = .ok (.ifCond .eq 6, 3) := by decide +kernel
theorem dX9_dies_19 : decode cX9_dies 19 = .ok (.ldc 106, 2) := by decide +kernel
theorem dX9_dies_21 : decode cX9_dies 21 = .ok (.ireturn, 1) := by decide +kernel
theorem dX9_dies_22 : decode cX9_dies 22 = .ok (.aload_n 0, 1) := by decide +kernel
theorem dX9_dies_23 : decode cX9_dies 23 = .ok (.getfield 7, 3) := by decide +kernel
theorem dX9_dies_26 : decode cX9_dies 26 = .ok (.aload_n 0, 1) := by decide +kernel
theorem dX9_dies_27 : decode cX9_dies 27 = .ok (.iload_n 1, 1) := by decide +kernel
theorem dX9_dies_28 : decode cX9_dies 28 = .ok (.invokevirtual 66, 3) := by decide +kernel
theorem dX9_dies_31 : decode cX9_dies 31 = .ok (.bipush 11, 2) := by decide +kernel
theorem dX9_dies_33 : decode cX9_dies 33 = .ok (.iadd, 1) := by decide +kernel
theorem dX9_dies_34 : decode cX9_dies 34 = .ok (.iconst 1, 1) := by decide +kernel
theorem dX9_dies_35 : decode cX9_dies 35 = .ok (.iastore, 1) := by decide +kernel
theorem dX9_dies_36 : decode cX9_dies 36 = .ok (.aload_n 0, 1) := by decide +kernel
theorem dX9_dies_37 : decode cX9_dies 37 = .ok (.getfield 7, 3) := by decide +kernel
theorem dX9_dies_40 : decode cX9_dies 40 = .ok (.aload_n 0, 1) := by decide +kernel
theorem dX9_dies_41 : decode cX9_dies 41 = .ok (.iload_n 1, 1) := by decide +kernel
theorem dX9_dies_42 : decode cX9_dies 42 = .ok (.invokevirtual 66, 3) := by decide +kernel
theorem dX9_dies_45 : decode cX9_dies 45 = .ok (.iconst 4, 1) := by decide +kernel
theorem dX9_dies_46 : decode cX9_dies 46 = .ok (.iadd, 1) := by decide +kernel
theorem dX9_dies_47 : decode cX9_dies 47 = .ok (.iconst (-1), 1) := by decide +kernel
theorem dX9_dies_48 : decode cX9_dies 48 = .ok (.iastore, 1) := by decide +kernel
theorem dX9_dies_49 : decode cX9_dies 49 = .ok (.iconst 1, 1) := by decide +kernel
theorem dX9_dies_50 : decode cX9_dies 50 = .ok (.ireturn, 1) := by decide +kernel
theorem dX9_master_0 : decode cX9_master 0 = .ok (.iload_n 1, 1) := by decide +kernel
theorem dX9_master_1 : decode cX9_master 1 = .ok (.invokestatic 82, 3) := by decide +kernel
theorem dX9_master_4 : decode cX9_master 4 = .ok (.ifCond .eq 40, 3) := by decide +kernel
theorem dX9_master_7 : decode cX9_master 7 = .ok (.iload_n 2, 1) := by decide +kernel
theorem dX9_master_8 : decode cX9_master 8 = .ok (.i2l, 1) := by decide +kernel
theorem dX9_master_9 : decode cX9_master 9 = .ok (.lconst 0, 1) := by decide +kernel
theorem dX9_master_10 : decode cX9_master 10 = .ok (.ldc2_w 123, 3) := by decide +kernel
theorem dX9_master_13 : decode cX9_master 13 = .ok (.invokestatic 60, 3) := by decide +kernel
theorem dX9_master_16 : decode cX9_master 16 = .ok (.ifCond .eq 28, 3) := by decide +kernel
theorem dX9_master_19 : decode cX9_master 19 = .ok (.iload_n 3, 1) := by decide +kernel
theorem dX9_master_20 : decode cX9_master 20 = .ok (.i2l, 1) := by decide +kernel
theorem dX9_master_21 : decode cX9_master 21 = .ok (.lconst 0, 1) := by decide +kernel
theorem dX9_master_22 : decode cX9_master 22 = .ok (.ldc2_w 125, 3) := by decide +kernel
theorem dX9_master_25 : decode cX9_master 25 = .ok (.invokestatic 60, 3) := by decide +kernel
theorem dX9_master_28 : decode cX9_master 28 = .ok (.ifCond .eq 16, 3) := by decide +kernel
theorem dX9_master_31 : decode cX9_master 31 = .ok (.iload 4, 2) := by decide +kernel
theorem dX9_master_33 : decode cX9_master 33 = .ok (.i2l, 1) := by decide +kernel
theorem dX9_master_34 : decode cX9_master 34 = .ok (.lconst 0, 1) := by decide +kernel
theorem dX9_master_35 : decode cX9_master 35 = .ok (.ldc2_w 127, 3) := by decide +kernel
theorem dX9_master_38 : decode cX9_master 38 = .ok (.invokestatic 60, 3) := by decide +kernel
theorem dX9_master_41 : decode cX9_master 41 = .ok (.ifCond .ne 6, 3) := by decide +kernel
theorem dX9_master_44 : decode cX9_master 44 = .ok (.ldc 87, 2) := by decide +kernel
theorem dX9_master_46 : decode cX9_master 46 = .ok (.ireturn, 1) := by decide +kernel
theorem dX9_master_47 : decode cX9_master 47 = .ok (.aload_n 0, 1) := by decide +kernel
theorem dX9_master_48 : decode cX9_master 48 = .ok (.getfield 7, 3) := by decide +kernel
theorem dX9_master_51 : decode cX9_master 51 = .ok (.iconst 3, 1) := by decide +kernel
theorem dX9_master_52 : decode cX9_master 52 = .ok (.iaload, 1) := by decide +kernel
theorem dX9_master_53 : decode cX9_master 53 = .ok (.bipush 6, 2) := by decide +kernel
theorem dX9_master_55 : decode cX9_master 55 = .ok (.if_icmp .ne 6, 3) := by decide +kernel
theorem dX9_master_58 : decode cX9_master 58 = .ok (.ldc 88, 2) := by decide +kernel
theorem dX9_master_60 : decode cX9_master 60 = .ok (.ireturn, 1) := by decide +kernel
theorem dX9_master_61 : decode cX9_master 61 = .ok (.aload_n 0, 1) := by decide +kernel
theorem dX9_master_62 : decode cX9_master 62 = .ok (.aload_n 0, 1) := by decide +kernel
theorem dX9_master_63 : decode cX9_master 63 = .ok (.getfield 7, 3) := by decide +kernel
theorem dX9_master_66 : decode cX9_master 66 = .ok (.iconst 3, 1) := by decide +kernel
theorem dX9_master_67 : decode cX9_master 67 = .ok (.iaload, 1) := by decide +kernel
theorem dX9_master_68 : decode cX9_master 68 = .ok (.invokevirtual 129, 3) := by decide +kernel
theorem dX9_master_71 : decode cX9_master 71 = .ok (.istore 5, 2) := by decide +kernel
theorem dX9_master_73 : decode cX9_master 73 = .ok (.aload_n 0, 1) := by decide +kernel
theorem dX9_master_74 : decode cX9_master 74 = .ok (.getfield 7, 3) := by decide +kernel
theorem dX9_master_77 : decode cX9_master 77 = .ok (.iload 5, 2) := by decide +kernel
theorem dX9_master_79 : decode cX9_master 79 = .ok (.iload_n 1, 1) := by decide +kernel
theorem dX9_master_80 : decode cX9_master 80 = .ok (.iastore, 1) := by decide +kernel
theorem dX9_master_81 : decode cX9_master 81 = .ok (.aload_n 0, 1) := by decide +kernel
theorem dX9_master_82 : decode cX9_master 82 = .ok (.getfield 7, 3) := by decide +kernel
theorem dX9_master_85 : decode cX9_master 85 = .ok (.iload 5, 2) := by decide +kernel
theorem dX9_master_87 : decode cX9_master 87 = .ok (.iconst 1, 1) := by decide +kernel
theorem dX9_master_88 : decode cX9_master 88 = .ok (.iadd, 1) := by decide +kernel
theorem dX9_master_89 : decode cX9_master 89 = .ok (.iload_n 2, 1) := by decide +kernel
theorem dX9_master_90 : decode cX9_master 90 = .ok (.iastore, 1) := by decide +kernel
theorem dX9_master_91 : decode cX9_master 91 = .ok (.aload_n 0, 1) := by decide +kernel
theorem dX9_master_92 : decode cX9_master 92 = .ok (.getfield 7, 3) := by decide +kernel
theorem dX9_master_95 : decode cX9_master 95 = .ok (.iload 5, 2) := by decide +kernel
theorem dX9_master_97 : decode cX9_master 97 = .ok (.iconst 2, 1) := by decide +kernel
theorem dX9_master_98 : decode cX9_master 98 = .ok (.iadd, 1) := by decide +kernel
theorem dX9_master_99 : decode cX9_master 99 = .ok (.iload_n 3, 1) := by decide +kernel
theorem dX9_master_100 : decode cX9_master 100 = .ok (.iastore, 1) := by decide +kernel
theorem dX9_master_101 : decode cX9_master 101 = .ok (.aload_n 0, 1) := by decide +kernel
theorem dX9_master_102 : decode cX9_master 102 = .ok (.getfield 7, 3) := by decide +kernel
theorem dX9_master_105 : decode cX9_master 105 = .ok (.iload 5, 2) := by decide +kernel
theorem dX9_master_107 : decode cX9_master 107 = .ok (.iconst 3, 1) := by decide +kernel
theorem dX9_master_108 : decode cX9_master 108 = .ok (.iadd, 1) := by decide +kernel
theorem dX9_master_109 : decode cX9_master 109 = .ok (.iload 4, 2) := by decide +kernel
theorem dX9_master_111 : decode cX9_master 111 = .ok (.iastore, 1) := by decide +kernel
theorem dX9_master_112 : decode cX9_master 112 = .ok (.aload_n 0, 1) := by decide +kernel
theorem dX9_master_113 : decode cX9_master 113 = .ok (.getfield 7, 3) := by decide +kernel
theorem dX9_master_116 : decode cX9_master 116 = .ok (.iconst 3, 1) := by decide +kernel
theorem dX9_master_117 : decode cX9_master 117 = .ok (.dup2, 1) := by decide +kernel
theorem dX9_master_118 : decode cX9_master 118 = .ok (.iaload, 1) := by decide +kernel
theorem dX9_master_119 : decode cX9_master 119 = .ok (.iconst 1, 1) := by decide +kernel
theorem dX9_master_120 : decode cX9_master 120 = .ok (.iadd, 1) := by decide +kernel
theorem dX9_master_121 : decode cX9_master 121 = .ok (.iastore, 1) := by decide +kernel
theorem dX9_master_122 : decode cX9_master 122 = .ok (.aload_n 0, 1) := by decide +kernel
theorem dX9_master_123 : decode cX9_master 123 = .ok (.getfield 7, 3) := by decide +kernel
theorem dX9_master_126 : decode cX9_master 126 = .ok (.iconst 3, 1) := by decide +kernel
theorem dX9_master_127 : decode cX9_master 127 = .ok (.iaload, 1) := by decide +kernel
theorem dX9_master_128 : decode cX9_master 128 = .ok (.iconst 1, 1) := by decide +kernel
theorem dX9_master_129 : decode cX9_master 129 = .ok (.isub, 1) := by decide +kernel
theorem dX9_master_130 : decode cX9_master 130 = .ok (.ireturn, 1) := by decide +kernel
theorem dX9_assignedTo_0 : decode cX9_assignedTo 0 = .ok (.iconst 0, 1) := by decide +kernel
theorem dX9_assignedTo_1 : decode cX9_assignedTo 1 = .ok (.istore_n 2, 1) := by decide +kernel
theorem dX9_assignedTo_2 : decode cX9_assignedTo 2 = .ok (.iconst 0, 1) := by decide +kernel
theorem dX9_assignedTo_3 : decode cX9_assignedTo 3 = .ok (.istore_n 3, 1) := by decide +kernel
theorem dX9_assignedTo_4 : decode cX9_assignedTo 4 = .ok (.iload_n 3, 1) := by decide +kernel
theorem dX9_assignedTo_5 : decode cX9_assignedTo 5 = .ok (.aload_n 0, 1) := by decide +kernel
theorem dX9_assignedTo_6 : decode cX9_assignedTo 6 = .ok (.getfield 7, 3) := by decide +kernel
theorem dX9_assignedTo_9 : decode cX9_assignedTo 9 = .ok (.iconst 2, 1) := by decide +kernel
theorem dX9_assignedTo_10 : decode cX9_assignedTo 10 = .ok (.iaload, 1) := by decide +kernel
theorem dX9_assignedTo_11 : decode cX9_assignedTo 11 = .ok (.if_icmp .ge 51, 3) := by decide +kernel
theorem dX9_assignedTo_14 : decode cX9_assignedTo 14 = .ok (.iload_n 2, 1) := by decide +kernel
theorem dX9_assignedTo_15 : decode cX9_assignedTo 15 = .ok (.aload_n 0, 1) := by decide +kernel
theorem dX9_assignedTo_16 : decode cX9_assignedTo 16 = .ok (.iload_n 3, 1) := by decide +kernel
theorem dX9_assignedTo_17 : decode cX9_assignedTo 17 = .ok (.invokevirtual 77, 3) := by decide +kernel
theorem dX9_assignedTo_20 : decode cX9_assignedTo 20 = .ok (.iconst 2, 1) := by decide +kernel
theorem dX9_assignedTo_21 : decode cX9_assignedTo 21 = .ok (.if_icmp .ne 32, 3) := by decide +kernel
theorem dX9_assignedTo_24 : decode cX9_assignedTo 24 = .ok (.aload_n 0, 1) := by decide +kernel
theorem dX9_assignedTo_25 : decode cX9_assignedTo 25 = .ok (.iload_n 3, 1) := by decide +kernel
theorem dX9_assignedTo_26 : decode cX9_assignedTo 26 = .ok (.invokevirtual 70, 3) := by decide +kernel
theorem dX9_assignedTo_29 : decode cX9_assignedTo 29 = .ok (.ifCond .ne 24, 3) := by decide +kernel
theorem dX9_assignedTo_32 : decode cX9_assignedTo 32 = .ok (.aload_n 0, 1) := by decide +kernel
theorem dX9_assignedTo_33 : decode cX9_assignedTo 33 = .ok (.getfield 7, 3) := by decide +kernel
theorem dX9_assignedTo_36 : decode cX9_assignedTo 36 = .ok (.aload_n 0, 1) := by decide +kernel
theorem dX9_assignedTo_37 : decode cX9_assignedTo 37 = .ok (.iload_n 3, 1) := by decide +kernel
theorem dX9_assignedTo_38 : decode cX9_assignedTo 38 = .ok (.invokevirtual 66, 3) := by decide +kernel
theorem dX9_assignedTo_41 : decode cX9_assignedTo 41 = .ok (.bipush 6, 2) := by decide +kernel
theorem dX9_assignedTo_43 : decode cX9_assignedTo 43 = .ok (.iadd, 1) := by decide +kernel
theorem dX9_assignedTo_44 : decode cX9_assignedTo 44 = .ok (.iaload, 1) := by decide +kernel
theorem dX9_assignedTo_45 : decode cX9_assignedTo 45 = .ok (.iload_n 1, 1) := by decide +kernel
theorem dX9_assignedTo_46 : decode cX9_assignedTo 46 = .ok (.if_icmp .ne 7, 3) := by decide +kernel
theorem dX9_assignedTo_49 : decode cX9_assignedTo 49 = .ok (.iconst 1, 1) := by decide +kernel
theorem dX9_assignedTo_50 : decode cX9_assignedTo 50 = .ok (.goto 4, 3) := by decide +kernel
theorem dX9_assignedTo_53 : decode cX9_assignedTo 53 = .ok (.iconst 0, 1) := by decide +kernel
theorem dX9_assignedTo_54 : decode cX9_assignedTo 54 = .ok (.iadd, 1) := by decide +kernel
theorem dX9_assignedTo_55 : decode cX9_assignedTo 55 = .ok (.istore_n 2, 1) := by decide +kernel
theorem dX9_assignedTo_56 : decode cX9_assignedTo 56 = .ok (.iinc 3 1, 3) := by decide +kernel
theorem dX9_assignedTo_59 : decode cX9_assignedTo 59 = .ok (.goto (-55), 3) := by decide +kernel
theorem dX9_assignedTo_62 : decode cX9_assignedTo 62 = .ok (.iload_n 2, 1) := by decide +kernel
theorem dX9_assignedTo_63 : decode cX9_assignedTo 63 = .ok (.ireturn, 1) := by decide +kernel
theorem dX9_has_0 : decode cX9_has 0 = .ok (.aload_n 0, 1) := by decide +kernel
theorem dX9_has_1 : decode cX9_has 1 = .ok (.iload_n 1, 1) := by decide +kernel
theorem dX9_has_2 : decode cX9_has 2 = .ok (.invokevirtual 132, 3) := by decide +kernel
theorem dX9_has_5 : decode cX9_has 5 = .ok (.ifCond .eq 15, 3) := by decide +kernel
theorem dX9_has_8 : decode cX9_has 8 = .ok (.iload_n 2, 1) := by decide +kernel
theorem dX9_has_9 : decode cX9_has 9 = .ok (.i2l, 1) := by decide +kernel
theorem dX9_has_10 : decode cX9_has 10 = .ok (.lconst 0, 1) := by decide +kernel
theorem dX9_has_11 : decode cX9_has 11 = .ok (.ldc2_w 80, 3) := by decide +kernel
theorem dX9_has_14 : decode cX9_has 14 = .ok (.invokestatic 60, 3) := by decide +kernel
theorem dX9_has_17 : decode cX9_has 17 = .ok (.ifCond .ne 6, 3) := by decide +kernel
theorem dX9_has_20 : decode cX9_has 20 = .ok (.ldc 87, 2) := by decide +kernel
theorem dX9_has_22 : decode cX9_has 22 = .ok (.ireturn, 1) := by decide +kernel
theorem dX9_has_23 : decode cX9_has 23 = .ok (.iload_n 2, 1) := by decide +kernel
theorem dX9_has_24 : decode cX9_has 24 = .ok (.iconst 4, 1) := by decide +kernel
theorem dX9_has_25 : decode cX9_has 25 = .ok (.if_icmp .ne 11, 3) := by decide +kernel
theorem dX9_has_28 : decode cX9_has 28 = .ok (.aload_n 0, 1) := by decide +kernel
theorem dX9_has_29 : decode cX9_has 29 = .ok (.iload_n 1, 1) := by decide +kernel
theorem dX9_has_30 : decode cX9_has 30 = .ok (.invokevirtual 135, 3) := by decide +kernel
theorem dX9_has_33 : decode cX9_has 33 = .ok (.goto 15, 3) := by decide +kernel
theorem dX9_has_36 : decode cX9_has 36 = .ok (.aload_n 0, 1) := by decide +kernel
theorem dX9_has_37 : decode cX9_has 37 = .ok (.getfield 7, 3) := by decide +kernel
theorem dX9_has_40 : decode cX9_has 40 = .ok (.aload_n 0, 1) := by decide +kernel
theorem dX9_has_41 : decode cX9_has 41 = .ok (.iload_n 1, 1) := by decide +kernel
theorem dX9_has_42 : decode cX9_has 42 = .ok (.invokevirtual 129, 3) := by decide +kernel
theorem dX9_has_45 : decode cX9_has 45 = .ok (.iload_n 2, 1) := by decide +kernel
theorem dX9_has_46 : decode cX9_has 46 = .ok (.iadd, 1) := by decide +kernel
theorem dX9_has_47 : decode cX9_has 47 = .ok (.iaload, 1) := by decide +kernel
theorem dX9_has_48 : decode cX9_has 48 = .ok (.ireturn, 1) := by decide +kernel
theorem dX9_store_0 : decode cX9_store 0 = .ok (.iload_n 1, 1) := by decide +kernel
theorem dX9_store_1 : decode cX9_store 1 = .ok (.invokestatic 82, 3) := by decide +kernel
theorem dX9_store_4 : decode cX9_store 4 = .ok (.ifCond .eq 27, 3) := by decide +kernel
theorem dX9_store_7 : decode cX9_store 7 = .ok (.iload_n 2, 1) := by decide +kernel
theorem dX9_store_8 : decode cX9_store 8 = .ok (.i2l, 1) := by decide +kernel
theorem dX9_store_9 : decode cX9_store 9 = .ok (.lconst 0, 1) := by decide +kernel
theorem dX9_store_10 : decode cX9_store 10 = .ok (.ldc2_w 138, 3) := by decide +kernel
theorem dX9_store_13 : decode cX9_store 13 = .ok (.invokestatic 60, 3) := by decide +kernel
theorem dX9_store_16 : decode cX9_store 16 = .ok (.ifCond .eq 15, 3) := by decide +kernel
theorem dX9_store_19 : decode cX9_store 19 = .ok (.aload_n 0, 1) := by decide +kernel
theorem dX9_store_20 : decode cX9_store 20 = .ok (.bipush 11, 2) := by decide +kernel
theorem dX9_store_22 : decode cX9_store 22 = .ok (.iload_n 1, 1) := by decide +kernel
theorem dX9_store_23 : decode cX9_store 23 = .ok (.iadd, 1) := by decide +kernel
theorem dX9_store_24 : decode cX9_store 24 = .ok (.iload_n 2, 1) := by decide +kernel
theorem dX9_store_25 : decode cX9_store 25 = .ok (.invokevirtual 107, 3) := by decide +kernel
theorem dX9_store_28 : decode cX9_store 28 = .ok (.goto 5, 3) := by decide +kernel
theorem dX9_store_31 : decode cX9_store 31 = .ok (.ldc 87, 2) := by decide +kernel
theorem dX9_store_33 : decode cX9_store 33 = .ok (.ireturn, 1) := by decide +kernel
theorem dX9_hungry_0 : decode cX9_hungry 0 = .ok (.iload_n 1, 1) := by decide +kernel
theorem dX9_hungry_1 : decode cX9_hungry 1 = .ok (.invokestatic 82, 3) := by decide +kernel
theorem dX9_hungry_4 : decode cX9_hungry 4 = .ok (.ifCond .eq 15, 3) := by decide +kernel
theorem dX9_hungry_7 : decode cX9_hungry 7 = .ok (.aload_n 0, 1) := by decide +kernel
theorem dX9_hungry_8 : decode cX9_hungry 8 = .ok (.getfield 7, 3) := by decide +kernel
theorem dX9_hungry_11 : decode cX9_hungry 11 = .ok (.bipush 17, 2) := by decide +kernel
theorem dX9_hungry_13 : decode cX9_hungry 13 = .ok (.iload_n 1, 1) := by decide +kernel
theorem dX9_hungry_14 : decode cX9_hungry 14 = .ok (.iadd, 1) := by decide +kernel
theorem dX9_hungry_15 : decode cX9_hungry 15 = .ok (.iaload, 1) := by decide +kernel
theorem dX9_hungry_16 : decode cX9_hungry 16 = .ok (.goto 5, 3) := by decide +kernel
theorem dX9_hungry_19 : decode cX9_hungry 19 = .ok (.ldc 87, 2) := by decide +kernel
theorem dX9_hungry_21 : decode cX9_hungry 21 = .ok (.ireturn, 1) := by decide +kernel
theorem dX9_feed_0 : decode cX9_feed 0 = .ok (.aload_n 0, 1) := by decide +kernel
theorem dX9_feed_1 : decode cX9_feed 1 = .ok (.getfield 140, 3) := by decide +kernel
theorem dX9_feed_4 : decode cX9_feed 4 = .ok (.bipush 12, 2) := by decide +kernel
theorem dX9_feed_6 : decode cX9_feed 6 = .ok (.iadd, 1) := by decide +kernel
theorem dX9_feed_7 : decode cX9_feed 7 = .ok (.bipush 96, 2) := by decide +kernel
theorem dX9_feed_9 : decode cX9_feed 9 = .ok (.if_icmp .le 6, 3) := by decide +kernel
theorem dX9_feed_12 : decode cX9_feed 12 = .ok (.ldc 88, 2) := by decide +kernel
theorem dX9_feed_14 : decode cX9_feed 14 = .ok (.ireturn, 1) := by decide +kernel
theorem dX9_feed_15 : decode cX9_feed 15 = .ok (.iconst 0, 1) := by decide +kernel
theorem dX9_feed_16 : decode cX9_feed 16 = .ok (.istore 4, 2) := by decide +kernel
theorem dX9_feed_18 : decode cX9_feed 18 = .ok (.iload 4, 2) := by decide +kernel
theorem dX9_feed_20 : decode cX9_feed 20 = .ok (.bipush 12, 2) := by decide +kernel
theorem dX9_feed_22 : decode cX9_feed 22 = .ok (.if_icmp .ge 69, 3) := by decide +kernel
theorem dX9_feed_25 : decode cX9_feed 25 = .ok (.iload 4, 2) := by decide +kernel
theorem dX9_feed_27 : decode cX9_feed 27 = .ok (.iconst 4, 1) := by decide +kernel
theorem dX9_feed_28 : decode cX9_feed 28 = .ok (.if_icmp .ge 7, 3) := by decide +kernel
theorem dX9_feed_31 : decode cX9_feed 31 = .ok (.iload_n 1, 1) := by decide +kernel
theorem dX9_feed_32 : decode cX9_feed 32 = .ok (.goto 15, 3) := by decide +kernel
theorem dX9_feed_35 : decode cX9_feed 35 = .ok (.iload 4, 2) := by decide +kernel
theorem dX9_feed_37 : decode cX9_feed 37 = .ok (.bipush 8, 2) := by decide +kernel
theorem dX9_feed_39 : decode cX9_feed 39 = .ok (.if_icmp .ge 7, 3) := by decide +kernel
theorem dX9_feed_42 : decode cX9_feed 42 = .ok (.iload_n 2, 1) := by decide +kernel
theorem dX9_feed_43 : decode cX9_feed 43 = .ok (.goto 4, 3) := by decide +kernel
theorem dX9_feed_46 : decode cX9_feed 46 = .ok (.iload_n 3, 1) := by decide +kernel
theorem dX9_feed_47 : decode cX9_feed 47 = .ok (.istore 5, 2) := by decide +kernel
theorem dX9_feed_49 : decode cX9_feed 49 = .ok (.aload_n 0, 1) := by decide +kernel
theorem dX9_feed_50 : decode cX9_feed 50 = .ok (.getfield 28, 3) := by decide +kernel
theorem dX9_feed_53 : decode cX9_feed 53 = .ok (.aload_n 0, 1) := by decide +kernel
theorem dX9_feed_54 : decode cX9_feed 54 = .ok (.getfield 140, 3) := by decide +kernel
theorem dX9_feed_57 : decode cX9_feed 57 = .ok (.iload 5, 2) := by decide +kernel
theorem dX9_feed_59 : decode cX9_feed 59 = .ok (.bipush 24, 2) := by decide +kernel
theorem dX9_feed_61 : decode cX9_feed 61 = .ok (.bipush 8, 2) := by decide +kernel
theorem dX9_feed_63 : decode cX9_feed 63 = .ok (.iload 4, 2) := by decide +kernel
theorem dX9_feed_65 : decode cX9_feed 65 = .ok (.iconst 4, 1) := by decide +kernel
theorem dX9_feed_66 : decode cX9_feed 66 = .ok (.irem, 1) := by decide +kernel
theorem dX9_feed_67 : decode cX9_feed 67 = .ok (.imul, 1) := by decide +kernel
theorem dX9_feed_68 : decode cX9_feed 68 = .ok (.isub, 1) := by decide +kernel
theorem dX9_feed_69 : decode cX9_feed 69 = .ok (.ishr, 1) := by decide +kernel
theorem dX9_feed_70 : decode cX9_feed 70 = .ok (.sipush 255, 3) := by decide +kernel
theorem dX9_feed_73 : decode cX9_feed 73 = .ok (.iand, 1) := by decide +kernel
theorem dX9_feed_74 : decode cX9_feed 74 = .ok (.iastore, 1) := by decide +kernel
theorem dX9_feed_75 : decode cX9_feed 75 = .ok (.aload_n 0, 1) := by decide +kernel
theorem dX9_feed_76 : decode cX9_feed 76 = .ok (.dup, 1) := by decide +kernel
theorem dX9_feed_77 : decode cX9_feed 77 = .ok (.getfield 140, 3) := by decide +kernel
theorem dX9_feed_80 : decode cX9_feed 80 = .ok (.iconst 1, 1) := by decide +kernel
theorem dX9_feed_81 : decode cX9_feed 81 = .ok (.iadd, 1) := by decide +kernel
theorem dX9_feed_82 : decode cX9_feed 82 = .ok (.putfield 140, 3) := by decide +kernel
theorem dX9_feed_85 : decode cX9_feed 85 = .ok (.iinc 4 1, 3) := by decide +kernel
theorem dX9_feed_88 : decode cX9_feed 88 = .ok (.goto (-70), 3) := by decide +kernel
theorem dX9_feed_91 : decode cX9_feed 91 = .ok (.aload_n 0, 1) := by decide +kernel
theorem dX9_feed_92 : decode cX9_feed 92 = .ok (.getfield 140, 3) := by decide +kernel
theorem dX9_feed_95 : decode cX9_feed 95 = .ok (.ireturn, 1) := by decide +kernel
theorem dX9_trim_0 : decode cX9_trim 0 = .ok (.iload_n 1, 1) := by decide +kernel
theorem dX9_trim_1 : decode cX9_trim 1 = .ok (.i2l, 1) := by decide +kernel
theorem dX9_trim_2 : decode cX9_trim 2 = .ok (.lconst 0, 1) := by decide +kernel
theorem dX9_trim_3 : decode cX9_trim 3 = .ok (.aload_n 0, 1) := by decide +kernel
theorem dX9_trim_4 : decode cX9_trim 4 = .ok (.getfield 140, 3) := by decide +kernel
theorem dX9_trim_7 : decode cX9_trim 7 = .ok (.i2l, 1) := by decide +kernel
theorem dX9_trim_8 : decode cX9_trim 8 = .ok (.invokestatic 60, 3) := by decide +kernel
theorem dX9_trim_11 : decode cX9_trim 11 = .ok (.ifCond .ne 6, 3) := by decide +kernel
theorem dX9_trim_14 : decode cX9_trim 14 = .ok (.ldc 87, 2) := by decide +kernel
theorem dX9_trim_16 : decode cX9_trim 16 = .ok (.ireturn, 1) := by decide +kernel
theorem dX9_trim_17 : decode cX9_trim 17 = .ok (.aload_n 0, 1) := by decide +kernel
theorem dX9_trim_18 : decode cX9_trim 18 = .ok (.iload_n 1, 1) := by decide +kernel
theorem dX9_trim_19 : decode cX9_trim 19 = .ok (.putfield 140, 3) := by decide +kernel
theorem dX9_trim_22 : decode cX9_trim 22 = .ok (.iload_n 1, 1) := by decide +kernel
theorem dX9_trim_23 : decode cX9_trim 23 = .ok (.ireturn, 1) := by decide +kernel
theorem dX9_isLetter_0 : decode cX9_isLetter 0 = .ok (.iload_n 1, 1) := by decide +kernel
theorem dX9_isLetter_1 : decode cX9_isLetter 1 = .ok (.aload_n 0, 1) := by decide +kernel
theorem dX9_isLetter_2 : decode cX9_isLetter 2 = .ok (.getfield 140, 3) := by decide +kernel
theorem dX9_isLetter_5 : decode cX9_isLetter 5 = .ok (.if_icmp .ge 26, 3) := by decide +kernel
theorem dX9_isLetter_8 : decode cX9_isLetter 8 = .ok (.aload_n 0, 1) := by decide +kernel
theorem dX9_isLetter_9 : decode cX9_isLetter 9 = .ok (.getfield 28, 3) := by decide +kernel
theorem dX9_isLetter_12 : decode cX9_isLetter 12 = .ok (.iload_n 1, 1) := by decide +kernel
theorem dX9_isLetter_13 : decode cX9_isLetter 13 = .ok (.iaload, 1) := by decide +kernel
theorem dX9_isLetter_14 : decode cX9_isLetter 14 = .ok (.i2l, 1) := by decide +kernel
theorem dX9_isLetter_15 : decode cX9_isLetter 15 = .ok (.ldc2_w 144, 3) := by decide +kernel
theorem dX9_isLetter_18 : decode cX9_isLetter 18 = .ok (.ldc2_w 146, 3) := by decide +kernel
theorem dX9_isLetter_21 : decode cX9_isLetter 21 = .ok (.invokestatic 60, 3) := by decide +kernel
theorem dX9_isLetter_24 : decode cX9_isLetter 24 = .ok (.ifCond .eq 7, 3) := by decide +kernel
theorem dX9_isLetter_27 : decode cX9_isLetter 27 = .ok (.iconst 1, 1) := by decide +kernel
theorem dX9_isLetter_28 : decode cX9_isLetter 28 = .ok (.goto 4, 3) := by decide +kernel
theorem dX9_isLetter_31 : decode cX9_isLetter 31 = .ok (.iconst 0, 1) := by decide +kernel
theorem dX9_isLetter_32 : decode cX9_isLetter 32 = .ok (.ireturn, 1) := by decide +kernel
theorem dX9_isDigit_0 : decode cX9_isDigit 0 = .ok (.iload_n 1, 1) := by decide +kernel
theorem dX9_isDigit_1 : decode cX9_isDigit 1 = .ok (.aload_n 0, 1) := by decide +kernel
theorem dX9_isDigit_2 : decode cX9_isDigit 2 = .ok (.getfield 140, 3) := by decide +kernel
theorem dX9_isDigit_5 : decode cX9_isDigit 5 = .ok (.if_icmp .ge 26, 3) := by decide +kernel
theorem dX9_isDigit_8 : decode cX9_isDigit 8 = .ok (.aload_n 0, 1) := by decide +kernel
theorem dX9_isDigit_9 : decode cX9_isDigit 9 = .ok (.getfield 28, 3) := by decide +kernel
theorem dX9_isDigit_12 : decode cX9_isDigit 12 = .ok (.iload_n 1, 1) := by decide +kernel
theorem dX9_isDigit_13 : decode cX9_isDigit 13 = .ok (.iaload, 1) := by decide +kernel
theorem dX9_isDigit_14 : decode cX9_isDigit 14 = .ok (.i2l, 1) := by decide +kernel
theorem dX9_isDigit_15 : decode cX9_isDigit 15 = .ok (.ldc2_w 148, 3) := by decide +kernel
theorem dX9_isDigit_18 : decode cX9_isDigit 18 = .ok (.ldc2_w 150, 3) := by decide +kernel
theorem dX9_isDigit_21 : decode cX9_isDigit 21 = .ok (.invokestatic 60, 3) := by decide +kernel
theorem dX9_isDigit_24 : decode cX9_isDigit 24 = .ok (.ifCond .eq 7, 3) := by decide +kernel
theorem dX9_isDigit_27 : decode cX9_isDigit 27 = .ok (.iconst 1, 1) := by decide +kernel
theorem dX9_isDigit_28 : decode cX9_isDigit 28 = .ok (.goto 4, 3) := by decide +kernel
theorem dX9_isDigit_31 : decode cX9_isDigit 31 = .ok (.iconst 0, 1) := by decide +kernel
theorem dX9_isDigit_32 : decode cX9_isDigit 32 = .ok (.ireturn, 1) := by decide +kernel
theorem dX9_next_0 : decode cX9_next 0 = .ok (.aload_n 0, 1) := by decide +kernel
theorem dX9_next_1 : decode cX9_next 1 = .ok (.getfield 152, 3) := by decide +kernel
theorem dX9_next_4 : decode cX9_next 4 = .ok (.ifCond .le 23, 3) := by decide +kernel
theorem dX9_next_7 : decode cX9_next 7 = .ok (.aload_n 0, 1) := by decide +kernel
theorem dX9_next_8 : decode cX9_next 8 = .ok (.getfield 155, 3) := by decide +kernel
theorem dX9_next_11 : decode cX9_next 11 = .ok (.iconst 1, 1) := by decide +kernel
theorem dX9_next_12 : decode cX9_next 12 = .ok (.if_icmp .eq 11, 3) := by decide +kernel
theorem dX9_next_15 : decode cX9_next 15 = .ok (.aload_n 0, 1) := by decide +kernel
theorem dX9_next_16 : decode cX9_next 16 = .ok (.getfield 155, 3) := by decide +kernel
theorem dX9_next_19 : decode cX9_next 19 = .ok (.iconst 2, 1) := by decide +kernel
theorem dX9_next_20 : decode cX9_next 20 = .ok (.if_icmp .ne 7, 3) := by decide +kernel
theorem dX9_next_23 : decode cX9_next 23 = .ok (.iconst 1, 1) := by decide +kernel
theorem dX9_next_24 : decode cX9_next 24 = .ok (.goto 4, 3) := by decide +kernel
theorem dX9_next_27 : decode cX9_next 27 = .ok (.iconst 0, 1) := by decide +kernel
theorem dX9_next_28 : decode cX9_next 28 = .ok (.istore_n 1, 1) := by decide +kernel
theorem dX9_next_29 : decode cX9_next 29 = .ok (.aload_n 0, 1) := by decide +kernel
theorem dX9_next_30 : decode cX9_next 30 = .ok (.getfield 152, 3) := by decide +kernel
theorem dX9_next_33 : decode cX9_next 33 = .ok (.istore_n 2, 1) := by decide +kernel
theorem dX9_next_34 : decode cX9_next 34 = .ok (.aload_n 0, 1) := by decide +kernel
theorem dX9_next_35 : decode cX9_next 35 = .ok (.getfield 152, 3) := by decide +kernel
theorem dX9_next_38 : decode cX9_next 38 = .ok (.aload_n 0, 1) := by decide +kernel
theorem dX9_next_39 : decode cX9_next 39 = .ok (.getfield 140, 3) := by decide +kernel
theorem dX9_next_42 : decode cX9_next 42 = .ok (.if_icmp .ge 30, 3) := by decide +kernel
theorem dX9_next_45 : decode cX9_next 45 = .ok (.aload_n 0, 1) := by decide +kernel
theorem dX9_next_46 : decode cX9_next 46 = .ok (.getfield 28, 3) := by decide +kernel
theorem dX9_next_49 : decode cX9_next 49 = .ok (.aload_n 0, 1) := by decide +kernel
theorem dX9_next_50 : decode cX9_next 50 = .ok (.getfield 152, 3) := by decide +kernel
theorem dX9_next_53 : decode cX9_next 53 = .ok (.iaload, 1) := by decide +kernel
theorem dX9_next_54 : decode cX9_next 54 = .ok (.bipush 32, 2) := by decide +kernel
theorem dX9_next_56 : decode cX9_next 56 = .ok (.if_icmp .ne 16, 3) := by decide +kernel
theorem dX9_next_59 : decode cX9_next 59 = .ok (.aload_n 0, 1) := by decide +kernel
theorem dX9_next_60 : decode cX9_next 60 = .ok (.dup, 1) := by decide +kernel
theorem dX9_next_61 : decode cX9_next 61 = .ok (.getfield 152, 3) := by decide +kernel
theorem dX9_next_64 : decode cX9_next 64 = .ok (.iconst 1, 1) := by decide +kernel
theorem dX9_next_65 : decode cX9_next 65 = .ok (.iadd, 1) := by decide +kernel
theorem dX9_next_66 : decode cX9_next 66 = .ok (.putfield 152, 3) := by decide +kernel
theorem dX9_next_69 : decode cX9_next 69 = .ok (.goto (-35), 3) := by decide +kernel
theorem dX9_next_72 : decode cX9_next 72 = .ok (.iload_n 1, 1) := by decide +kernel
theorem dX9_next_73 : decode cX9_next 73 = .ok (.ifCond .eq 15, 3) := by decide +kernel
theorem dX9_next_76 : decode cX9_next 76 = .ok (.iload_n 2, 1) := by decide +kernel
theorem dX9_next_77 : decode cX9_next 77 = .ok (.aload_n 0, 1) := by decide +kernel
theorem dX9_next_78 : decode cX9_next 78 = .ok (.getfield 152, 3) := by decide +kernel
theorem dX9_next_81 : decode cX9_next 81 = .ok (.if_icmp .ne 7, 3) := by decide +kernel
theorem dX9_next_84 : decode cX9_next 84 = .ok (.iconst 1, 1) := by decide +kernel
theorem dX9_next_85 : decode cX9_next 85 = .ok (.goto 4, 3) := by decide +kernel
theorem dX9_next_88 : decode cX9_next 88 = .ok (.iconst 0, 1) := by decide +kernel
theorem dX9_next_89 : decode cX9_next 89 = .ok (.istore_n 1, 1) := by decide +kernel
theorem dX9_next_90 : decode cX9_next 90 = .ok (.aload_n 0, 1) := by decide +kernel
theorem dX9_next_91 : decode cX9_next 91 = .ok (.aload_n 0, 1) := by decide +kernel
theorem dX9_next_92 : decode cX9_next 92 = .ok (.getfield 152, 3) := by decide +kernel
theorem dX9_next_95 : decode cX9_next 95 = .ok (.putfield 158, 3) := by decide +kernel
theorem dX9_next_98 : decode cX9_next 98 = .ok (.aload_n 0, 1) := by decide +kernel
theorem dX9_next_99 : decode cX9_next 99 = .ok (.getfield 158, 3) := by decide +kernel
theorem dX9_next_102 : decode cX9_next 102 = .ok (.aload_n 0, 1) := by decide +kernel
theorem dX9_next_103 : decode cX9_next 103 = .ok (.getfield 140, 3) := by decide +kernel
theorem dX9_next_106 : decode cX9_next 106 = .ok (.if_icmp .ne 11, 3) := by decide +kernel
theorem dX9_next_109 : decode cX9_next 109 = .ok (.aload_n 0, 1) := by decide +kernel
theorem dX9_next_110 : decode cX9_next 110 = .ok (.iconst 0, 1) := by decide +kernel
theorem dX9_next_111 : decode cX9_next 111 = .ok (.putfield 155, 3) := by decide +kernel
theorem dX9_next_114 : decode cX9_next 114 = .ok (.goto 225, 3) := by decide +kernel
theorem dX9_next_117 : decode cX9_next 117 = .ok (.aload_n 0, 1) := by decide +kernel
theorem dX9_next_118 : decode cX9_next 118 = .ok (.aload_n 0, 1) := by decide +kernel
theorem dX9_next_119 : decode cX9_next 119 = .ok (.getfield 158, 3) := by decide +kernel
theorem dX9_next_122 : decode cX9_next 122 = .ok (.invokevirtual 161, 3) := by decide +kernel
theorem dX9_next_125 : decode cX9_next 125 = .ok (.ifCond .eq 73, 3) := by decide +kernel
theorem dX9_next_128 : decode cX9_next 128 = .ok (.aload_n 0, 1) := by decide +kernel
theorem dX9_next_129 : decode cX9_next 129 = .ok (.aload_n 0, 1) := by decide +kernel
theorem dX9_next_130 : decode cX9_next 130 = .ok (.getfield 152, 3) := by decide +kernel
theorem dX9_next_133 : decode cX9_next 133 = .ok (.invokevirtual 161, 3) := by decide +kernel
theorem dX9_next_136 : decode cX9_next 136 = .ok (.ifCond .eq 16, 3) := by decide +kernel
theorem dX9_next_139 : decode cX9_next 139 = .ok (.aload_n 0, 1) := by decide +kernel
theorem dX9_next_140 : decode cX9_next 140 = .ok (.dup, 1) := by decide +kernel
theorem dX9_next_141 : decode cX9_next 141 = .ok (.getfield 152, 3) := by decide +kernel
theorem dX9_next_144 : decode cX9_next 144 = .ok (.iconst 1, 1) := by decide +kernel
theorem dX9_next_145 : decode cX9_next 145 = .ok (.iadd, 1) := by decide +kernel
theorem dX9_next_146 : decode cX9_next 146 = .ok (.putfield 152, 3) := by decide +kernel
theorem dX9_next_149 : decode cX9_next 149 = .ok (.goto (-21), 3) := by decide +kernel
theorem dX9_next_152 : decode cX9_next 152 = .ok (.aload_n 0, 1) := by decide +kernel
theorem dX9_next_153 : decode cX9_next 153 = .ok (.iload_n 1, 1) := by decide +kernel
theorem dX9_next_154 : decode cX9_next 154 = .ok (.ifCond .eq 7, 3) := by decide +kernel
theorem dX9_next_157 : decode cX9_next 157 = .ok (.iconst 4, 1) := by decide +kernel
theorem dX9_next_158 : decode cX9_next 158 = .ok (.goto 4, 3) := by decide +kernel
theorem dX9_next_161 : decode cX9_next 161 = .ok (.iconst 1, 1) := by decide +kernel
theorem dX9_next_162 : decode cX9_next 162 = .ok (.putfield 155, 3) := by decide +kernel
theorem dX9_next_165 : decode cX9_next 165 = .ok (.aload_n 0, 1) := by decide +kernel
theorem dX9_next_166 : decode cX9_next 166 = .ok (.aload_n 0, 1) := by decide +kernel
theorem dX9_next_167 : decode cX9_next 167 = .ok (.getfield 152, 3) := by decide +kernel
theorem dX9_next_170 : decode cX9_next 170 = .ok (.aload_n 0, 1) := by decide +kernel
theorem dX9_next_171 : decode cX9_next 171 = .ok (.getfield 158, 3) := by decide +kernel
theorem dX9_next_174 : decode cX9_next 174 = .ok (.isub, 1) := by decide +kernel
theorem dX9_next_175 : decode cX9_next 175 = .ok (.iconst 1, 1) := by decide +kernel
theorem dX9_next_176 : decode cX9_next 176 = .ok (.if_icmp .ne 15, 3) := by decide +kernel
theorem dX9_next_179 : decode cX9_next 179 = .ok (.aload_n 0, 1) := by decide +kernel
theorem dX9_next_180 : decode cX9_next 180 = .ok (.getfield 28, 3) := by decide +kernel
theorem dX9_next_183 : decode cX9_next 183 = .ok (.aload_n 0, 1) := by decide +kernel
theorem dX9_next_184 : decode cX9_next 184 = .ok (.getfield 158, 3) := by decide +kernel
theorem dX9_next_187 : decode cX9_next 187 = .ok (.iaload, 1) := by decide +kernel
theorem dX9_next_188 : decode cX9_next 188 = .ok (.goto 4, 3) := by decide +kernel
theorem dX9_next_191 : decode cX9_next 191 = .ok (.iconst 0, 1) := by decide +kernel
theorem dX9_next_192 : decode cX9_next 192 = .ok (.putfield 164, 3) := by decide +kernel
theorem dX9_next_195 : decode cX9_next 195 = .ok (.goto 144, 3) := by decide +kernel
theorem dX9_next_198 : decode cX9_next 198 = .ok (.aload_n 0, 1) := by decide +kernel
theorem dX9_next_199 : decode cX9_next 199 = .ok (.aload_n 0, 1) := by decide +kernel
theorem dX9_next_200 : decode cX9_next 200 = .ok (.getfield 158, 3) := by decide +kernel
theorem dX9_next_203 : decode cX9_next 203 = .ok (.invokevirtual 167, 3) := by decide +kernel
theorem dX9_next_206 : decode cX9_next 206 = .ok (.ifCond .eq 105, 3) := by decide +kernel
theorem dX9_next_209 : decode cX9_next 209 = .ok (.aload_n 0, 1) := by decide +kernel
theorem dX9_next_210 : decode cX9_next 210 = .ok (.iconst 0, 1) := by decide +kernel
theorem dX9_next_211 : decode cX9_next 211 = .ok (.putfield 170, 3) := by decide +kernel
theorem dX9_next_214 : decode cX9_next 214 = .ok (.aload_n 0, 1) := by decide +kernel
theorem dX9_next_215 : decode cX9_next 215 = .ok (.aload_n 0, 1) := by decide +kernel
theorem dX9_next_216 : decode cX9_next 216 = .ok (.getfield 152, 3) := by decide +kernel
theorem dX9_next_219 : decode cX9_next 219 = .ok (.invokevirtual 167, 3) := by decide +kernel
theorem dX9_next_222 : decode cX9_next 222 = .ok (.ifCond .eq 60, 3) := by decide +kernel
theorem dX9_next_225 : decode cX9_next 225 = .ok (.aload_n 0, 1) := by decide +kernel
theorem dX9_next_226 : decode cX9_next 226 = .ok (.aload_n 0, 1) := by decide +kernel
theorem dX9_next_227 : decode cX9_next 227 = .ok (.getfield 152, 3) := by decide +kernel
theorem dX9_next_230 : decode cX9_next 230 = .ok (.aload_n 0, 1) := by decide +kernel
theorem dX9_next_231 : decode cX9_next 231 = .ok (.getfield 158, 3) := by decide +kernel
theorem dX9_next_234 : decode cX9_next 234 = .ok (.isub, 1) := by decide +kernel
theorem dX9_next_235 : decode cX9_next 235 = .ok (.iconst 4, 1) := by decide +kernel
theorem dX9_next_236 : decode cX9_next 236 = .ok (.if_icmp .ge 26, 3) := by decide +kernel
theorem dX9_next_239 : decode cX9_next 239 = .ok (.bipush 10, 2) := by decide +kernel
theorem dX9_next_241 : decode cX9_next 241 = .ok (.aload_n 0, 1) := by decide +kernel
theorem dX9_next_242 : decode cX9_next 242 = .ok (.getfield 170, 3) := by decide +kernel
theorem dX9_next_245 : decode cX9_next 245 = .ok (.imul, 1) := by decide +kernel
theorem dX9_next_246 : decode cX9_next 246 = .ok (.aload_n 0, 1) := by decide +kernel
theorem dX9_next_247 : decode cX9_next 247 = .ok (.getfield 28, 3) := by decide +kernel
theorem dX9_next_250 : decode cX9_next 250 = .ok (.aload_n 0, 1) := by decide +kernel
theorem dX9_next_251 : decode cX9_next 251 = .ok (.getfield 152, 3) := by decide +kernel
theorem dX9_next_254 : decode cX9_next 254 = .ok (.iaload, 1) := by decide +kernel
theorem dX9_next_255 : decode cX9_next 255 = .ok (.iadd, 1) := by decide +kernel
theorem dX9_next_256 : decode cX9_next 256 = .ok (.bipush 48, 2) := by decide +kernel
theorem dX9_next_258 : decode cX9_next 258 = .ok (.isub, 1) := by decide +kernel
theorem dX9_next_259 : decode cX9_next 259 = .ok (.goto 7, 3) := by decide +kernel
theorem dX9_next_262 : decode cX9_next 262 = .ok (.aload_n 0, 1) := by decide +kernel
theorem dX9_next_263 : decode cX9_next 263 = .ok (.getfield 170, 3) := by decide +kernel
theorem dX9_next_266 : decode cX9_next 266 = .ok (.putfield 170, 3) := by decide +kernel
theorem dX9_next_269 : decode cX9_next 269 = .ok (.aload_n 0, 1) := by decide +kernel
theorem dX9_next_270 : decode cX9_next 270 = .ok (.dup, 1) := by decide +kernel
theorem dX9_next_271 : decode cX9_next 271 = .ok (.getfield 152, 3) := by decide +kernel
theorem dX9_next_274 : decode cX9_next 274 = .ok (.iconst 1, 1) := by decide +kernel
theorem dX9_next_275 : decode cX9_next 275 = .ok (.iadd, 1) := by decide +kernel
theorem dX9_next_276 : decode cX9_next 276 = .ok (.putfield 152, 3) := by decide +kernel
theorem dX9_next_279 : decode cX9_next 279 = .ok (.goto (-65), 3) := by decide +kernel
theorem dX9_next_282 : decode cX9_next 282 = .ok (.aload_n 0, 1) := by decide +kernel
theorem dX9_next_283 : decode cX9_next 283 = .ok (.iload_n 1, 1) := by decide +kernel
theorem dX9_next_284 : decode cX9_next 284 = .ok (.ifCond .ne 16, 3) := by decide +kernel
theorem dX9_next_287 : decode cX9_next 287 = .ok (.aload_n 0, 1) := by decide +kernel
theorem dX9_next_288 : decode cX9_next 288 = .ok (.getfield 152, 3) := by decide +kernel
theorem dX9_next_291 : decode cX9_next 291 = .ok (.aload_n 0, 1) := by decide +kernel
theorem dX9_next_292 : decode cX9_next 292 = .ok (.getfield 158, 3) := by decide +kernel
theorem dX9_next_295 : decode cX9_next 295 = .ok (.isub, 1) := by decide +kernel
theorem dX9_next_296 : decode cX9_next 296 = .ok (.iconst 4, 1) := by decide +kernel
theorem dX9_next_297 : decode cX9_next 297 = .ok (.if_icmp .le 7, 3) := by decide +kernel
theorem dX9_next_300 : decode cX9_next 300 = .ok (.iconst 4, 1) := by decide +kernel
theorem dX9_next_301 : decode cX9_next 301 = .ok (.goto 4, 3) := by decide +kernel
theorem dX9_next_304 : decode cX9_next 304 = .ok (.iconst 2, 1) := by decide +kernel
theorem dX9_next_305 : decode cX9_next 305 = .ok (.putfield 155, 3) := by decide +kernel
theorem dX9_next_308 : decode cX9_next 308 = .ok (.goto 31, 3) := by decide +kernel
theorem dX9_next_311 : decode cX9_next 311 = .ok (.aload_n 0, 1) := by decide +kernel
theorem dX9_next_312 : decode cX9_next 312 = .ok (.iconst 3, 1) := by decide +kernel
theorem dX9_next_313 : decode cX9_next 313 = .ok (.putfield 155, 3) := by decide +kernel
theorem dX9_next_316 : decode cX9_next 316 = .ok (.aload_n 0, 1) := by decide +kernel
theorem dX9_next_317 : decode cX9_next 317 = .ok (.aload_n 0, 1) := by decide +kernel
theorem dX9_next_318 : decode cX9_next 318 = .ok (.getfield 28, 3) := by decide +kernel
theorem dX9_next_321 : decode cX9_next 321 = .ok (.aload_n 0, 1) := by decide +kernel
theorem dX9_next_322 : decode cX9_next 322 = .ok (.getfield 158, 3) := by decide +kernel
theorem dX9_next_325 : decode cX9_next 325 = .ok (.iaload, 1) := by decide +kernel
theorem dX9_next_326 : decode cX9_next 326 = .ok (.putfield 164, 3) := by decide +kernel
theorem dX9_next_329 : decode cX9_next 329 = .ok (.aload_n 0, 1) := by decide +kernel
theorem dX9_next_330 : decode cX9_next 330 = .ok (.dup, 1) := by decide +kernel
theorem dX9_next_331 : decode cX9_next 331 = .ok (.getfield 152, 3) := by decide +kernel
theorem dX9_next_334 : decode cX9_next 334 = .ok (.iconst 1, 1) := by decide +kernel
theorem dX9_next_335 : decode cX9_next 335 = .ok (.iadd, 1) := by decide +kernel
theorem dX9_next_336 : decode cX9_next 336 = .ok (.putfield 152, 3) := by decide +kernel
theorem dX9_next_339 : decode cX9_next 339 = .ok (.return_, 1) := by decide +kernel
theorem dX9_isSign_0 : decode cX9_isSign 0 = .ok (.aload_n 0, 1) := by decide +kernel
theorem dX9_isSign_1 : decode cX9_isSign 1 = .ok (.getfield 155, 3) := by decide +kernel
theorem dX9_isSign_4 : decode cX9_isSign 4 = .ok (.iconst 3, 1) := by decide +kernel
theorem dX9_isSign_5 : decode cX9_isSign 5 = .ok (.if_icmp .ne 15, 3) := by decide +kernel
theorem dX9_isSign_8 : decode cX9_isSign 8 = .ok (.aload_n 0, 1) := by decide +kernel
theorem dX9_isSign_9 : decode cX9_isSign 9 = .ok (.getfield 164, 3) := by decide +kernel
theorem dX9_isSign_12 : decode cX9_isSign 12 = .ok (.iload_n 1, 1) := by decide +kernel
theorem dX9_isSign_13 : decode cX9_isSign 13 = .ok (.if_icmp .ne 7, 3) := by decide +kernel
theorem dX9_isSign_16 : decode cX9_isSign 16 = .ok (.iconst 1, 1) := by decide +kernel
theorem dX9_isSign_17 : decode cX9_isSign 17 = .ok (.goto 4, 3) := by decide +kernel
theorem dX9_isSign_20 : decode cX9_isSign 20 = .ok (.iconst 0, 1) := by decide +kernel
theorem dX9_isSign_21 : decode cX9_isSign 21 = .ok (.ireturn, 1) := by decide +kernel
theorem dX9_isWordAt_0 : decode cX9_isWordAt 0 = .ok (.aload_n 0, 1) := by decide +kernel
theorem dX9_isWordAt_1 : decode cX9_isWordAt 1 = .ok (.getfield 155, 3) := by decide +kernel
theorem dX9_isWordAt_4 : decode cX9_isWordAt 4 = .ok (.iconst 1, 1) := by decide +kernel
theorem dX9_isWordAt_5 : decode cX9_isWordAt 5 = .ok (.if_icmp .ne 79, 3) := by decide +kernel
theorem dX9_isWordAt_8 : decode cX9_isWordAt 8 = .ok (.aload_n 0, 1) := by decide +kernel
theorem dX9_isWordAt_9 : decode cX9_isWordAt 9 = .ok (.getfield 152, 3) := by decide +kernel
theorem dX9_isWordAt_12 : decode cX9_isWordAt 12 = .ok (.aload_n 0, 1) := by decide +kernel
theorem dX9_isWordAt_13 : decode cX9_isWordAt 13 = .ok (.getfield 158, 3) := by decide +kernel
theorem dX9_isWordAt_16 : decode cX9_isWordAt 16 = .ok (.isub, 1) := by decide +kernel
theorem dX9_isWordAt_17 : decode cX9_isWordAt 17 = .ok (.iconst 4, 1) := by decide +kernel
theorem dX9_isWordAt_18 : decode cX9_isWordAt 18 = .ok (.if_icmp .ne 66, 3) := by decide +kernel
theorem dX9_isWordAt_21 : decode cX9_isWordAt 21 = .ok (.aload_n 0, 1) := by decide +kernel
theorem dX9_isWordAt_22 : decode cX9_isWordAt 22 = .ok (.getfield 28, 3) := by decide +kernel
theorem dX9_isWordAt_25 : decode cX9_isWordAt 25 = .ok (.aload_n 0, 1) := by decide +kernel
theorem dX9_isWordAt_26 : decode cX9_isWordAt 26 = .ok (.getfield 158, 3) := by decide +kernel
theorem dX9_isWordAt_29 : decode cX9_isWordAt 29 = .ok (.iaload, 1) := by decide +kernel
theorem dX9_isWordAt_30 : decode cX9_isWordAt 30 = .ok (.iload_n 1, 1) := by decide +kernel
theorem dX9_isWordAt_31 : decode cX9_isWordAt 31 = .ok (.if_icmp .ne 53, 3) := by decide +kernel
theorem dX9_isWordAt_34 : decode cX9_isWordAt 34 = .ok (.aload_n 0, 1) := by decide +kernel
theorem dX9_isWordAt_35 : decode cX9_isWordAt 35 = .ok (.getfield 28, 3) := by decide +kernel
theorem dX9_isWordAt_38 : decode cX9_isWordAt 38 = .ok (.aload_n 0, 1) := by decide +kernel
theorem dX9_isWordAt_39 : decode cX9_isWordAt 39 = .ok (.getfield 158, 3) := by decide +kernel
theorem dX9_isWordAt_42 : decode cX9_isWordAt 42 = .ok (.iconst 1, 1) := by decide +kernel
theorem dX9_isWordAt_43 : decode cX9_isWordAt 43 = .ok (.iadd, 1) := by decide +kernel
theorem dX9_isWordAt_44 : decode cX9_isWordAt 44 = .ok (.iaload, 1) := by decide +kernel
theorem dX9_isWordAt_45 : decode cX9_isWordAt 45 = .ok (.iload_n 2, 1) := by decide +kernel
theorem dX9_isWordAt_46 : decode cX9_isWordAt 46 = .ok (.if_icmp .ne 38, 3) := by decide +kernel
theorem dX9_isWordAt_49 : decode cX9_isWordAt 49 = .ok (.aload_n 0, 1) := by decide +kernel
theorem dX9_isWordAt_50 : decode cX9_isWordAt 50 = .ok (.getfield 28, 3) := by decide +kernel
theorem dX9_isWordAt_53 : decode cX9_isWordAt 53 = .ok (.aload_n 0, 1) := by decide +kernel
theorem dX9_isWordAt_54 : decode cX9_isWordAt 54 = .ok (.getfield 158, 3) := by decide +kernel
theorem dX9_isWordAt_57 : decode cX9_isWordAt 57 = .ok (.iconst 2, 1) := by decide +kernel
theorem dX9_isWordAt_58 : decode cX9_isWordAt 58 = .ok (.iadd, 1) := by decide +kernel
theorem dX9_isWordAt_59 : decode cX9_isWordAt 59 = .ok (.iaload, 1) := by decide +kernel
theorem dX9_isWordAt_60 : decode cX9_isWordAt 60 = .ok (.iload_n 3, 1) := by decide +kernel
theorem dX9_isWordAt_61 : decode cX9_isWordAt 61 = .ok (.if_icmp .ne 23, 3) := by decide +kernel
theorem dX9_isWordAt_64 : decode cX9_isWordAt 64 = .ok (.aload_n 0, 1) := by decide +kernel
theorem dX9_isWordAt_65 : decode cX9_isWordAt 65 = .ok (.getfield 28, 3) := by decide +kernel
theorem dX9_isWordAt_68 : decode cX9_isWordAt 68 = .ok (.aload_n 0, 1) := by decide +kernel
theorem dX9_isWordAt_69 : decode cX9_isWordAt 69 = .ok (.getfield 158, 3) := by decide +kernel
theorem dX9_isWordAt_72 : decode cX9_isWordAt 72 = .ok (.iconst 3, 1) := by decide +kernel
theorem dX9_isWordAt_73 : decode cX9_isWordAt 73 = .ok (.iadd, 1) := by decide +kernel
theorem dX9_isWordAt_74 : decode cX9_isWordAt 74 = .ok (.iaload, 1) := by decide +kernel
theorem dX9_isWordAt_75 : decode cX9_isWordAt 75 = .ok (.iload 4, 2) := by decide +kernel
theorem dX9_isWordAt_77 : decode cX9_isWordAt 77 = .ok (.if_icmp .ne 7, 3) := by decide +kernel
theorem dX9_isWordAt_80 : decode cX9_isWordAt 80 = .ok (.iconst 1, 1) := by decide +kernel
theorem dX9_isWordAt_81 : decode cX9_isWordAt 81 = .ok (.goto 4, 3) := by decide +kernel
theorem dX9_isWordAt_84 : decode cX9_isWordAt 84 = .ok (.iconst 0, 1) := by decide +kernel
theorem dX9_isWordAt_85 : decode cX9_isWordAt 85 = .ok (.ireturn, 1) := by decide +kernel
theorem dX9_isLong_0 : decode cX9_isLong 0 = .ok (.iload 6, 2) := by decide +kernel
theorem dX9_isLong_2 : decode cX9_isLong 2 = .ok (.ifCond .ne 7, 3) := by decide +kernel
theorem dX9_isLong_5 : decode cX9_isLong 5 = .ok (.iconst 5, 1) := by decide +kernel
theorem dX9_isLong_6 : decode cX9_isLong 6 = .ok (.goto 5, 3) := by decide +kernel
theorem dX9_isLong_9 : decode cX9_isLong 9 = .ok (.bipush 6, 2) := by decide +kernel
theorem dX9_isLong_11 : decode cX9_isLong 11 = .ok (.istore 7, 2) := by decide +kernel
theorem dX9_isLong_13 : decode cX9_isLong 13 = .ok (.aload_n 0, 1) := by decide +kernel
theorem dX9_isLong_14 : decode cX9_isLong 14 = .ok (.getfield 155, 3) := by decide +kernel
theorem dX9_isLong_17 : decode cX9_isLong 17 = .ok (.iconst 1, 1) := by decide +kernel
theorem dX9_isLong_18 : decode cX9_isLong 18 = .ok (.if_icmp .ne 117, 3) := by decide +kernel
theorem dX9_isLong_21 : decode cX9_isLong 21 = .ok (.aload_n 0, 1) := by decide +kernel
theorem dX9_isLong_22 : decode cX9_isLong 22 = .ok (.getfield 152, 3) := by decide +kernel
theorem dX9_isLong_25 : decode cX9_isLong 25 = .ok (.aload_n 0, 1) := by decide +kernel
theorem dX9_isLong_26 : decode cX9_isLong 26 = .ok (.getfield 158, 3) := by decide +kernel
theorem dX9_isLong_29 : decode cX9_isLong 29 = .ok (.isub, 1) := by decide +kernel
theorem dX9_isLong_30 : decode cX9_isLong 30 = .ok (.iload 7, 2) := by decide +kernel
theorem dX9_isLong_32 : decode cX9_isLong 32 = .ok (.if_icmp .ne 103, 3) := by decide +kernel
theorem dX9_isLong_35 : decode cX9_isLong 35 = .ok (.aload_n 0, 1) := by decide +kernel
theorem dX9_isLong_36 : decode cX9_isLong 36 = .ok (.getfield 28, 3) := by decide +kernel
theorem dX9_isLong_39 : decode cX9_isLong 39 = .ok (.aload_n 0, 1) := by decide +kernel
theorem dX9_isLong_40 : decode cX9_isLong 40 = .ok (.getfield 158, 3) := by decide +kernel
theorem dX9_isLong_43 : decode cX9_isLong 43 = .ok (.iaload, 1) := by decide +kernel
theorem dX9_isLong_44 : decode cX9_isLong 44 = .ok (.iload_n 1, 1) := by decide +kernel
theorem dX9_isLong_45 : decode cX9_isLong 45 = .ok (.if_icmp .ne 90, 3) := by decide +kernel
theorem dX9_isLong_48 : decode cX9_isLong 48 = .ok (.aload_n 0, 1) := by decide +kernel
theorem dX9_isLong_49 : decode cX9_isLong 49 = .ok (.getfield 28, 3) := by decide +kernel
theorem dX9_isLong_52 : decode cX9_isLong 52 = .ok (.aload_n 0, 1) := by decide +kernel
theorem dX9_isLong_53 : decode cX9_isLong 53 = .ok (.getfield 158, 3) := by decide +kernel
theorem dX9_isLong_56 : decode cX9_isLong 56 = .ok (.iconst 1, 1) := by decide +kernel
theorem dX9_isLong_57 : decode cX9_isLong 57 = .ok (.iadd, 1) := by decide +kernel
theorem dX9_isLong_58 : decode cX9_isLong 58 = .ok (.iaload, 1) := by decide +kernel
theorem dX9_isLong_59 : decode cX9_isLong 59 = .ok (.iload_n 2, 1) := by decide +kernel
theorem dX9_isLong_60 : decode cX9_isLong 60 = .ok (.if_icmp .ne 75, 3) := by decide +kernel
theorem dX9_isLong_63 : decode cX9_isLong 63 = .ok (.aload_n 0, 1) := by decide +kernel
theorem dX9_isLong_64 : decode cX9_isLong 64 = .ok (.getfield 28, 3) := by decide +kernel
theorem dX9_isLong_67 : decode cX9_isLong 67 = .ok (.aload_n 0, 1) := by decide +kernel
theorem dX9_isLong_68 : decode cX9_isLong 68 = .ok (.getfield 158, 3) := by decide +kernel
theorem dX9_isLong_71 : decode cX9_isLong 71 = .ok (.iconst 2, 1) := by decide +kernel
theorem dX9_isLong_72 : decode cX9_isLong 72 = .ok (.iadd, 1) := by decide +kernel
theorem dX9_isLong_73 : decode cX9_isLong 73 = .ok (.iaload, 1) := by decide +kernel
theorem dX9_isLong_74 : decode cX9_isLong 74 = .ok (.iload_n 3, 1) := by decide +kernel
theorem dX9_isLong_75 : decode cX9_isLong 75 = .ok (.if_icmp .ne 60, 3) := by decide +kernel
theorem dX9_isLong_78 : decode cX9_isLong 78 = .ok (.aload_n 0, 1) := by decide +kernel
theorem dX9_isLong_79 : decode cX9_isLong 79 = .ok (.getfield 28, 3) := by decide +kernel
theorem dX9_isLong_82 : decode cX9_isLong 82 = .ok (.aload_n 0, 1) := by decide +kernel
theorem dX9_isLong_83 : decode cX9_isLong 83 = .ok (.getfield 158, 3) := by decide +kernel
theorem dX9_isLong_86 : decode cX9_isLong 86 = .ok (.iconst 3, 1) := by decide +kernel
theorem dX9_isLong_87 : decode cX9_isLong 87 = .ok (.iadd, 1) := by decide +kernel
theorem dX9_isLong_88 : decode cX9_isLong 88 = .ok (.iaload, 1) := by decide +kernel
theorem dX9_isLong_89 : decode cX9_isLong 89 = .ok (.iload 4, 2) := by decide +kernel
theorem dX9_isLong_91 : decode cX9_isLong 91 = .ok (.if_icmp .ne 44, 3) := by decide +kernel
theorem dX9_isLong_94 : decode cX9_isLong 94 = .ok (.aload_n 0, 1) := by decide +kernel
theorem dX9_isLong_95 : decode cX9_isLong 95 = .ok (.getfield 28, 3) := by decide +kernel
theorem dX9_isLong_98 : decode cX9_isLong 98 = .ok (.aload_n 0, 1) := by decide +kernel
theorem dX9_isLong_99 : decode cX9_isLong 99 = .ok (.getfield 158, 3) := by decide +kernel
theorem dX9_isLong_102 : decode cX9_isLong 102 = .ok (.iconst 4, 1) := by decide +kernel
theorem dX9_isLong_103 : decode cX9_isLong 103 = .ok (.iadd, 1) := by decide +kernel
theorem dX9_isLong_104 : decode cX9_isLong 104 = .ok (.iaload, 1) := by decide +kernel
theorem dX9_isLong_105 : decode cX9_isLong 105 = .ok (.iload 5, 2) := by decide +kernel
theorem dX9_isLong_107 : decode cX9_isLong 107 = .ok (.if_icmp .ne 28, 3) := by decide +kernel
theorem dX9_isLong_110 : decode cX9_isLong 110 = .ok (.iload 6, 2) := by decide +kernel
theorem dX9_isLong_112 : decode cX9_isLong 112 = .ok (.ifCond .eq 19, 3) := by decide +kernel
theorem dX9_isLong_115 : decode cX9_isLong 115 = .ok (.aload_n 0, 1) := by decide +kernel
theorem dX9_isLong_116 : decode cX9_isLong 116 = .ok (.getfield 28, 3) := by decide +kernel
theorem dX9_isLong_119 : decode cX9_isLong 119 = .ok (.aload_n 0, 1) := by decide +kernel
theorem dX9_isLong_120 : decode cX9_isLong 120 = .ok (.getfield 158, 3) := by decide +kernel
theorem dX9_isLong_123 : decode cX9_isLong 123 = .ok (.iconst 5, 1) := by decide +kernel
theorem dX9_isLong_124 : decode cX9_isLong 124 = .ok (.iadd, 1) := by decide +kernel
theorem dX9_isLong_125 : decode cX9_isLong 125 = .ok (.iaload, 1) := by decide +kernel
theorem dX9_isLong_126 : decode cX9_isLong 126 = .ok (.iload 6, 2) := by decide +kernel
theorem dX9_isLong_128 : decode cX9_isLong 128 = .ok (.if_icmp .ne 7, 3) := by decide +kernel
theorem dX9_isLong_131 : decode cX9_isLong 131 = .ok (.iconst 1, 1) := by decide +kernel
theorem dX9_isLong_132 : decode cX9_isLong 132 = .ok (.goto 4, 3) := by decide +kernel
theorem dX9_isLong_135 : decode cX9_isLong 135 = .ok (.iconst 0, 1) := by decide +kernel
theorem dX9_isLong_136 : decode cX9_isLong 136 = .ok (.ireturn, 1) := by decide +kernel
theorem dX9_key_0 : decode cX9_key 0 = .ok (.aload_n 0, 1) := by decide +kernel
theorem dX9_key_1 : decode cX9_key 1 = .ok (.bipush 102, 2) := by decide +kernel
theorem dX9_key_3 : decode cX9_key 3 = .ok (.bipush 101, 2) := by decide +kernel
theorem dX9_key_5 : decode cX9_key 5 = .ok (.bipush 97, 2) := by decide +kernel
theorem dX9_key_7 : decode cX9_key 7 = .ok (.bipush 114, 2) := by decide +kernel
theorem dX9_key_9 : decode cX9_key 9 = .ok (.invokevirtual 173, 3) := by decide +kernel
theorem dX9_key_12 : decode cX9_key 12 = .ok (.ifCond .eq 7, 3) := by decide +kernel
theorem dX9_key_15 : decode cX9_key 15 = .ok (.iconst 3, 1) := by decide +kernel
theorem dX9_key_16 : decode cX9_key 16 = .ok (.goto 45, 3) := by decide +kernel
theorem dX9_key_19 : decode cX9_key 19 = .ok (.aload_n 0, 1) := by decide +kernel
theorem dX9_key_20 : decode cX9_key 20 = .ok (.bipush 115, 2) := by decide +kernel
theorem dX9_key_22 : decode cX9_key 22 = .ok (.bipush 116, 2) := by decide +kernel
theorem dX9_key_24 : decode cX9_key 24 = .ok (.bipush 111, 2) := by decide +kernel
theorem dX9_key_26 : decode cX9_key 26 = .ok (.bipush 112, 2) := by decide +kernel
theorem dX9_key_28 : decode cX9_key 28 = .ok (.invokevirtual 173, 3) := by decide +kernel
theorem dX9_key_31 : decode cX9_key 31 = .ok (.ifCond .eq 7, 3) := by decide +kernel
theorem dX9_key_34 : decode cX9_key 34 = .ok (.iconst 4, 1) := by decide +kernel
theorem dX9_key_35 : decode cX9_key 35 = .ok (.goto 26, 3) := by decide +kernel
theorem dX9_key_38 : decode cX9_key 38 = .ok (.aload_n 0, 1) := by decide +kernel
theorem dX9_key_39 : decode cX9_key 39 = .ok (.bipush 105, 2) := by decide +kernel
theorem dX9_key_41 : decode cX9_key 41 = .ok (.bipush 114, 2) := by decide +kernel
theorem dX9_key_43 : decode cX9_key 43 = .ok (.bipush 111, 2) := by decide +kernel
theorem dX9_key_45 : decode cX9_key 45 = .ok (.bipush 110, 2) := by decide +kernel
theorem dX9_key_47 : decode cX9_key 47 = .ok (.bipush 115, 2) := by decide +kernel
theorem dX9_key_49 : decode cX9_key 49 = .ok (.iconst 0, 1) := by decide +kernel
theorem dX9_key_50 : decode cX9_key 50 = .ok (.invokevirtual 177, 3) := by decide +kernel
theorem dX9_key_53 : decode cX9_key 53 = .ok (.ifCond .eq 7, 3) := by decide +kernel
theorem dX9_key_56 : decode cX9_key 56 = .ok (.iconst 2, 1) := by decide +kernel
theorem dX9_key_57 : decode cX9_key 57 = .ok (.goto 4, 3) := by decide +kernel
theorem dX9_key_60 : decode cX9_key 60 = .ok (.iconst (-1), 1) := by decide +kernel
theorem dX9_key_61 : decode cX9_key 61 = .ok (.istore_n 1, 1) := by decide +kernel
theorem dX9_key_62 : decode cX9_key 62 = .ok (.aload_n 0, 1) := by decide +kernel
theorem dX9_key_63 : decode cX9_key 63 = .ok (.bipush 116, 2) := by decide +kernel
theorem dX9_key_65 : decode cX9_key 65 = .ok (.bipush 105, 2) := by decide +kernel
theorem dX9_key_67 : decode cX9_key 67 = .ok (.bipush 99, 2) := by decide +kernel
theorem dX9_key_69 : decode cX9_key 69 = .ok (.bipush 107, 2) := by decide +kernel
theorem dX9_key_71 : decode cX9_key 71 = .ok (.bipush 101, 2) := by decide +kernel
theorem dX9_key_73 : decode cX9_key 73 = .ok (.bipush 116, 2) := by decide +kernel
theorem dX9_key_75 : decode cX9_key 75 = .ok (.invokevirtual 177, 3) := by decide +kernel
theorem dX9_key_78 : decode cX9_key 78 = .ok (.ifCond .eq 7, 3) := by decide +kernel
theorem dX9_key_81 : decode cX9_key 81 = .ok (.iconst 0, 1) := by decide +kernel
theorem dX9_key_82 : decode cX9_key 82 = .ok (.goto 27, 3) := by decide +kernel
theorem dX9_key_85 : decode cX9_key 85 = .ok (.aload_n 0, 1) := by decide +kernel
theorem dX9_key_86 : decode cX9_key 86 = .ok (.bipush 112, 2) := by decide +kernel
theorem dX9_key_88 : decode cX9_key 88 = .ok (.bipush 97, 2) := by decide +kernel
theorem dX9_key_90 : decode cX9_key 90 = .ok (.bipush 114, 2) := by decide +kernel
theorem dX9_key_92 : decode cX9_key 92 = .ok (.bipush 100, 2) := by decide +kernel
theorem dX9_key_94 : decode cX9_key 94 = .ok (.bipush 111, 2) := by decide +kernel
theorem dX9_key_96 : decode cX9_key 96 = .ok (.bipush 110, 2) := by decide +kernel
theorem dX9_key_98 : decode cX9_key 98 = .ok (.invokevirtual 177, 3) := by decide +kernel
theorem dX9_key_101 : decode cX9_key 101 = .ok (.ifCond .eq 7, 3) := by decide +kernel
theorem dX9_key_104 : decode cX9_key 104 = .ok (.iconst 1, 1) := by decide +kernel
theorem dX9_key_105 : decode cX9_key 105 = .ok (.goto 4, 3) := by decide +kernel
theorem dX9_key_108 : decode cX9_key 108 = .ok (.iload_n 1, 1) := by decide +kernel
theorem dX9_key_109 : decode cX9_key 109 = .ok (.ireturn, 1) := by decide +kernel
theorem dX9_isName_0 : decode cX9_isName 0 = .ok (.iload_n 0, 1) := by decide +kernel
theorem dX9_isName_1 : decode cX9_isName 1 = .ok (.tableswitch 97 0 3 #[31, 31, 55, 73], 31) := by decide +kernel
theorem dX9_isName_32 : decode cX9_isName 32 = .ok (.iload_n 1, 1) := by decide +kernel
theorem dX9_isName_33 : decode cX9_isName 33 = .ok (.bipush 119, 2) := by decide +kernel
theorem dX9_isName_35 : decode cX9_isName 35 = .ok (.if_icmp .eq 15, 3) := by decide +kernel
theorem dX9_isName_38 : decode cX9_isName 38 = .ok (.iload_n 1, 1) := by decide +kernel
theorem dX9_isName_39 : decode cX9_isName 39 = .ok (.bipush 109, 2) := by decide +kernel
theorem dX9_isName_41 : decode cX9_isName 41 = .ok (.if_icmp .eq 9, 3) := by decide +kernel
theorem dX9_isName_44 : decode cX9_isName 44 = .ok (.iload_n 1, 1) := by decide +kernel
theorem dX9_isName_45 : decode cX9_isName 45 = .ok (.bipush 116, 2) := by decide +kernel
theorem dX9_isName_47 : decode cX9_isName 47 = .ok (.if_icmp .ne 7, 3) := by decide +kernel
theorem dX9_isName_50 : decode cX9_isName 50 = .ok (.iconst 1, 1) := by decide +kernel
theorem dX9_isName_51 : decode cX9_isName 51 = .ok (.goto 4, 3) := by decide +kernel
theorem dX9_isName_54 : decode cX9_isName 54 = .ok (.iconst 0, 1) := by decide +kernel
theorem dX9_isName_55 : decode cX9_isName 55 = .ok (.ireturn, 1) := by decide +kernel
theorem dX9_isName_56 : decode cX9_isName 56 = .ok (.iload_n 1, 1) := by decide +kernel
theorem dX9_isName_57 : decode cX9_isName 57 = .ok (.bipush 111, 2) := by decide +kernel
theorem dX9_isName_59 : decode cX9_isName 59 = .ok (.if_icmp .eq 9, 3) := by decide +kernel
theorem dX9_isName_62 : decode cX9_isName 62 = .ok (.iload_n 1, 1) := by decide +kernel
theorem dX9_isName_63 : decode cX9_isName 63 = .ok (.bipush 109, 2) := by decide +kernel
theorem dX9_isName_65 : decode cX9_isName 65 = .ok (.if_icmp .ne 7, 3) := by decide +kernel
theorem dX9_isName_68 : decode cX9_isName 68 = .ok (.iconst 1, 1) := by decide +kernel
theorem dX9_isName_69 : decode cX9_isName 69 = .ok (.goto 4, 3) := by decide +kernel
theorem dX9_isName_72 : decode cX9_isName 72 = .ok (.iconst 0, 1) := by decide +kernel
theorem dX9_isName_73 : decode cX9_isName 73 = .ok (.ireturn, 1) := by decide +kernel
theorem dX9_isName_74 : decode cX9_isName 74 = .ok (.iload_n 1, 1) := by decide +kernel
theorem dX9_isName_75 : decode cX9_isName 75 = .ok (.bipush 107, 2) := by decide +kernel
theorem dX9_isName_77 : decode cX9_isName 77 = .ok (.if_icmp .eq 15, 3) := by decide +kernel
theorem dX9_isName_80 : decode cX9_isName 80 = .ok (.iload_n 1, 1) := by decide +kernel
theorem dX9_isName_81 : decode cX9_isName 81 = .ok (.bipush 109, 2) := by decide +kernel
theorem dX9_isName_83 : decode cX9_isName 83 = .ok (.if_icmp .eq 9, 3) := by decide +kernel
theorem dX9_isName_86 : decode cX9_isName 86 = .ok (.iload_n 1, 1) := by decide +kernel
theorem dX9_isName_87 : decode cX9_isName 87 = .ok (.bipush 112, 2) := by decide +kernel
theorem dX9_isName_89 : decode cX9_isName 89 = .ok (.if_icmp .ne 7, 3) := by decide +kernel
theorem dX9_isName_92 : decode cX9_isName 92 = .ok (.iconst 1, 1) := by decide +kernel
theorem dX9_isName_93 : decode cX9_isName 93 = .ok (.goto 4, 3) := by decide +kernel
theorem dX9_isName_96 : decode cX9_isName 96 = .ok (.iconst 0, 1) := by decide +kernel
theorem dX9_isName_97 : decode cX9_isName 97 = .ok (.ireturn, 1) := by decide +kernel
theorem dX9_isName_98 : decode cX9_isName 98 = .ok (.iload_n 1, 1) := by decide +kernel
theorem dX9_isName_99 : decode cX9_isName 99 = .ok (.bipush 101, 2) := by decide +kernel
theorem dX9_isName_101 : decode cX9_isName 101 = .ok (.if_icmp .eq 9, 3) := by decide +kernel
theorem dX9_isName_104 : decode cX9_isName 104 = .ok (.iload_n 1, 1) := by decide +kernel
theorem dX9_isName_105 : decode cX9_isName 105 = .ok (.bipush 100, 2) := by decide +kernel
theorem dX9_isName_107 : decode cX9_isName 107 = .ok (.if_icmp .ne 7, 3) := by decide +kernel
theorem dX9_isName_110 : decode cX9_isName 110 = .ok (.iconst 1, 1) := by decide +kernel
theorem dX9_isName_111 : decode cX9_isName 111 = .ok (.goto 4, 3) := by decide +kernel
theorem dX9_isName_114 : decode cX9_isName 114 = .ok (.iconst 0, 1) := by decide +kernel
theorem dX9_isName_115 : decode cX9_isName 115 = .ok (.ireturn, 1) := by decide +kernel
theorem dX9_step_0 : decode cX9_step 0 = .ok (.aload_n 0, 1) := by decide +kernel
theorem dX9_step_1 : decode cX9_step 1 = .ok (.getfield 7, 3) := by decide +kernel
theorem dX9_step_4 : decode cX9_step 4 = .ok (.aload_n 0, 1) := by decide +kernel
theorem dX9_step_5 : decode cX9_step 5 = .ok (.getfield 181, 3) := by decide +kernel
theorem dX9_step_8 : decode cX9_step 8 = .ok (.iconst 2, 1) := by decide +kernel
theorem dX9_step_9 : decode cX9_step 9 = .ok (.aload_n 0, 1) := by decide +kernel
theorem dX9_step_10 : decode cX9_step 10 = .ok (.getfield 184, 3) := by decide +kernel
theorem dX9_step_13 : decode cX9_step 13 = .ok (.imul, 1) := by decide +kernel
theorem dX9_step_14 : decode cX9_step 14 = .ok (.iadd, 1) := by decide +kernel
theorem dX9_step_15 : decode cX9_step 15 = .ok (.iload_n 1, 1) := by decide +kernel
theorem dX9_step_16 : decode cX9_step 16 = .ok (.iastore, 1) := by decide +kernel
theorem dX9_step_17 : decode cX9_step 17 = .ok (.aload_n 0, 1) := by decide +kernel
theorem dX9_step_18 : decode cX9_step 18 = .ok (.getfield 7, 3) := by decide +kernel
theorem dX9_step_21 : decode cX9_step 21 = .ok (.aload_n 0, 1) := by decide +kernel
theorem dX9_step_22 : decode cX9_step 22 = .ok (.getfield 181, 3) := by decide +kernel
theorem dX9_step_25 : decode cX9_step 25 = .ok (.iconst 2, 1) := by decide +kernel
theorem dX9_step_26 : decode cX9_step 26 = .ok (.aload_n 0, 1) := by decide +kernel
theorem dX9_step_27 : decode cX9_step 27 = .ok (.getfield 184, 3) := by decide +kernel
theorem dX9_step_30 : decode cX9_step 30 = .ok (.imul, 1) := by decide +kernel
theorem dX9_step_31 : decode cX9_step 31 = .ok (.iadd, 1) := by decide +kernel
theorem dX9_step_32 : decode cX9_step 32 = .ok (.iconst 1, 1) := by decide +kernel
theorem dX9_step_33 : decode cX9_step 33 = .ok (.iadd, 1) := by decide +kernel
theorem dX9_step_34 : decode cX9_step 34 = .ok (.iload_n 2, 1) := by decide +kernel
theorem dX9_step_35 : decode cX9_step 35 = .ok (.iastore, 1) := by decide +kernel
theorem dX9_step_36 : decode cX9_step 36 = .ok (.aload_n 0, 1) := by decide +kernel
theorem dX9_step_37 : decode cX9_step 37 = .ok (.dup, 1) := by decide +kernel
theorem dX9_step_38 : decode cX9_step 38 = .ok (.getfield 184, 3) := by decide +kernel
theorem dX9_step_41 : decode cX9_step 41 = .ok (.iconst 1, 1) := by decide +kernel
theorem dX9_step_42 : decode cX9_step 42 = .ok (.iadd, 1) := by decide +kernel
theorem dX9_step_43 : decode cX9_step 43 = .ok (.putfield 184, 3) := by decide +kernel
theorem dX9_step_46 : decode cX9_step 46 = .ok (.return_, 1) := by decide +kernel
theorem dX9_either_0 : decode cX9_either 0 = .ok (.aload_n 0, 1) := by decide +kernel
theorem dX9_either_1 : decode cX9_either 1 = .ok (.iload_n 1, 1) := by decide +kernel
theorem dX9_either_2 : decode cX9_either 2 = .ok (.invokevirtual 187, 3) := by decide +kernel
theorem dX9_either_5 : decode cX9_either 5 = .ok (.ifCond .ne 5, 3) := by decide +kernel
theorem dX9_either_8 : decode cX9_either 8 = .ok (.iconst 0, 1) := by decide +kernel
theorem dX9_either_9 : decode cX9_either 9 = .ok (.ireturn, 1) := by decide +kernel
theorem dX9_either_10 : decode cX9_either 10 = .ok (.aload_n 0, 1) := by decide +kernel
theorem dX9_either_11 : decode cX9_either 11 = .ok (.bipush 124, 2) := by decide +kernel
theorem dX9_either_13 : decode cX9_either 13 = .ok (.invokevirtual 190, 3) := by decide +kernel
theorem dX9_either_16 : decode cX9_either 16 = .ok (.ifCond .eq 27, 3) := by decide +kernel
theorem dX9_either_19 : decode cX9_either 19 = .ok (.aload_n 0, 1) := by decide +kernel
theorem dX9_either_20 : decode cX9_either 20 = .ok (.invokevirtual 193, 3) := by decide +kernel
theorem dX9_either_23 : decode cX9_either 23 = .ok (.aload_n 0, 1) := by decide +kernel
theorem dX9_either_24 : decode cX9_either 24 = .ok (.iload_n 1, 1) := by decide +kernel
theorem dX9_either_25 : decode cX9_either 25 = .ok (.invokevirtual 187, 3) := by decide +kernel
theorem dX9_either_28 : decode cX9_either 28 = .ok (.ifCond .ne 5, 3) := by decide +kernel
theorem dX9_either_31 : decode cX9_either 31 = .ok (.iconst 0, 1) := by decide +kernel
theorem dX9_either_32 : decode cX9_either 32 = .ok (.ireturn, 1) := by decide +kernel
theorem dX9_either_33 : decode cX9_either 33 = .ok (.aload_n 0, 1) := by decide +kernel
theorem dX9_either_34 : decode cX9_either 34 = .ok (.iconst 2, 1) := by decide +kernel
theorem dX9_either_35 : decode cX9_either 35 = .ok (.bipush 124, 2) := by decide +kernel
theorem dX9_either_37 : decode cX9_either 37 = .ok (.invokevirtual 196, 3) := by decide +kernel
theorem dX9_either_40 : decode cX9_either 40 = .ok (.goto (-30), 3) := by decide +kernel
theorem dX9_either_43 : decode cX9_either 43 = .ok (.iconst 1, 1) := by decide +kernel
theorem dX9_either_44 : decode cX9_either 44 = .ok (.ireturn, 1) := by decide +kernel
theorem dX9_both_0 : decode cX9_both 0 = .ok (.aload_n 0, 1) := by decide +kernel
theorem dX9_both_1 : decode cX9_both 1 = .ok (.iload_n 1, 1) := by decide +kernel
theorem dX9_both_2 : decode cX9_both 2 = .ok (.invokevirtual 200, 3) := by decide +kernel
theorem dX9_both_5 : decode cX9_both 5 = .ok (.ifCond .ne 5, 3) := by decide +kernel
theorem dX9_both_8 : decode cX9_both 8 = .ok (.iconst 0, 1) := by decide +kernel
theorem dX9_both_9 : decode cX9_both 9 = .ok (.ireturn, 1) := by decide +kernel
theorem dX9_both_10 : decode cX9_both 10 = .ok (.aload_n 0, 1) := by decide +kernel
theorem dX9_both_11 : decode cX9_both 11 = .ok (.bipush 38, 2) := by decide +kernel
theorem dX9_both_13 : decode cX9_both 13 = .ok (.invokevirtual 190, 3) := by decide +kernel
theorem dX9_both_16 : decode cX9_both 16 = .ok (.ifCond .eq 27, 3) := by decide +kernel
theorem dX9_both_19 : decode cX9_both 19 = .ok (.aload_n 0, 1) := by decide +kernel
theorem dX9_both_20 : decode cX9_both 20 = .ok (.invokevirtual 193, 3) := by decide +kernel
theorem dX9_both_23 : decode cX9_both 23 = .ok (.aload_n 0, 1) := by decide +kernel
theorem dX9_both_24 : decode cX9_both 24 = .ok (.iload_n 1, 1) := by decide +kernel
theorem dX9_both_25 : decode cX9_both 25 = .ok (.invokevirtual 200, 3) := by decide +kernel
theorem dX9_both_28 : decode cX9_both 28 = .ok (.ifCond .ne 5, 3) := by decide +kernel
theorem dX9_both_31 : decode cX9_both 31 = .ok (.iconst 0, 1) := by decide +kernel
theorem dX9_both_32 : decode cX9_both 32 = .ok (.ireturn, 1) := by decide +kernel
theorem dX9_both_33 : decode cX9_both 33 = .ok (.aload_n 0, 1) := by decide +kernel
theorem dX9_both_34 : decode cX9_both 34 = .ok (.iconst 2, 1) := by decide +kernel
theorem dX9_both_35 : decode cX9_both 35 = .ok (.bipush 38, 2) := by decide +kernel
theorem dX9_both_37 : decode cX9_both 37 = .ok (.invokevirtual 196, 3) := by decide +kernel
theorem dX9_both_40 : decode cX9_both 40 = .ok (.goto (-30), 3) := by decide +kernel
theorem dX9_both_43 : decode cX9_both 43 = .ok (.iconst 1, 1) := by decide +kernel
theorem dX9_both_44 : decode cX9_both 44 = .ok (.ireturn, 1) := by decide +kernel
theorem dX9_test_0 : decode cX9_test 0 = .ok (.aload_n 0, 1) := by decide +kernel
theorem dX9_test_1 : decode cX9_test 1 = .ok (.iload_n 1, 1) := by decide +kernel
theorem dX9_test_2 : decode cX9_test 2 = .ok (.invokevirtual 203, 3) := by decide +kernel
theorem dX9_test_5 : decode cX9_test 5 = .ok (.ifCond .ne 5, 3) := by decide +kernel
theorem dX9_test_8 : decode cX9_test 8 = .ok (.iconst 0, 1) := by decide +kernel
theorem dX9_test_9 : decode cX9_test 9 = .ok (.ireturn, 1) := by decide +kernel
theorem dX9_test_10 : decode cX9_test 10 = .ok (.aload_n 0, 1) := by decide +kernel
theorem dX9_test_11 : decode cX9_test 11 = .ok (.bipush 60, 2) := by decide +kernel
theorem dX9_test_13 : decode cX9_test 13 = .ok (.invokevirtual 190, 3) := by decide +kernel
theorem dX9_test_16 : decode cX9_test 16 = .ok (.ifCond .ne 21, 3) := by decide +kernel
theorem dX9_test_19 : decode cX9_test 19 = .ok (.aload_n 0, 1) := by decide +kernel
theorem dX9_test_20 : decode cX9_test 20 = .ok (.bipush 61, 2) := by decide +kernel
theorem dX9_test_22 : decode cX9_test 22 = .ok (.invokevirtual 190, 3) := by decide +kernel
theorem dX9_test_25 : decode cX9_test 25 = .ok (.ifCond .ne 12, 3) := by decide +kernel
theorem dX9_test_28 : decode cX9_test 28 = .ok (.aload_n 0, 1) := by decide +kernel
theorem dX9_test_29 : decode cX9_test 29 = .ok (.bipush 62, 2) := by decide +kernel
theorem dX9_test_31 : decode cX9_test 31 = .ok (.invokevirtual 190, 3) := by decide +kernel
theorem dX9_test_34 : decode cX9_test 34 = .ok (.ifCond .eq 28, 3) := by decide +kernel
theorem dX9_test_37 : decode cX9_test 37 = .ok (.aload_n 0, 1) := by decide +kernel
theorem dX9_test_38 : decode cX9_test 38 = .ok (.getfield 164, 3) := by decide +kernel
theorem dX9_test_41 : decode cX9_test 41 = .ok (.istore_n 2, 1) := by decide +kernel
theorem dX9_test_42 : decode cX9_test 42 = .ok (.aload_n 0, 1) := by decide +kernel
theorem dX9_test_43 : decode cX9_test 43 = .ok (.invokevirtual 193, 3) := by decide +kernel
theorem dX9_test_46 : decode cX9_test 46 = .ok (.aload_n 0, 1) := by decide +kernel
theorem dX9_test_47 : decode cX9_test 47 = .ok (.iload_n 1, 1) := by decide +kernel
theorem dX9_test_48 : decode cX9_test 48 = .ok (.invokevirtual 203, 3) := by decide +kernel
theorem dX9_test_51 : decode cX9_test 51 = .ok (.ifCond .ne 5, 3) := by decide +kernel
theorem dX9_test_54 : decode cX9_test 54 = .ok (.iconst 0, 1) := by decide +kernel
theorem dX9_test_55 : decode cX9_test 55 = .ok (.ireturn, 1) := by decide +kernel
theorem dX9_test_56 : decode cX9_test 56 = .ok (.aload_n 0, 1) := by decide +kernel
theorem dX9_test_57 : decode cX9_test 57 = .ok (.iconst 2, 1) := by decide +kernel
theorem dX9_test_58 : decode cX9_test 58 = .ok (.iload_n 2, 1) := by decide +kernel
theorem dX9_test_59 : decode cX9_test 59 = .ok (.invokevirtual 196, 3) := by decide +kernel
theorem dX9_test_62 : decode cX9_test 62 = .ok (.iconst 1, 1) := by decide +kernel
theorem dX9_test_63 : decode cX9_test 63 = .ok (.ireturn, 1) := by decide +kernel
theorem dX9_sum_0 : decode cX9_sum 0 = .ok (.aload_n 0, 1) := by decide +kernel
theorem dX9_sum_1 : decode cX9_sum 1 = .ok (.iload_n 1, 1) := by decide +kernel
theorem dX9_sum_2 : decode cX9_sum 2 = .ok (.invokevirtual 206, 3) := by decide +kernel
theorem dX9_sum_5 : decode cX9_sum 5 = .ok (.ifCond .ne 5, 3) := by decide +kernel
theorem dX9_sum_8 : decode cX9_sum 8 = .ok (.iconst 0, 1) := by decide +kernel
theorem dX9_sum_9 : decode cX9_sum 9 = .ok (.ireturn, 1) := by decide +kernel
theorem dX9_sum_10 : decode cX9_sum 10 = .ok (.aload_n 0, 1) := by decide +kernel
theorem dX9_sum_11 : decode cX9_sum 11 = .ok (.bipush 43, 2) := by decide +kernel
theorem dX9_sum_13 : decode cX9_sum 13 = .ok (.invokevirtual 190, 3) := by decide +kernel
theorem dX9_sum_16 : decode cX9_sum 16 = .ok (.ifCond .ne 12, 3) := by decide +kernel
theorem dX9_sum_19 : decode cX9_sum 19 = .ok (.aload_n 0, 1) := by decide +kernel
theorem dX9_sum_20 : decode cX9_sum 20 = .ok (.bipush 45, 2) := by decide +kernel
theorem dX9_sum_22 : decode cX9_sum 22 = .ok (.invokevirtual 190, 3) := by decide +kernel
theorem dX9_sum_25 : decode cX9_sum 25 = .ok (.ifCond .eq 31, 3) := by decide +kernel
theorem dX9_sum_28 : decode cX9_sum 28 = .ok (.aload_n 0, 1) := by decide +kernel
theorem dX9_sum_29 : decode cX9_sum 29 = .ok (.getfield 164, 3) := by decide +kernel
theorem dX9_sum_32 : decode cX9_sum 32 = .ok (.istore_n 2, 1) := by decide +kernel
theorem dX9_sum_33 : decode cX9_sum 33 = .ok (.aload_n 0, 1) := by decide +kernel
theorem dX9_sum_34 : decode cX9_sum 34 = .ok (.invokevirtual 193, 3) := by decide +kernel
theorem dX9_sum_37 : decode cX9_sum 37 = .ok (.aload_n 0, 1) := by decide +kernel
theorem dX9_sum_38 : decode cX9_sum 38 = .ok (.iload_n 1, 1) := by decide +kernel
theorem dX9_sum_39 : decode cX9_sum 39 = .ok (.invokevirtual 206, 3) := by decide +kernel
theorem dX9_sum_42 : decode cX9_sum 42 = .ok (.ifCond .ne 5, 3) := by decide +kernel
theorem dX9_sum_45 : decode cX9_sum 45 = .ok (.iconst 0, 1) := by decide +kernel
theorem dX9_sum_46 : decode cX9_sum 46 = .ok (.ireturn, 1) := by decide +kernel
theorem dX9_sum_47 : decode cX9_sum 47 = .ok (.aload_n 0, 1) := by decide +kernel
theorem dX9_sum_48 : decode cX9_sum 48 = .ok (.iconst 2, 1) := by decide +kernel
theorem dX9_sum_49 : decode cX9_sum 49 = .ok (.iload_n 2, 1) := by decide +kernel
theorem dX9_sum_50 : decode cX9_sum 50 = .ok (.invokevirtual 196, 3) := by decide +kernel
theorem dX9_sum_53 : decode cX9_sum 53 = .ok (.goto (-43), 3) := by decide +kernel
theorem dX9_sum_56 : decode cX9_sum 56 = .ok (.iconst 1, 1) := by decide +kernel
theorem dX9_sum_57 : decode cX9_sum 57 = .ok (.ireturn, 1) := by decide +kernel
theorem dX9_term__0 : decode cX9_term_ 0 = .ok (.aload_n 0, 1) := by decide +kernel
theorem dX9_term__1 : decode cX9_term_ 1 = .ok (.iload_n 1, 1) := by decide +kernel
theorem dX9_term__2 : decode cX9_term_ 2 = .ok (.invokevirtual 209, 3) := by decide +kernel
theorem dX9_term__5 : decode cX9_term_ 5 = .ok (.ifCond .ne 5, 3) := by decide +kernel
theorem dX9_term__8 : decode cX9_term_ 8 = .ok (.iconst 0, 1) := by decide +kernel
theorem dX9_term__9 : decode cX9_term_ 9 = .ok (.ireturn, 1) := by decide +kernel
theorem dX9_term__10 : decode cX9_term_ 10 = .ok (.aload_n 0, 1) := by decide +kernel
theorem dX9_term__11 : decode cX9_term_ 11 = .ok (.bipush 42, 2) := by decide +kernel
theorem dX9_term__13 : decode cX9_term_ 13 = .ok (.invokevirtual 190, 3) := by decide +kernel
theorem dX9_term__16 : decode cX9_term_ 16 = .ok (.ifCond .ne 12, 3) := by decide +kernel
theorem dX9_term__19 : decode cX9_term_ 19 = .ok (.aload_n 0, 1) := by decide +kernel
theorem dX9_term__20 : decode cX9_term_ 20 = .ok (.bipush 47, 2) := by decide +kernel
theorem dX9_term__22 : decode cX9_term_ 22 = .ok (.invokevirtual 190, 3) := by decide +kernel
theorem dX9_term__25 : decode cX9_term_ 25 = .ok (.ifCond .eq 31, 3) := by decide +kernel
theorem dX9_term__28 : decode cX9_term_ 28 = .ok (.aload_n 0, 1) := by decide +kernel
theorem dX9_term__29 : decode cX9_term_ 29 = .ok (.getfield 164, 3) := by decide +kernel
theorem dX9_term__32 : decode cX9_term_ 32 = .ok (.istore_n 2, 1) := by decide +kernel
theorem dX9_term__33 : decode cX9_term_ 33 = .ok (.aload_n 0, 1) := by decide +kernel
theorem dX9_term__34 : decode cX9_term_ 34 = .ok (.invokevirtual 193, 3) := by decide +kernel
theorem dX9_term__37 : decode cX9_term_ 37 = .ok (.aload_n 0, 1) := by decide +kernel
theorem dX9_term__38 : decode cX9_term_ 38 = .ok (.iload_n 1, 1) := by decide +kernel
theorem dX9_term__39 : decode cX9_term_ 39 = .ok (.invokevirtual 209, 3) := by decide +kernel
theorem dX9_term__42 : decode cX9_term_ 42 = .ok (.ifCond .ne 5, 3) := by decide +kernel
theorem dX9_term__45 : decode cX9_term_ 45 = .ok (.iconst 0, 1) := by decide +kernel
theorem dX9_term__46 : decode cX9_term_ 46 = .ok (.ireturn, 1) := by decide +kernel
theorem dX9_term__47 : decode cX9_term_ 47 = .ok (.aload_n 0, 1) := by decide +kernel
theorem dX9_term__48 : decode cX9_term_ 48 = .ok (.iconst 2, 1) := by decide +kernel
theorem dX9_term__49 : decode cX9_term_ 49 = .ok (.iload_n 2, 1) := by decide +kernel
theorem dX9_term__50 : decode cX9_term_ 50 = .ok (.invokevirtual 196, 3) := by decide +kernel
theorem dX9_term__53 : decode cX9_term_ 53 = .ok (.goto (-43), 3) := by decide +kernel
theorem dX9_term__56 : decode cX9_term_ 56 = .ok (.iconst 1, 1) := by decide +kernel
theorem dX9_term__57 : decode cX9_term_ 57 = .ok (.ireturn, 1) := by decide +kernel
theorem dX9_part0_0 : decode cX9_part0 0 = .ok (.aload_n 0, 1) := by decide +kernel
theorem dX9_part0_1 : decode cX9_part0 1 = .ok (.getfield 155, 3) := by decide +kernel
theorem dX9_part0_4 : decode cX9_part0 4 = .ok (.iconst 2, 1) := by decide +kernel
theorem dX9_part0_5 : decode cX9_part0 5 = .ok (.if_icmp .ne 28, 3) := by decide +kernel
theorem dX9_part0_8 : decode cX9_part0 8 = .ok (.aload_n 0, 1) := by decide +kernel
theorem dX9_part0_9 : decode cX9_part0 9 = .ok (.iconst 0, 1) := by decide +kernel
theorem dX9_part0_10 : decode cX9_part0 10 = .ok (.aload_n 0, 1) := by decide +kernel
theorem dX9_part0_11 : decode cX9_part0 11 = .ok (.getfield 170, 3) := by decide +kernel
theorem dX9_part0_14 : decode cX9_part0 14 = .ok (.invokevirtual 196, 3) := by decide +kernel
theorem dX9_part0_17 : decode cX9_part0 17 = .ok (.aload_n 0, 1) := by decide +kernel
theorem dX9_part0_18 : decode cX9_part0 18 = .ok (.dup, 1) := by decide +kernel
theorem dX9_part0_19 : decode cX9_part0 19 = .ok (.getfield 212, 3) := by decide +kernel
theorem dX9_part0_22 : decode cX9_part0 22 = .ok (.iconst 1, 1) := by decide +kernel
theorem dX9_part0_23 : decode cX9_part0 23 = .ok (.iadd, 1) := by decide +kernel
theorem dX9_part0_24 : decode cX9_part0 24 = .ok (.putfield 212, 3) := by decide +kernel
theorem dX9_part0_27 : decode cX9_part0 27 = .ok (.aload_n 0, 1) := by decide +kernel
theorem dX9_part0_28 : decode cX9_part0 28 = .ok (.invokevirtual 193, 3) := by decide +kernel
theorem dX9_part0_31 : decode cX9_part0 31 = .ok (.iconst 1, 1) := by decide +kernel
theorem dX9_part0_32 : decode cX9_part0 32 = .ok (.ireturn, 1) := by decide +kernel
theorem dX9_part0_33 : decode cX9_part0 33 = .ok (.aload_n 0, 1) := by decide +kernel
theorem dX9_part0_34 : decode cX9_part0 34 = .ok (.getfield 155, 3) := by decide +kernel
theorem dX9_part0_37 : decode cX9_part0 37 = .ok (.iconst 1, 1) := by decide +kernel
theorem dX9_part0_38 : decode cX9_part0 38 = .ok (.if_icmp .ne 46, 3) := by decide +kernel
theorem dX9_part0_41 : decode cX9_part0 41 = .ok (.aload_n 0, 1) := by decide +kernel
theorem dX9_part0_42 : decode cX9_part0 42 = .ok (.getfield 164, 3) := by decide +kernel
theorem dX9_part0_45 : decode cX9_part0 45 = .ok (.ifCond .eq 39, 3) := by decide +kernel
theorem dX9_part0_48 : decode cX9_part0 48 = .ok (.iload_n 1, 1) := by decide +kernel
theorem dX9_part0_49 : decode cX9_part0 49 = .ok (.aload_n 0, 1) := by decide +kernel
theorem dX9_part0_50 : decode cX9_part0 50 = .ok (.getfield 164, 3) := by decide +kernel
theorem dX9_part0_53 : decode cX9_part0 53 = .ok (.invokestatic 215, 3) := by decide +kernel
theorem dX9_part0_56 : decode cX9_part0 56 = .ok (.ifCond .eq 28, 3) := by decide +kernel
theorem dX9_part0_59 : decode cX9_part0 59 = .ok (.aload_n 0, 1) := by decide +kernel
theorem dX9_part0_60 : decode cX9_part0 60 = .ok (.iconst 1, 1) := by decide +kernel
theorem dX9_part0_61 : decode cX9_part0 61 = .ok (.aload_n 0, 1) := by decide +kernel
theorem dX9_part0_62 : decode cX9_part0 62 = .ok (.getfield 164, 3) := by decide +kernel
theorem dX9_part0_65 : decode cX9_part0 65 = .ok (.invokevirtual 196, 3) := by decide +kernel
theorem dX9_part0_68 : decode cX9_part0 68 = .ok (.aload_n 0, 1) := by decide +kernel
theorem dX9_part0_69 : decode cX9_part0 69 = .ok (.dup, 1) := by decide +kernel
theorem dX9_part0_70 : decode cX9_part0 70 = .ok (.getfield 212, 3) := by decide +kernel
theorem dX9_part0_73 : decode cX9_part0 73 = .ok (.iconst 1, 1) := by decide +kernel
theorem dX9_part0_74 : decode cX9_part0 74 = .ok (.iadd, 1) := by decide +kernel
theorem dX9_part0_75 : decode cX9_part0 75 = .ok (.putfield 212, 3) := by decide +kernel
theorem dX9_part0_78 : decode cX9_part0 78 = .ok (.aload_n 0, 1) := by decide +kernel
theorem dX9_part0_79 : decode cX9_part0 79 = .ok (.invokevirtual 193, 3) := by decide +kernel
theorem dX9_part0_82 : decode cX9_part0 82 = .ok (.iconst 1, 1) := by decide +kernel
theorem dX9_part0_83 : decode cX9_part0 83 = .ok (.ireturn, 1) := by decide +kernel
theorem dX9_part0_84 : decode cX9_part0 84 = .ok (.aload_n 0, 1) := by decide +kernel
theorem dX9_part0_85 : decode cX9_part0 85 = .ok (.bipush 33, 2) := by decide +kernel
theorem dX9_part0_87 : decode cX9_part0 87 = .ok (.invokevirtual 190, 3) := by decide +kernel
theorem dX9_part0_90 : decode cX9_part0 90 = .ok (.ifCond .eq 55, 3) := by decide +kernel
theorem dX9_part0_93 : decode cX9_part0 93 = .ok (.aload_n 0, 1) := by decide +kernel
theorem dX9_part0_94 : decode cX9_part0 94 = .ok (.getfield 219, 3) := by decide +kernel
theorem dX9_part0_97 : decode cX9_part0 97 = .ok (.bipush 8, 2) := by decide +kernel
theorem dX9_part0_99 : decode cX9_part0 99 = .ok (.if_icmp .ge 46, 3) := by decide +kernel
theorem dX9_part0_102 : decode cX9_part0 102 = .ok (.aload_n 0, 1) := by decide +kernel
theorem dX9_part0_103 : decode cX9_part0 103 = .ok (.dup, 1) := by decide +kernel
theorem dX9_part0_104 : decode cX9_part0 104 = .ok (.getfield 219, 3) := by decide +kernel
theorem dX9_part0_107 : decode cX9_part0 107 = .ok (.iconst 1, 1) := by decide +kernel
theorem dX9_part0_108 : decode cX9_part0 108 = .ok (.iadd, 1) := by decide +kernel
theorem dX9_part0_109 : decode cX9_part0 109 = .ok (.putfield 219, 3) := by decide +kernel
theorem dX9_part0_112 : decode cX9_part0 112 = .ok (.aload_n 0, 1) := by decide +kernel
theorem dX9_part0_113 : decode cX9_part0 113 = .ok (.invokevirtual 193, 3) := by decide +kernel
theorem dX9_part0_116 : decode cX9_part0 116 = .ok (.aload_n 0, 1) := by decide +kernel
theorem dX9_part0_117 : decode cX9_part0 117 = .ok (.iload_n 1, 1) := by decide +kernel
theorem dX9_part0_118 : decode cX9_part0 118 = .ok (.invokevirtual 209, 3) := by decide +kernel
theorem dX9_part0_121 : decode cX9_part0 121 = .ok (.ifCond .ne 5, 3) := by decide +kernel
theorem dX9_part0_124 : decode cX9_part0 124 = .ok (.iconst 0, 1) := by decide +kernel
theorem dX9_part0_125 : decode cX9_part0 125 = .ok (.ireturn, 1) := by decide +kernel
theorem dX9_part0_126 : decode cX9_part0 126 = .ok (.aload_n 0, 1) := by decide +kernel
theorem dX9_part0_127 : decode cX9_part0 127 = .ok (.dup, 1) := by decide +kernel
theorem dX9_part0_128 : decode cX9_part0 128 = .ok (.getfield 219, 3) := by decide +kernel
theorem dX9_part0_131 : decode cX9_part0 131 = .ok (.iconst 1, 1) := by decide +kernel
theorem dX9_part0_132 : decode cX9_part0 132 = .ok (.isub, 1) := by decide +kernel
theorem dX9_part0_133 : decode cX9_part0 133 = .ok (.putfield 219, 3) := by decide +kernel
theorem dX9_part0_136 : decode cX9_part0 136 = .ok (.aload_n 0, 1) := by decide +kernel
theorem dX9_part0_137 : decode cX9_part0 137 = .ok (.iconst 2, 1) := by decide +kernel
theorem dX9_part0_138 : decode cX9_part0 138 = .ok (.bipush 33, 2) := by decide +kernel
theorem dX9_part0_140 : decode cX9_part0 140 = .ok (.invokevirtual 196, 3) := by decide +kernel
theorem dX9_part0_143 : decode cX9_part0 143 = .ok (.iconst 1, 1) := by decide +kernel
theorem dX9_part0_144 : decode cX9_part0 144 = .ok (.ireturn, 1) := by decide +kernel
theorem dX9_part0_145 : decode cX9_part0 145 = .ok (.aload_n 0, 1) := by decide +kernel
theorem dX9_part0_146 : decode cX9_part0 146 = .ok (.bipush 40, 2) := by decide +kernel
theorem dX9_part0_148 : decode cX9_part0 148 = .ok (.invokevirtual 190, 3) := by decide +kernel
theorem dX9_part0_151 : decode cX9_part0 151 = .ok (.ifCond .eq 12, 3) := by decide +kernel
theorem dX9_part0_154 : decode cX9_part0 154 = .ok (.aload_n 0, 1) := by decide +kernel
theorem dX9_part0_155 : decode cX9_part0 155 = .ok (.getfield 222, 3) := by decide +kernel
theorem dX9_part0_158 : decode cX9_part0 158 = .ok (.bipush 8, 2) := by decide +kernel
theorem dX9_part0_160 : decode cX9_part0 160 = .ok (.if_icmp .ne 5, 3) := by decide +kernel
theorem dX9_part0_163 : decode cX9_part0 163 = .ok (.iconst 0, 1) := by decide +kernel
theorem dX9_part0_164 : decode cX9_part0 164 = .ok (.ireturn, 1) := by decide +kernel
theorem dX9_part0_165 : decode cX9_part0 165 = .ok (.aload_n 0, 1) := by decide +kernel
theorem dX9_part0_166 : decode cX9_part0 166 = .ok (.dup, 1) := by decide +kernel
theorem dX9_part0_167 : decode cX9_part0 167 = .ok (.getfield 222, 3) := by decide +kernel
theorem dX9_part0_170 : decode cX9_part0 170 = .ok (.iconst 1, 1) := by decide +kernel
theorem dX9_part0_171 : decode cX9_part0 171 = .ok (.iadd, 1) := by decide +kernel
theorem dX9_part0_172 : decode cX9_part0 172 = .ok (.putfield 222, 3) := by decide +kernel
theorem dX9_part0_175 : decode cX9_part0 175 = .ok (.aload_n 0, 1) := by decide +kernel
theorem dX9_part0_176 : decode cX9_part0 176 = .ok (.invokevirtual 193, 3) := by decide +kernel
theorem dX9_part0_179 : decode cX9_part0 179 = .ok (.aload_n 0, 1) := by decide +kernel
theorem dX9_part0_180 : decode cX9_part0 180 = .ok (.iload_n 1, 1) := by decide +kernel
theorem dX9_part0_181 : decode cX9_part0 181 = .ok (.invokevirtual 225, 3) := by decide +kernel
theorem dX9_part0_184 : decode cX9_part0 184 = .ok (.ifCond .eq 12, 3) := by decide +kernel
theorem dX9_part0_187 : decode cX9_part0 187 = .ok (.aload_n 0, 1) := by decide +kernel
theorem dX9_part0_188 : decode cX9_part0 188 = .ok (.bipush 41, 2) := by decide +kernel
theorem dX9_part0_190 : decode cX9_part0 190 = .ok (.invokevirtual 190, 3) := by decide +kernel
theorem dX9_part0_193 : decode cX9_part0 193 = .ok (.ifCond .ne 5, 3) := by decide +kernel
theorem dX9_part0_196 : decode cX9_part0 196 = .ok (.iconst 0, 1) := by decide +kernel
theorem dX9_part0_197 : decode cX9_part0 197 = .ok (.ireturn, 1) := by decide +kernel
theorem dX9_part0_198 : decode cX9_part0 198 = .ok (.aload_n 0, 1) := by decide +kernel
theorem dX9_part0_199 : decode cX9_part0 199 = .ok (.dup, 1) := by decide +kernel
theorem dX9_part0_200 : decode cX9_part0 200 = .ok (.getfield 222, 3) := by decide +kernel
theorem dX9_part0_203 : decode cX9_part0 203 = .ok (.iconst 1, 1) := by decide +kernel
theorem dX9_part0_204 : decode cX9_part0 204 = .ok (.isub, 1) := by decide +kernel
theorem dX9_part0_205 : decode cX9_part0 205 = .ok (.putfield 222, 3) := by decide +kernel
theorem dX9_part0_208 : decode cX9_part0 208 = .ok (.aload_n 0, 1) := by decide +kernel
theorem dX9_part0_209 : decode cX9_part0 209 = .ok (.invokevirtual 193, 3) := by decide +kernel
theorem dX9_part0_212 : decode cX9_part0 212 = .ok (.iconst 1, 1) := by decide +kernel
theorem dX9_part0_213 : decode cX9_part0 213 = .ok (.ireturn, 1) := by decide +kernel
theorem dX9_parse_0 : decode cX9_parse 0 = .ok (.aload_n 0, 1) := by decide +kernel
theorem dX9_parse_1 : decode cX9_parse 1 = .ok (.iconst 0, 1) := by decide +kernel
theorem dX9_parse_2 : decode cX9_parse 2 = .ok (.putfield 152, 3) := by decide +kernel
theorem dX9_parse_5 : decode cX9_parse 5 = .ok (.aload_n 0, 1) := by decide +kernel
theorem dX9_parse_6 : decode cX9_parse 6 = .ok (.iconst 3, 1) := by decide +kernel
theorem dX9_parse_7 : decode cX9_parse 7 = .ok (.putfield 155, 3) := by decide +kernel
theorem dX9_parse_10 : decode cX9_parse 10 = .ok (.aload_n 0, 1) := by decide +kernel
theorem dX9_parse_11 : decode cX9_parse 11 = .ok (.iconst 0, 1) := by decide +kernel
theorem dX9_parse_12 : decode cX9_parse 12 = .ok (.putfield 222, 3) := by decide +kernel
theorem dX9_parse_15 : decode cX9_parse 15 = .ok (.aload_n 0, 1) := by decide +kernel
theorem dX9_parse_16 : decode cX9_parse 16 = .ok (.iconst 0, 1) := by decide +kernel
theorem dX9_parse_17 : decode cX9_parse 17 = .ok (.putfield 219, 3) := by decide +kernel
theorem dX9_parse_20 : decode cX9_parse 20 = .ok (.aload_n 0, 1) := by decide +kernel
theorem dX9_parse_21 : decode cX9_parse 21 = .ok (.iconst 0, 1) := by decide +kernel
theorem dX9_parse_22 : decode cX9_parse 22 = .ok (.putfield 184, 3) := by decide +kernel
theorem dX9_parse_25 : decode cX9_parse 25 = .ok (.aload_n 0, 1) := by decide +kernel
theorem dX9_parse_26 : decode cX9_parse 26 = .ok (.iconst 0, 1) := by decide +kernel
theorem dX9_parse_27 : decode cX9_parse 27 = .ok (.putfield 212, 3) := by decide +kernel
theorem dX9_parse_30 : decode cX9_parse 30 = .ok (.aload_n 0, 1) := by decide +kernel
theorem dX9_parse_31 : decode cX9_parse 31 = .ok (.aload_n 0, 1) := by decide +kernel
theorem dX9_parse_32 : decode cX9_parse 32 = .ok (.getfield 7, 3) := by decide +kernel
theorem dX9_parse_35 : decode cX9_parse 35 = .ok (.iconst 5, 1) := by decide +kernel
theorem dX9_parse_36 : decode cX9_parse 36 = .ok (.iaload, 1) := by decide +kernel
theorem dX9_parse_37 : decode cX9_parse 37 = .ok (.bipush 14, 2) := by decide +kernel
theorem dX9_parse_39 : decode cX9_parse 39 = .ok (.if_icmp .ge 18, 3) := by decide +kernel
theorem dX9_parse_42 : decode cX9_parse 42 = .ok (.aload_n 0, 1) := by decide +kernel
theorem dX9_parse_43 : decode cX9_parse 43 = .ok (.aload_n 0, 1) := by decide +kernel
theorem dX9_parse_44 : decode cX9_parse 44 = .ok (.getfield 7, 3) := by decide +kernel
theorem dX9_parse_47 : decode cX9_parse 47 = .ok (.iconst 5, 1) := by decide +kernel
theorem dX9_parse_48 : decode cX9_parse 48 = .ok (.iaload, 1) := by decide +kernel
theorem dX9_parse_49 : decode cX9_parse 49 = .ok (.invokevirtual 228, 3) := by decide +kernel
theorem dX9_parse_52 : decode cX9_parse 52 = .ok (.iconst 4, 1) := by decide +kernel
theorem dX9_parse_53 : decode cX9_parse 53 = .ok (.iadd, 1) := by decide +kernel
theorem dX9_parse_54 : decode cX9_parse 54 = .ok (.goto 6, 3) := by decide +kernel
theorem dX9_parse_57 : decode cX9_parse 57 = .ok (.sipush 3590, 3) := by decide +kernel
theorem dX9_parse_60 : decode cX9_parse 60 = .ok (.putfield 181, 3) := by decide +kernel
theorem dX9_parse_63 : decode cX9_parse 63 = .ok (.aload_n 0, 1) := by decide +kernel
theorem dX9_parse_64 : decode cX9_parse 64 = .ok (.invokevirtual 193, 3) := by decide +kernel
theorem dX9_parse_67 : decode cX9_parse 67 = .ok (.aload_n 0, 1) := by decide +kernel
theorem dX9_parse_68 : decode cX9_parse 68 = .ok (.invokevirtual 231, 3) := by decide +kernel
theorem dX9_parse_71 : decode cX9_parse 71 = .ok (.istore_n 1, 1) := by decide +kernel
theorem dX9_parse_72 : decode cX9_parse 72 = .ok (.iload_n 1, 1) := by decide +kernel
theorem dX9_parse_73 : decode cX9_parse 73 = .ok (.ifCond .lt 7, 3) := by decide +kernel
theorem dX9_parse_76 : decode cX9_parse 76 = .ok (.iconst 1, 1) := by decide +kernel
theorem dX9_parse_77 : decode cX9_parse 77 = .ok (.goto 4, 3) := by decide +kernel
theorem dX9_parse_80 : decode cX9_parse 80 = .ok (.iconst 0, 1) := by decide +kernel
theorem dX9_parse_81 : decode cX9_parse 81 = .ok (.istore_n 2, 1) := by decide +kernel
theorem dX9_parse_82 : decode cX9_parse 82 = .ok (.iload_n 2, 1) := by decide +kernel
theorem dX9_parse_83 : decode cX9_parse 83 = .ok (.ifCond .eq 28, 3) := by decide +kernel
theorem dX9_parse_86 : decode cX9_parse 86 = .ok (.aload_n 0, 1) := by decide +kernel
theorem dX9_parse_87 : decode cX9_parse 87 = .ok (.invokevirtual 193, 3) := by decide +kernel
theorem dX9_parse_90 : decode cX9_parse 90 = .ok (.aload_n 0, 1) := by decide +kernel
theorem dX9_parse_91 : decode cX9_parse 91 = .ok (.iload_n 1, 1) := by decide +kernel
theorem dX9_parse_92 : decode cX9_parse 92 = .ok (.invokevirtual 225, 3) := by decide +kernel
theorem dX9_parse_95 : decode cX9_parse 95 = .ok (.ifCond .eq 14, 3) := by decide +kernel
theorem dX9_parse_98 : decode cX9_parse 98 = .ok (.aload_n 0, 1) := by decide +kernel
theorem dX9_parse_99 : decode cX9_parse 99 = .ok (.getfield 155, 3) := by decide +kernel
theorem dX9_parse_102 : decode cX9_parse 102 = .ok (.ifCond .ne 7, 3) := by decide +kernel
theorem dX9_parse_105 : decode cX9_parse 105 = .ok (.iconst 1, 1) := by decide +kernel
theorem dX9_parse_106 : decode cX9_parse 106 = .ok (.goto 4, 3) := by decide +kernel
theorem dX9_parse_109 : decode cX9_parse 109 = .ok (.iconst 0, 1) := by decide +kernel
theorem dX9_parse_110 : decode cX9_parse 110 = .ok (.istore_n 2, 1) := by decide +kernel
theorem dX9_parse_111 : decode cX9_parse 111 = .ok (.aload_n 0, 1) := by decide +kernel
theorem dX9_parse_112 : decode cX9_parse 112 = .ok (.iconst 0, 1) := by decide +kernel
theorem dX9_parse_113 : decode cX9_parse 113 = .ok (.putfield 140, 3) := by decide +kernel
theorem dX9_parse_116 : decode cX9_parse 116 = .ok (.iload_n 2, 1) := by decide +kernel
theorem dX9_parse_117 : decode cX9_parse 117 = .ok (.ifCond .eq 7, 3) := by decide +kernel
theorem dX9_parse_120 : decode cX9_parse 120 = .ok (.iload_n 1, 1) := by decide +kernel
theorem dX9_parse_121 : decode cX9_parse 121 = .ok (.goto 4, 3) := by decide +kernel
theorem dX9_parse_124 : decode cX9_parse 124 = .ok (.iconst (-1), 1) := by decide +kernel
theorem dX9_parse_125 : decode cX9_parse 125 = .ok (.ireturn, 1) := by decide +kernel
theorem dX9_text_0 : decode cX9_text 0 = .ok (.iload_n 1, 1) := by decide +kernel
theorem dX9_text_1 : decode cX9_text 1 = .ok (.i2l, 1) := by decide +kernel
theorem dX9_text_2 : decode cX9_text 2 = .ok (.lconst 0, 1) := by decide +kernel
theorem dX9_text_3 : decode cX9_text 3 = .ok (.ldc2_w 85, 3) := by decide +kernel
theorem dX9_text_6 : decode cX9_text 6 = .ok (.invokestatic 60, 3) := by decide +kernel
theorem dX9_text_9 : decode cX9_text 9 = .ok (.istore_n 2, 1) := by decide +kernel
theorem dX9_text_10 : decode cX9_text 10 = .ok (.aload_n 0, 1) := by decide +kernel
theorem dX9_text_11 : decode cX9_text 11 = .ok (.invokevirtual 235, 3) := by decide +kernel
theorem dX9_text_14 : decode cX9_text 14 = .ok (.istore_n 3, 1) := by decide +kernel
theorem dX9_text_15 : decode cX9_text 15 = .ok (.iload_n 2, 1) := by decide +kernel
theorem dX9_text_16 : decode cX9_text 16 = .ok (.ifCond .ne 6, 3) := by decide +kernel
theorem dX9_text_19 : decode cX9_text 19 = .ok (.ldc 87, 2) := by decide +kernel
theorem dX9_text_21 : decode cX9_text 21 = .ok (.ireturn, 1) := by decide +kernel
theorem dX9_text_22 : decode cX9_text 22 = .ok (.iload_n 3, 1) := by decide +kernel
theorem dX9_text_23 : decode cX9_text 23 = .ok (.ifCond .ge 11, 3) := by decide +kernel
theorem dX9_text_26 : decode cX9_text 26 = .ok (.bipush (-100), 2) := by decide +kernel
theorem dX9_text_28 : decode cX9_text 28 = .ok (.aload_n 0, 1) := by decide +kernel
theorem dX9_text_29 : decode cX9_text 29 = .ok (.getfield 158, 3) := by decide +kernel
theorem dX9_text_32 : decode cX9_text 32 = .ok (.isub, 1) := by decide +kernel
theorem dX9_text_33 : decode cX9_text 33 = .ok (.ireturn, 1) := by decide +kernel
theorem dX9_text_34 : decode cX9_text 34 = .ok (.aload_n 0, 1) := by decide +kernel
theorem dX9_text_35 : decode cX9_text 35 = .ok (.getfield 7, 3) := by decide +kernel
theorem dX9_text_38 : decode cX9_text 38 = .ok (.iconst 5, 1) := by decide +kernel
theorem dX9_text_39 : decode cX9_text 39 = .ok (.iaload, 1) := by decide +kernel
theorem dX9_text_40 : decode cX9_text 40 = .ok (.bipush 14, 2) := by decide +kernel
theorem dX9_text_42 : decode cX9_text 42 = .ok (.if_icmp .ne 6, 3) := by decide +kernel
theorem dX9_text_45 : decode cX9_text 45 = .ok (.ldc 88, 2) := by decide +kernel
theorem dX9_text_47 : decode cX9_text 47 = .ok (.ireturn, 1) := by decide +kernel
theorem dX9_text_48 : decode cX9_text 48 = .ok (.aload_n 0, 1) := by decide +kernel
theorem dX9_text_49 : decode cX9_text 49 = .ok (.aload_n 0, 1) := by decide +kernel
theorem dX9_text_50 : decode cX9_text 50 = .ok (.getfield 7, 3) := by decide +kernel
theorem dX9_text_53 : decode cX9_text 53 = .ok (.iconst 5, 1) := by decide +kernel
theorem dX9_text_54 : decode cX9_text 54 = .ok (.iaload, 1) := by decide +kernel
theorem dX9_text_55 : decode cX9_text 55 = .ok (.invokevirtual 228, 3) := by decide +kernel
theorem dX9_text_58 : decode cX9_text 58 = .ok (.istore 4, 2) := by decide +kernel
theorem dX9_text_60 : decode cX9_text 60 = .ok (.aload_n 0, 1) := by decide +kernel
theorem dX9_text_61 : decode cX9_text 61 = .ok (.getfield 7, 3) := by decide +kernel
theorem dX9_text_64 : decode cX9_text 64 = .ok (.iload 4, 2) := by decide +kernel
theorem dX9_text_66 : decode cX9_text 66 = .ok (.iconst 0, 1) := by decide +kernel
theorem dX9_text_67 : decode cX9_text 67 = .ok (.iadd, 1) := by decide +kernel
theorem dX9_text_68 : decode cX9_text 68 = .ok (.iload_n 3, 1) := by decide +kernel
theorem dX9_text_69 : decode cX9_text 69 = .ok (.iastore, 1) := by decide +kernel
theorem dX9_text_70 : decode cX9_text 70 = .ok (.aload_n 0, 1) := by decide +kernel
theorem dX9_text_71 : decode cX9_text 71 = .ok (.getfield 7, 3) := by decide +kernel
theorem dX9_text_74 : decode cX9_text 74 = .ok (.iload 4, 2) := by decide +kernel
theorem dX9_text_76 : decode cX9_text 76 = .ok (.iconst 1, 1) := by decide +kernel
theorem dX9_text_77 : decode cX9_text 77 = .ok (.iadd, 1) := by decide +kernel
theorem dX9_text_78 : decode cX9_text 78 = .ok (.iload_n 1, 1) := by decide +kernel
theorem dX9_text_79 : decode cX9_text 79 = .ok (.iastore, 1) := by decide +kernel
theorem dX9_text_80 : decode cX9_text 80 = .ok (.aload_n 0, 1) := by decide +kernel
theorem dX9_text_81 : decode cX9_text 81 = .ok (.getfield 7, 3) := by decide +kernel
theorem dX9_text_84 : decode cX9_text 84 = .ok (.iload 4, 2) := by decide +kernel
theorem dX9_text_86 : decode cX9_text 86 = .ok (.iconst 2, 1) := by decide +kernel
theorem dX9_text_87 : decode cX9_text 87 = .ok (.iadd, 1) := by decide +kernel
theorem dX9_text_88 : decode cX9_text 88 = .ok (.aload_n 0, 1) := by decide +kernel
theorem dX9_text_89 : decode cX9_text 89 = .ok (.getfield 212, 3) := by decide +kernel
theorem dX9_text_92 : decode cX9_text 92 = .ok (.iastore, 1) := by decide +kernel
theorem dX9_text_93 : decode cX9_text 93 = .ok (.aload_n 0, 1) := by decide +kernel
theorem dX9_text_94 : decode cX9_text 94 = .ok (.getfield 7, 3) := by decide +kernel
theorem dX9_text_97 : decode cX9_text 97 = .ok (.iload 4, 2) := by decide +kernel
theorem dX9_text_99 : decode cX9_text 99 = .ok (.iconst 3, 1) := by decide +kernel
theorem dX9_text_100 : decode cX9_text 100 = .ok (.iadd, 1) := by decide +kernel
theorem dX9_text_101 : decode cX9_text 101 = .ok (.aload_n 0, 1) := by decide +kernel
theorem dX9_text_102 : decode cX9_text 102 = .ok (.getfield 184, 3) := by decide +kernel
theorem dX9_text_105 : decode cX9_text 105 = .ok (.iastore, 1) := by decide +kernel
theorem dX9_text_106 : decode cX9_text 106 = .ok (.aload_n 0, 1) := by decide +kernel
theorem dX9_text_107 : decode cX9_text 107 = .ok (.getfield 7, 3) := by decide +kernel
theorem dX9_text_110 : decode cX9_text 110 = .ok (.iconst 5, 1) := by decide +kernel
theorem dX9_text_111 : decode cX9_text 111 = .ok (.dup2, 1) := by decide +kernel
theorem dX9_text_112 : decode cX9_text 112 = .ok (.iaload, 1) := by decide +kernel
theorem dX9_text_113 : decode cX9_text 113 = .ok (.iconst 1, 1) := by decide +kernel
theorem dX9_text_114 : decode cX9_text 114 = .ok (.iadd, 1) := by decide +kernel
theorem dX9_text_115 : decode cX9_text 115 = .ok (.iastore, 1) := by decide +kernel
theorem dX9_text_116 : decode cX9_text 116 = .ok (.aload_n 0, 1) := by decide +kernel
theorem dX9_text_117 : decode cX9_text 117 = .ok (.getfield 7, 3) := by decide +kernel
theorem dX9_text_120 : decode cX9_text 120 = .ok (.iconst 5, 1) := by decide +kernel
theorem dX9_text_121 : decode cX9_text 121 = .ok (.iaload, 1) := by decide +kernel
theorem dX9_text_122 : decode cX9_text 122 = .ok (.iconst 1, 1) := by decide +kernel
theorem dX9_text_123 : decode cX9_text 123 = .ok (.isub, 1) := by decide +kernel
theorem dX9_text_124 : decode cX9_text 124 = .ok (.ireturn, 1) := by decide +kernel
theorem dX9_of_0 : decode cX9_of 0 = .ok (.aload_n 0, 1) := by decide +kernel
theorem dX9_of_1 : decode cX9_of 1 = .ok (.iload_n 1, 1) := by decide +kernel
theorem dX9_of_2 : decode cX9_of 2 = .ok (.invokevirtual 238, 3) := by decide +kernel
theorem dX9_of_5 : decode cX9_of 5 = .ok (.ifCond .eq 30, 3) := by decide +kernel
theorem dX9_of_8 : decode cX9_of 8 = .ok (.iload_n 2, 1) := by decide +kernel
theorem dX9_of_9 : decode cX9_of 9 = .ok (.i2l, 1) := by decide +kernel
theorem dX9_of_10 : decode cX9_of 10 = .ok (.lconst 0, 1) := by decide +kernel
theorem dX9_of_11 : decode cX9_of 11 = .ok (.ldc2_w 241, 3) := by decide +kernel
theorem dX9_of_14 : decode cX9_of 14 = .ok (.invokestatic 60, 3) := by decide +kernel
theorem dX9_of_17 : decode cX9_of 17 = .ok (.ifCond .eq 18, 3) := by decide +kernel
theorem dX9_of_20 : decode cX9_of 20 = .ok (.aload_n 0, 1) := by decide +kernel
theorem dX9_of_21 : decode cX9_of 21 = .ok (.getfield 7, 3) := by decide +kernel
theorem dX9_of_24 : decode cX9_of 24 = .ok (.aload_n 0, 1) := by decide +kernel
theorem dX9_of_25 : decode cX9_of 25 = .ok (.iload_n 1, 1) := by decide +kernel
theorem dX9_of_26 : decode cX9_of 26 = .ok (.invokevirtual 228, 3) := by decide +kernel
theorem dX9_of_29 : decode cX9_of 29 = .ok (.iload_n 2, 1) := by decide +kernel
theorem dX9_of_30 : decode cX9_of 30 = .ok (.iadd, 1) := by decide +kernel
theorem dX9_of_31 : decode cX9_of 31 = .ok (.iaload, 1) := by decide +kernel
theorem dX9_of_32 : decode cX9_of 32 = .ok (.goto 5, 3) := by decide +kernel
theorem dX9_of_35 : decode cX9_of 35 = .ok (.ldc 87, 2) := by decide +kernel
theorem dX9_of_37 : decode cX9_of 37 = .ok (.ireturn, 1) := by decide +kernel
theorem dX9_counts_0 : decode cX9_counts 0 = .ok (.iconst (-1), 1) := by decide +kernel
theorem dX9_counts_1 : decode cX9_counts 1 = .ok (.istore_n 2, 1) := by decide +kernel
theorem dX9_counts_2 : decode cX9_counts 2 = .ok (.iconst 0, 1) := by decide +kernel
theorem dX9_counts_3 : decode cX9_counts 3 = .ok (.istore_n 3, 1) := by decide +kernel
theorem dX9_counts_4 : decode cX9_counts 4 = .ok (.iload_n 3, 1) := by decide +kernel
theorem dX9_counts_5 : decode cX9_counts 5 = .ok (.aload_n 0, 1) := by decide +kernel
theorem dX9_counts_6 : decode cX9_counts 6 = .ok (.getfield 7, 3) := by decide +kernel
theorem dX9_counts_9 : decode cX9_counts 9 = .ok (.iconst 5, 1) := by decide +kernel
theorem dX9_counts_10 : decode cX9_counts 10 = .ok (.iaload, 1) := by decide +kernel
theorem dX9_counts_11 : decode cX9_counts 11 = .ok (.if_icmp .ge 95, 3) := by decide +kernel
theorem dX9_counts_14 : decode cX9_counts 14 = .ok (.aload_n 0, 1) := by decide +kernel
theorem dX9_counts_15 : decode cX9_counts 15 = .ok (.getfield 7, 3) := by decide +kernel
theorem dX9_counts_18 : decode cX9_counts 18 = .ok (.aload_n 0, 1) := by decide +kernel
theorem dX9_counts_19 : decode cX9_counts 19 = .ok (.iload_n 3, 1) := by decide +kernel
theorem dX9_counts_20 : decode cX9_counts 20 = .ok (.invokevirtual 228, 3) := by decide +kernel
theorem dX9_counts_23 : decode cX9_counts 23 = .ok (.iconst 0, 1) := by decide +kernel
theorem dX9_counts_24 : decode cX9_counts 24 = .ok (.iadd, 1) := by decide +kernel
theorem dX9_counts_25 : decode cX9_counts 25 = .ok (.iaload, 1) := by decide +kernel
theorem dX9_counts_26 : decode cX9_counts 26 = .ok (.iload_n 1, 1) := by decide +kernel
theorem dX9_counts_27 : decode cX9_counts 27 = .ok (.if_icmp .ne 28, 3) := by decide +kernel
theorem dX9_counts_30 : decode cX9_counts 30 = .ok (.aload_n 0, 1) := by decide +kernel
theorem dX9_counts_31 : decode cX9_counts 31 = .ok (.getfield 7, 3) := by decide +kernel
theorem dX9_counts_34 : decode cX9_counts 34 = .ok (.aload_n 0, 1) := by decide +kernel
theorem dX9_counts_35 : decode cX9_counts 35 = .ok (.iload_n 3, 1) := by decide +kernel
theorem dX9_counts_36 : decode cX9_counts 36 = .ok (.invokevirtual 228, 3) := by decide +kernel
theorem dX9_counts_39 : decode cX9_counts 39 = .ok (.iconst 1, 1) := by decide +kernel
theorem dX9_counts_40 : decode cX9_counts 40 = .ok (.iadd, 1) := by decide +kernel
theorem dX9_counts_41 : decode cX9_counts 41 = .ok (.iaload, 1) := by decide +kernel
theorem dX9_counts_42 : decode cX9_counts 42 = .ok (.aload_n 0, 1) := by decide +kernel
theorem dX9_counts_43 : decode cX9_counts 43 = .ok (.getfield 7, 3) := by decide +kernel
theorem dX9_counts_46 : decode cX9_counts 46 = .ok (.iconst 0, 1) := by decide +kernel
theorem dX9_counts_47 : decode cX9_counts 47 = .ok (.iaload, 1) := by decide +kernel
theorem dX9_counts_48 : decode cX9_counts 48 = .ok (.if_icmp .gt 7, 3) := by decide +kernel
theorem dX9_counts_51 : decode cX9_counts 51 = .ok (.iconst 1, 1) := by decide +kernel
theorem dX9_counts_52 : decode cX9_counts 52 = .ok (.goto 4, 3) := by decide +kernel
theorem dX9_counts_55 : decode cX9_counts 55 = .ok (.iconst 0, 1) := by decide +kernel
theorem dX9_counts_56 : decode cX9_counts 56 = .ok (.istore 4, 2) := by decide +kernel
theorem dX9_counts_58 : decode cX9_counts 58 = .ok (.iload 4, 2) := by decide +kernel
theorem dX9_counts_60 : decode cX9_counts 60 = .ok (.ifCond .eq 38, 3) := by decide +kernel
theorem dX9_counts_63 : decode cX9_counts 63 = .ok (.iload_n 2, 1) := by decide +kernel
theorem dX9_counts_64 : decode cX9_counts 64 = .ok (.ifCond .lt 30, 3) := by decide +kernel
theorem dX9_counts_67 : decode cX9_counts 67 = .ok (.aload_n 0, 1) := by decide +kernel
theorem dX9_counts_68 : decode cX9_counts 68 = .ok (.getfield 7, 3) := by decide +kernel
theorem dX9_counts_71 : decode cX9_counts 71 = .ok (.aload_n 0, 1) := by decide +kernel
theorem dX9_counts_72 : decode cX9_counts 72 = .ok (.iload_n 3, 1) := by decide +kernel
theorem dX9_counts_73 : decode cX9_counts 73 = .ok (.invokevirtual 228, 3) := by decide +kernel
theorem dX9_counts_76 : decode cX9_counts 76 = .ok (.iconst 1, 1) := by decide +kernel
theorem dX9_counts_77 : decode cX9_counts 77 = .ok (.iadd, 1) := by decide +kernel
theorem dX9_counts_78 : decode cX9_counts 78 = .ok (.iaload, 1) := by decide +kernel
theorem dX9_counts_79 : decode cX9_counts 79 = .ok (.aload_n 0, 1) := by decide +kernel
theorem dX9_counts_80 : decode cX9_counts 80 = .ok (.getfield 7, 3) := by decide +kernel
theorem dX9_counts_83 : decode cX9_counts 83 = .ok (.aload_n 0, 1) := by decide +kernel
theorem dX9_counts_84 : decode cX9_counts 84 = .ok (.iload_n 2, 1) := by decide +kernel
theorem dX9_counts_85 : decode cX9_counts 85 = .ok (.invokevirtual 228, 3) := by decide +kernel
theorem dX9_counts_88 : decode cX9_counts 88 = .ok (.iconst 1, 1) := by decide +kernel
theorem dX9_counts_89 : decode cX9_counts 89 = .ok (.iadd, 1) := by decide +kernel
theorem dX9_counts_90 : decode cX9_counts 90 = .ok (.iaload, 1) := by decide +kernel
theorem dX9_counts_91 : decode cX9_counts 91 = .ok (.if_icmp .lt 7, 3) := by decide +kernel
theorem dX9_counts_94 : decode cX9_counts 94 = .ok (.iload_n 3, 1) := by decide +kernel
theorem dX9_counts_95 : decode cX9_counts 95 = .ok (.goto 4, 3) := by decide +kernel
theorem dX9_counts_98 : decode cX9_counts 98 = .ok (.iload_n 2, 1) := by decide +kernel
theorem dX9_counts_99 : decode cX9_counts 99 = .ok (.istore_n 2, 1) := by decide +kernel
theorem dX9_counts_100 : decode cX9_counts 100 = .ok (.iinc 3 1, 3) := by decide +kernel
theorem dX9_counts_103 : decode cX9_counts 103 = .ok (.goto (-99), 3) := by decide +kernel
theorem dX9_counts_106 : decode cX9_counts 106 = .ok (.iload_n 2, 1) := by decide +kernel
theorem dX9_counts_107 : decode cX9_counts 107 = .ok (.ireturn, 1) := by decide +kernel
theorem dX9_why_0 : decode cX9_why 0 = .ok (.iload_n 1, 1) := by decide +kernel
theorem dX9_why_1 : decode cX9_why 1 = .ok (.i2l, 1) := by decide +kernel
theorem dX9_why_2 : decode cX9_why 2 = .ok (.lconst 0, 1) := by decide +kernel
theorem dX9_why_3 : decode cX9_why 3 = .ok (.ldc2_w 80, 3) := by decide +kernel
theorem dX9_why_6 : decode cX9_why 6 = .ok (.invokestatic 60, 3) := by decide +kernel
theorem dX9_why_9 : decode cX9_why 9 = .ok (.ifCond .eq 14, 3) := by decide +kernel
theorem dX9_why_12 : decode cX9_why 12 = .ok (.aload_n 0, 1) := by decide +kernel
theorem dX9_why_13 : decode cX9_why 13 = .ok (.iload_n 1, 1) := by decide +kernel
theorem dX9_why_14 : decode cX9_why 14 = .ok (.invokevirtual 243, 3) := by decide +kernel
theorem dX9_why_17 : decode cX9_why 17 = .ok (.invokestatic 119, 3) := by decide +kernel
theorem dX9_why_20 : decode cX9_why 20 = .ok (.goto 5, 3) := by decide +kernel
theorem dX9_why_23 : decode cX9_why 23 = .ok (.ldc 87, 2) := by decide +kernel
theorem dX9_why_25 : decode cX9_why 25 = .ok (.ireturn, 1) := by decide +kernel
theorem dX9_joined_0 : decode cX9_joined 0 = .ok (.iload_n 0, 1) := by decide +kernel
theorem dX9_joined_1 : decode cX9_joined 1 = .ok (.tableswitch 196 38 62 #[182, 196, 196, 196, 123, 115, 196, 119, 196, 127, 196, 196, 196, 196, 196, 196, 196, 196, 196, 196, 196, 196, 149, 171, 160], 115) := by decide +kernel
theorem dX9_joined_116 : decode cX9_joined 116 = .ok (.iload_n 1, 1) := by decide +kernel
theorem dX9_joined_117 : decode cX9_joined 117 = .ok (.iload_n 2, 1) := by decide +kernel
theorem dX9_joined_118 : decode cX9_joined 118 = .ok (.iadd, 1) := by decide +kernel
theorem dX9_joined_119 : decode cX9_joined 119 = .ok (.ireturn, 1) := by decide +kernel
theorem dX9_joined_120 : decode cX9_joined 120 = .ok (.iload_n 1, 1) := by decide +kernel
theorem dX9_joined_121 : decode cX9_joined 121 = .ok (.iload_n 2, 1) := by decide +kernel
theorem dX9_joined_122 : decode cX9_joined 122 = .ok (.isub, 1) := by decide +kernel
theorem dX9_joined_123 : decode cX9_joined 123 = .ok (.ireturn, 1) := by decide +kernel
theorem dX9_joined_124 : decode cX9_joined 124 = .ok (.iload_n 1, 1) := by decide +kernel
theorem dX9_joined_125 : decode cX9_joined 125 = .ok (.iload_n 2, 1) := by decide +kernel
theorem dX9_joined_126 : decode cX9_joined 126 = .ok (.imul, 1) := by decide +kernel
theorem dX9_joined_127 : decode cX9_joined 127 = .ok (.ireturn, 1) := by decide +kernel
theorem dX9_joined_128 : decode cX9_joined 128 = .ok (.iload_n 2, 1) := by decide +kernel
theorem dX9_joined_129 : decode cX9_joined 129 = .ok (.ifCond .ne 7, 3) := by decide +kernel
theorem dX9_joined_132 : decode cX9_joined 132 = .ok (.iconst 0, 1) := by decide +kernel
theorem dX9_joined_133 : decode cX9_joined 133 = .ok (.goto 16, 3) := by decide +kernel
theorem dX9_joined_136 : decode cX9_joined 136 = .ok (.iload_n 2, 1) := by decide +kernel
theorem dX9_joined_137 : decode cX9_joined 137 = .ok (.iconst (-1), 1) := by decide +kernel
theorem dX9_joined_138 : decode cX9_joined 138 = .ok (.if_icmp .ne 8, 3) := by decide +kernel
theorem dX9_joined_141 : decode cX9_joined 141 = .ok (.iload_n 1, 1) := by decide +kernel
theorem dX9_joined_142 : decode cX9_joined 142 = .ok (.ineg, 1) := by decide +kernel
theorem dX9_joined_143 : decode cX9_joined 143 = .ok (.goto 6, 3) := by decide +kernel
theorem dX9_joined_146 : decode cX9_joined 146 = .ok (.iload_n 1, 1) := by decide +kernel
theorem dX9_joined_147 : decode cX9_joined 147 = .ok (.iload_n 2, 1) := by decide +kernel
theorem dX9_joined_148 : decode cX9_joined 148 = .ok (.idiv, 1) := by decide +kernel
theorem dX9_joined_149 : decode cX9_joined 149 = .ok (.ireturn, 1) := by decide +kernel
theorem dX9_joined_150 : decode cX9_joined 150 = .ok (.iload_n 1, 1) := by decide +kernel
theorem dX9_joined_151 : decode cX9_joined 151 = .ok (.iload_n 2, 1) := by decide +kernel
theorem dX9_joined_152 : decode cX9_joined 152 = .ok (.if_icmp .ge 7, 3) := by decide +kernel
theorem dX9_joined_155 : decode cX9_joined 155 = .ok (.iconst 1, 1) := by decide +kernel
theorem dX9_joined_156 : decode cX9_joined 156 = .ok (.goto 4, 3) := by decide +kernel
theorem dX9_joined_159 : decode cX9_joined 159 = .ok (.iconst 0, 1) := by decide +kernel
theorem dX9_joined_160 : decode cX9_joined 160 = .ok (.ireturn, 1) := by decide +kernel
theorem dX9_joined_161 : decode cX9_joined 161 = .ok (.iload_n 1, 1) := by decide +kernel
theorem dX9_joined_162 : decode cX9_joined 162 = .ok (.iload_n 2, 1) := by decide +kernel
theorem dX9_joined_163 : decode cX9_joined 163 = .ok (.if_icmp .le 7, 3) := by decide +kernel
theorem dX9_joined_166 : decode cX9_joined 166 = .ok (.iconst 1, 1) := by decide +kernel
theorem dX9_joined_167 : decode cX9_joined 167 = .ok (.goto 4, 3) := by decide +kernel
theorem dX9_joined_170 : decode cX9_joined 170 = .ok (.iconst 0, 1) := by decide +kernel
theorem dX9_joined_171 : decode cX9_joined 171 = .ok (.ireturn, 1) := by decide +kernel
theorem dX9_joined_172 : decode cX9_joined 172 = .ok (.iload_n 1, 1) := by decide +kernel
theorem dX9_joined_173 : decode cX9_joined 173 = .ok (.iload_n 2, 1) := by decide +kernel
theorem dX9_joined_174 : decode cX9_joined 174 = .ok (.if_icmp .ne 7, 3) := by decide +kernel
theorem dX9_joined_177 : decode cX9_joined 177 = .ok (.iconst 1, 1) := by decide +kernel
theorem dX9_joined_178 : decode cX9_joined 178 = .ok (.goto 4, 3) := by decide +kernel
theorem dX9_joined_181 : decode cX9_joined 181 = .ok (.iconst 0, 1) := by decide +kernel
theorem dX9_joined_182 : decode cX9_joined 182 = .ok (.ireturn, 1) := by decide +kernel
theorem dX9_joined_183 : decode cX9_joined 183 = .ok (.iload_n 1, 1) := by decide +kernel
theorem dX9_joined_184 : decode cX9_joined 184 = .ok (.ifCond .eq 11, 3) := by decide +kernel
theorem dX9_joined_187 : decode cX9_joined 187 = .ok (.iload_n 2, 1) := by decide +kernel
theorem dX9_joined_188 : decode cX9_joined 188 = .ok (.ifCond .eq 7, 3) := by decide +kernel
theorem dX9_joined_191 : decode cX9_joined 191 = .ok (.iconst 1, 1) := by decide +kernel
theorem dX9_joined_192 : decode cX9_joined 192 = .ok (.goto 4, 3) := by decide +kernel
theorem dX9_joined_195 : decode cX9_joined 195 = .ok (.iconst 0, 1) := by decide +kernel
theorem dX9_joined_196 : decode cX9_joined 196 = .ok (.ireturn, 1) := by decide +kernel
theorem dX9_joined_197 : decode cX9_joined 197 = .ok (.iload_n 1, 1) := by decide +kernel
theorem dX9_joined_198 : decode cX9_joined 198 = .ok (.ifCond .ne 7, 3) := by decide +kernel
theorem dX9_joined_201 : decode cX9_joined 201 = .ok (.iload_n 2, 1) := by decide +kernel
theorem dX9_joined_202 : decode cX9_joined 202 = .ok (.ifCond .eq 7, 3) := by decide +kernel
theorem dX9_joined_205 : decode cX9_joined 205 = .ok (.iconst 1, 1) := by decide +kernel
theorem dX9_joined_206 : decode cX9_joined 206 = .ok (.goto 4, 3) := by decide +kernel
theorem dX9_joined_209 : decode cX9_joined 209 = .ok (.iconst 0, 1) := by decide +kernel
theorem dX9_joined_210 : decode cX9_joined 210 = .ok (.ireturn, 1) := by decide +kernel
theorem dX9_worked_0 : decode cX9_worked 0 = .ok (.iconst 0, 1) := by decide +kernel
theorem dX9_worked_1 : decode cX9_worked 1 = .ok (.istore_n 2, 1) := by decide +kernel
theorem dX9_worked_2 : decode cX9_worked 2 = .ok (.iconst 0, 1) := by decide +kernel
theorem dX9_worked_3 : decode cX9_worked 3 = .ok (.istore_n 3, 1) := by decide +kernel
theorem dX9_worked_4 : decode cX9_worked 4 = .ok (.iload_n 3, 1) := by decide +kernel
theorem dX9_worked_5 : decode cX9_worked 5 = .ok (.aload_n 0, 1) := by decide +kernel
theorem dX9_worked_6 : decode cX9_worked 6 = .ok (.getfield 7, 3) := by decide +kernel
theorem dX9_worked_9 : decode cX9_worked 9 = .ok (.aload_n 0, 1) := by decide +kernel
theorem dX9_worked_10 : decode cX9_worked 10 = .ok (.iload_n 1, 1) := by decide +kernel
theorem dX9_worked_11 : decode cX9_worked 11 = .ok (.invokevirtual 228, 3) := by decide +kernel
theorem dX9_worked_14 : decode cX9_worked 14 = .ok (.iconst 3, 1) := by decide +kernel
theorem dX9_worked_15 : decode cX9_worked 15 = .ok (.iadd, 1) := by decide +kernel
theorem dX9_worked_16 : decode cX9_worked 16 = .ok (.iaload, 1) := by decide +kernel
theorem dX9_worked_17 : decode cX9_worked 17 = .ok (.if_icmp .ge 146, 3) := by decide +kernel
theorem dX9_worked_20 : decode cX9_worked 20 = .ok (.aload_n 0, 1) := by decide +kernel
theorem dX9_worked_21 : decode cX9_worked 21 = .ok (.getfield 7, 3) := by decide +kernel
theorem dX9_worked_24 : decode cX9_worked 24 = .ok (.aload_n 0, 1) := by decide +kernel
theorem dX9_worked_25 : decode cX9_worked 25 = .ok (.iload_n 1, 1) := by decide +kernel
theorem dX9_worked_26 : decode cX9_worked 26 = .ok (.invokevirtual 228, 3) := by decide +kernel
theorem dX9_worked_29 : decode cX9_worked 29 = .ok (.iconst 4, 1) := by decide +kernel
theorem dX9_worked_30 : decode cX9_worked 30 = .ok (.iadd, 1) := by decide +kernel
theorem dX9_worked_31 : decode cX9_worked 31 = .ok (.iconst 2, 1) := by decide +kernel
theorem dX9_worked_32 : decode cX9_worked 32 = .ok (.iload_n 3, 1) := by decide +kernel
theorem dX9_worked_33 : decode cX9_worked 33 = .ok (.imul, 1) := by decide +kernel
theorem dX9_worked_34 : decode cX9_worked 34 = .ok (.iadd, 1) := by decide +kernel
theorem dX9_worked_35 : decode cX9_worked 35 = .ok (.iaload, 1) := by decide +kernel
theorem dX9_worked_36 : decode cX9_worked 36 = .ok (.istore 4, 2) := by decide +kernel
theorem dX9_worked_38 : decode cX9_worked 38 = .ok (.aload_n 0, 1) := by decide +kernel
theorem dX9_worked_39 : decode cX9_worked 39 = .ok (.getfield 7, 3) := by decide +kernel
theorem dX9_worked_42 : decode cX9_worked 42 = .ok (.aload_n 0, 1) := by decide +kernel
theorem dX9_worked_43 : decode cX9_worked 43 = .ok (.iload_n 1, 1) := by decide +kernel
theorem dX9_worked_44 : decode cX9_worked 44 = .ok (.invokevirtual 228, 3) := by decide +kernel
theorem dX9_worked_47 : decode cX9_worked 47 = .ok (.iconst 4, 1) := by decide +kernel
theorem dX9_worked_48 : decode cX9_worked 48 = .ok (.iadd, 1) := by decide +kernel
theorem dX9_worked_49 : decode cX9_worked 49 = .ok (.iconst 2, 1) := by decide +kernel
theorem dX9_worked_50 : decode cX9_worked 50 = .ok (.iload_n 3, 1) := by decide +kernel
theorem dX9_worked_51 : decode cX9_worked 51 = .ok (.imul, 1) := by decide +kernel
theorem dX9_worked_52 : decode cX9_worked 52 = .ok (.iadd, 1) := by decide +kernel
theorem dX9_worked_53 : decode cX9_worked 53 = .ok (.iconst 1, 1) := by decide +kernel
theorem dX9_worked_54 : decode cX9_worked 54 = .ok (.iadd, 1) := by decide +kernel
theorem dX9_worked_55 : decode cX9_worked 55 = .ok (.iaload, 1) := by decide +kernel
theorem dX9_worked_56 : decode cX9_worked 56 = .ok (.istore 5, 2) := by decide +kernel
theorem dX9_worked_58 : decode cX9_worked 58 = .ok (.iload 4, 2) := by decide +kernel
theorem dX9_worked_60 : decode cX9_worked 60 = .ok (.iconst 2, 1) := by decide +kernel
theorem dX9_worked_61 : decode cX9_worked 61 = .ok (.if_icmp .eq 32, 3) := by decide +kernel
theorem dX9_worked_64 : decode cX9_worked 64 = .ok (.aload_n 0, 1) := by decide +kernel
theorem dX9_worked_65 : decode cX9_worked 65 = .ok (.getfield 34, 3) := by decide +kernel
theorem dX9_worked_68 : decode cX9_worked 68 = .ok (.iload_n 2, 1) := by decide +kernel
theorem dX9_worked_69 : decode cX9_worked 69 = .ok (.iload 4, 2) := by decide +kernel
theorem dX9_worked_71 : decode cX9_worked 71 = .ok (.ifCond .ne 8, 3) := by decide +kernel
theorem dX9_worked_74 : decode cX9_worked 74 = .ok (.iload 5, 2) := by decide +kernel
theorem dX9_worked_76 : decode cX9_worked 76 = .ok (.goto 10, 3) := by decide +kernel
theorem dX9_worked_79 : decode cX9_worked 79 = .ok (.aload_n 0, 1) := by decide +kernel
theorem dX9_worked_80 : decode cX9_worked 80 = .ok (.getfield 31, 3) := by decide +kernel
theorem dX9_worked_83 : decode cX9_worked 83 = .ok (.iload 5, 2) := by decide +kernel
theorem dX9_worked_85 : decode cX9_worked 85 = .ok (.iaload, 1) := by decide +kernel
theorem dX9_worked_86 : decode cX9_worked 86 = .ok (.iastore, 1) := by decide +kernel
theorem dX9_worked_87 : decode cX9_worked 87 = .ok (.iinc 2 1, 3) := by decide +kernel
theorem dX9_worked_90 : decode cX9_worked 90 = .ok (.goto 67, 3) := by decide +kernel
theorem dX9_worked_93 : decode cX9_worked 93 = .ok (.iload 5, 2) := by decide +kernel
theorem dX9_worked_95 : decode cX9_worked 95 = .ok (.bipush 33, 2) := by decide +kernel
theorem dX9_worked_97 : decode cX9_worked 97 = .ok (.if_icmp .ne 30, 3) := by decide +kernel
theorem dX9_worked_100 : decode cX9_worked 100 = .ok (.aload_n 0, 1) := by decide +kernel
theorem dX9_worked_101 : decode cX9_worked 101 = .ok (.getfield 34, 3) := by decide +kernel
theorem dX9_worked_104 : decode cX9_worked 104 = .ok (.iload_n 2, 1) := by decide +kernel
theorem dX9_worked_105 : decode cX9_worked 105 = .ok (.iconst 1, 1) := by decide +kernel
theorem dX9_worked_106 : decode cX9_worked 106 = .ok (.isub, 1) := by decide +kernel
theorem dX9_worked_107 : decode cX9_worked 107 = .ok (.aload_n 0, 1) := by decide +kernel
theorem dX9_worked_108 : decode cX9_worked 108 = .ok (.getfield 34, 3) := by decide +kernel
theorem dX9_worked_111 : decode cX9_worked 111 = .ok (.iload_n 2, 1) := by decide +kernel
theorem dX9_worked_112 : decode cX9_worked 112 = .ok (.iconst 1, 1) := by decide +kernel
theorem dX9_worked_113 : decode cX9_worked 113 = .ok (.isub, 1) := by decide +kernel
theorem dX9_worked_114 : decode cX9_worked 114 = .ok (.iaload, 1) := by decide +kernel
theorem dX9_worked_115 : decode cX9_worked 115 = .ok (.ifCond .ne 7, 3) := by decide +kernel
theorem dX9_worked_118 : decode cX9_worked 118 = .ok (.iconst 1, 1) := by decide +kernel
theorem dX9_worked_119 : decode cX9_worked 119 = .ok (.goto 4, 3) := by decide +kernel
theorem dX9_worked_122 : decode cX9_worked 122 = .ok (.iconst 0, 1) := by decide +kernel
theorem dX9_worked_123 : decode cX9_worked 123 = .ok (.iastore, 1) := by decide +kernel
theorem dX9_worked_124 : decode cX9_worked 124 = .ok (.goto 33, 3) := by decide +kernel
theorem dX9_worked_127 : decode cX9_worked 127 = .ok (.iinc 2 (-1), 3) := by decide +kernel
theorem dX9_worked_130 : decode cX9_worked 130 = .ok (.aload_n 0, 1) := by decide +kernel
theorem dX9_worked_131 : decode cX9_worked 131 = .ok (.getfield 34, 3) := by decide +kernel
theorem dX9_worked_134 : decode cX9_worked 134 = .ok (.iload_n 2, 1) := by decide +kernel
theorem dX9_worked_135 : decode cX9_worked 135 = .ok (.iconst 1, 1) := by decide +kernel
theorem dX9_worked_136 : decode cX9_worked 136 = .ok (.isub, 1) := by decide +kernel
theorem dX9_worked_137 : decode cX9_worked 137 = .ok (.iload 5, 2) := by decide +kernel
theorem dX9_worked_139 : decode cX9_worked 139 = .ok (.aload_n 0, 1) := by decide +kernel
theorem dX9_worked_140 : decode cX9_worked 140 = .ok (.getfield 34, 3) := by decide +kernel
theorem dX9_worked_143 : decode cX9_worked 143 = .ok (.iload_n 2, 1) := by decide +kernel
theorem dX9_worked_144 : decode cX9_worked 144 = .ok (.iconst 1, 1) := by decide +kernel
theorem dX9_worked_145 : decode cX9_worked 145 = .ok (.isub, 1) := by decide +kernel
theorem dX9_worked_146 : decode cX9_worked 146 = .ok (.iaload, 1) := by decide +kernel
theorem dX9_worked_147 : decode cX9_worked 147 = .ok (.aload_n 0, 1) := by decide +kernel
theorem dX9_worked_148 : decode cX9_worked 148 = .ok (.getfield 34, 3) := by decide +kernel
theorem dX9_worked_151 : decode cX9_worked 151 = .ok (.iload_n 2, 1) := by decide +kernel
theorem dX9_worked_152 : decode cX9_worked 152 = .ok (.iaload, 1) := by decide +kernel
theorem dX9_worked_153 : decode cX9_worked 153 = .ok (.invokestatic 246, 3) := by decide +kernel
theorem dX9_worked_156 : decode cX9_worked 156 = .ok (.iastore, 1) := by decide +kernel
theorem dX9_worked_157 : decode cX9_worked 157 = .ok (.iinc 3 1, 3) := by decide +kernel
theorem dX9_worked_160 : decode cX9_worked 160 = .ok (.goto (-156), 3) := by decide +kernel
theorem dX9_worked_163 : decode cX9_worked 163 = .ok (.aload_n 0, 1) := by decide +kernel
theorem dX9_worked_164 : decode cX9_worked 164 = .ok (.getfield 34, 3) := by decide +kernel
theorem dX9_worked_167 : decode cX9_worked 167 = .ok (.iconst 0, 1) := by decide +kernel
theorem dX9_worked_168 : decode cX9_worked 168 = .ok (.iaload, 1) := by decide +kernel
theorem dX9_worked_169 : decode cX9_worked 169 = .ok (.ireturn, 1) := by decide +kernel
theorem dX9_heldIn_0 : decode cX9_heldIn 0 = .ok (.iload_n 0, 1) := by decide +kernel
theorem dX9_heldIn_1 : decode cX9_heldIn 1 = .ok (.iload_n 1, 1) := by decide +kernel
theorem dX9_heldIn_2 : decode cX9_heldIn 2 = .ok (.if_icmp .le 7, 3) := by decide +kernel
theorem dX9_heldIn_5 : decode cX9_heldIn 5 = .ok (.iload_n 1, 1) := by decide +kernel
theorem dX9_heldIn_6 : decode cX9_heldIn 6 = .ok (.goto 4, 3) := by decide +kernel
theorem dX9_heldIn_9 : decode cX9_heldIn 9 = .ok (.iload_n 0, 1) := by decide +kernel
theorem dX9_heldIn_10 : decode cX9_heldIn 10 = .ok (.istore_n 2, 1) := by decide +kernel
theorem dX9_heldIn_11 : decode cX9_heldIn 11 = .ok (.iload_n 2, 1) := by decide +kernel
theorem dX9_heldIn_12 : decode cX9_heldIn 12 = .ok (.ifCond .ge 7, 3) := by decide +kernel
theorem dX9_heldIn_15 : decode cX9_heldIn 15 = .ok (.iconst 0, 1) := by decide +kernel
theorem dX9_heldIn_16 : decode cX9_heldIn 16 = .ok (.goto 4, 3) := by decide +kernel
theorem dX9_heldIn_19 : decode cX9_heldIn 19 = .ok (.iload_n 2, 1) := by decide +kernel
theorem dX9_heldIn_20 : decode cX9_heldIn 20 = .ok (.ireturn, 1) := by decide +kernel
theorem dX9_ruleOf_0 : decode cX9_ruleOf 0 = .ok (.aload_n 0, 1) := by decide +kernel
theorem dX9_ruleOf_1 : decode cX9_ruleOf 1 = .ok (.iload_n 1, 1) := by decide +kernel
theorem dX9_ruleOf_2 : decode cX9_ruleOf 2 = .ok (.invokevirtual 243, 3) := by decide +kernel
theorem dX9_ruleOf_5 : decode cX9_ruleOf 5 = .ok (.istore 5, 2) := by decide +kernel
theorem dX9_ruleOf_7 : decode cX9_ruleOf 7 = .ok (.iload_n 1, 1) := by decide +kernel
theorem dX9_ruleOf_8 : decode cX9_ruleOf 8 = .ok (.tableswitch 147 2 4 #[28, 65, 111], 28) := by decide +kernel
theorem dX9_ruleOf_36 : decode cX9_ruleOf 36 = .ok (.aload_n 0, 1) := by decide +kernel
theorem dX9_ruleOf_37 : decode cX9_ruleOf 37 = .ok (.getfield 31, 3) := by decide +kernel
theorem dX9_ruleOf_40 : decode cX9_ruleOf 40 = .ok (.bipush 111, 2) := by decide +kernel
theorem dX9_ruleOf_42 : decode cX9_ruleOf 42 = .ok (.iload_n 2, 1) := by decide +kernel
theorem dX9_ruleOf_43 : decode cX9_ruleOf 43 = .ok (.iastore, 1) := by decide +kernel
theorem dX9_ruleOf_44 : decode cX9_ruleOf 44 = .ok (.aload_n 0, 1) := by decide +kernel
theorem dX9_ruleOf_45 : decode cX9_ruleOf 45 = .ok (.getfield 31, 3) := by decide +kernel
theorem dX9_ruleOf_48 : decode cX9_ruleOf 48 = .ok (.bipush 109, 2) := by decide +kernel
theorem dX9_ruleOf_50 : decode cX9_ruleOf 50 = .ok (.iload_n 3, 1) := by decide +kernel
theorem dX9_ruleOf_51 : decode cX9_ruleOf 51 = .ok (.iastore, 1) := by decide +kernel
theorem dX9_ruleOf_52 : decode cX9_ruleOf 52 = .ok (.iload 5, 2) := by decide +kernel
theorem dX9_ruleOf_54 : decode cX9_ruleOf 54 = .ok (.ifCond .ge 7, 3) := by decide +kernel
theorem dX9_ruleOf_57 : decode cX9_ruleOf 57 = .ok (.iconst 4, 1) := by decide +kernel
theorem dX9_ruleOf_58 : decode cX9_ruleOf 58 = .ok (.goto 9, 3) := by decide +kernel
theorem dX9_ruleOf_61 : decode cX9_ruleOf 61 = .ok (.aload_n 0, 1) := by decide +kernel
theorem dX9_ruleOf_62 : decode cX9_ruleOf 62 = .ok (.iload 5, 2) := by decide +kernel
theorem dX9_ruleOf_64 : decode cX9_ruleOf 64 = .ok (.invokevirtual 250, 3) := by decide +kernel
theorem dX9_ruleOf_67 : decode cX9_ruleOf 67 = .ok (.bipush 99, 2) := by decide +kernel
theorem dX9_ruleOf_69 : decode cX9_ruleOf 69 = .ok (.invokestatic 253, 3) := by decide +kernel
theorem dX9_ruleOf_72 : decode cX9_ruleOf 72 = .ok (.ireturn, 1) := by decide +kernel
theorem dX9_ruleOf_73 : decode cX9_ruleOf 73 = .ok (.aload_n 0, 1) := by decide +kernel
theorem dX9_ruleOf_74 : decode cX9_ruleOf 74 = .ok (.getfield 31, 3) := by decide +kernel
theorem dX9_ruleOf_77 : decode cX9_ruleOf 77 = .ok (.bipush 107, 2) := by decide +kernel
theorem dX9_ruleOf_79 : decode cX9_ruleOf 79 = .ok (.iload_n 2, 1) := by decide +kernel
theorem dX9_ruleOf_80 : decode cX9_ruleOf 80 = .ok (.iastore, 1) := by decide +kernel
theorem dX9_ruleOf_81 : decode cX9_ruleOf 81 = .ok (.aload_n 0, 1) := by decide +kernel
theorem dX9_ruleOf_82 : decode cX9_ruleOf 82 = .ok (.getfield 31, 3) := by decide +kernel
theorem dX9_ruleOf_85 : decode cX9_ruleOf 85 = .ok (.bipush 109, 2) := by decide +kernel
theorem dX9_ruleOf_87 : decode cX9_ruleOf 87 = .ok (.iload_n 3, 1) := by decide +kernel
theorem dX9_ruleOf_88 : decode cX9_ruleOf 88 = .ok (.iastore, 1) := by decide +kernel
theorem dX9_ruleOf_89 : decode cX9_ruleOf 89 = .ok (.aload_n 0, 1) := by decide +kernel
theorem dX9_ruleOf_90 : decode cX9_ruleOf 90 = .ok (.getfield 31, 3) := by decide +kernel
theorem dX9_ruleOf_93 : decode cX9_ruleOf 93 = .ok (.bipush 112, 2) := by decide +kernel
theorem dX9_ruleOf_95 : decode cX9_ruleOf 95 = .ok (.iload 4, 2) := by decide +kernel
theorem dX9_ruleOf_97 : decode cX9_ruleOf 97 = .ok (.iastore, 1) := by decide +kernel
theorem dX9_ruleOf_98 : decode cX9_ruleOf 98 = .ok (.iload 5, 2) := by decide +kernel
theorem dX9_ruleOf_100 : decode cX9_ruleOf 100 = .ok (.ifCond .ge 7, 3) := by decide +kernel
theorem dX9_ruleOf_103 : decode cX9_ruleOf 103 = .ok (.iconst 0, 1) := by decide +kernel
theorem dX9_ruleOf_104 : decode cX9_ruleOf 104 = .ok (.goto 9, 3) := by decide +kernel
theorem dX9_ruleOf_107 : decode cX9_ruleOf 107 = .ok (.aload_n 0, 1) := by decide +kernel
theorem dX9_ruleOf_108 : decode cX9_ruleOf 108 = .ok (.iload 5, 2) := by decide +kernel
theorem dX9_ruleOf_110 : decode cX9_ruleOf 110 = .ok (.invokevirtual 250, 3) := by decide +kernel
theorem dX9_ruleOf_113 : decode cX9_ruleOf 113 = .ok (.bipush 100, 2) := by decide +kernel
theorem dX9_ruleOf_115 : decode cX9_ruleOf 115 = .ok (.invokestatic 253, 3) := by decide +kernel
theorem dX9_ruleOf_118 : decode cX9_ruleOf 118 = .ok (.ireturn, 1) := by decide +kernel
theorem dX9_ruleOf_119 : decode cX9_ruleOf 119 = .ok (.aload_n 0, 1) := by decide +kernel
theorem dX9_ruleOf_120 : decode cX9_ruleOf 120 = .ok (.getfield 31, 3) := by decide +kernel
theorem dX9_ruleOf_123 : decode cX9_ruleOf 123 = .ok (.bipush 101, 2) := by decide +kernel
theorem dX9_ruleOf_125 : decode cX9_ruleOf 125 = .ok (.iload_n 2, 1) := by decide +kernel
theorem dX9_ruleOf_126 : decode cX9_ruleOf 126 = .ok (.iastore, 1) := by decide +kernel
theorem dX9_ruleOf_127 : decode cX9_ruleOf 127 = .ok (.aload_n 0, 1) := by decide +kernel
theorem dX9_ruleOf_128 : decode cX9_ruleOf 128 = .ok (.getfield 31, 3) := by decide +kernel
theorem dX9_ruleOf_131 : decode cX9_ruleOf 131 = .ok (.bipush 100, 2) := by decide +kernel
theorem dX9_ruleOf_133 : decode cX9_ruleOf 133 = .ok (.iload_n 3, 1) := by decide +kernel
theorem dX9_ruleOf_134 : decode cX9_ruleOf 134 = .ok (.iastore, 1) := by decide +kernel
theorem dX9_ruleOf_135 : decode cX9_ruleOf 135 = .ok (.iload 5, 2) := by decide +kernel
theorem dX9_ruleOf_137 : decode cX9_ruleOf 137 = .ok (.ifCond .ge 7, 3) := by decide +kernel
theorem dX9_ruleOf_140 : decode cX9_ruleOf 140 = .ok (.iconst 0, 1) := by decide +kernel
theorem dX9_ruleOf_141 : decode cX9_ruleOf 141 = .ok (.goto 9, 3) := by decide +kernel
theorem dX9_ruleOf_144 : decode cX9_ruleOf 144 = .ok (.aload_n 0, 1) := by decide +kernel
theorem dX9_ruleOf_145 : decode cX9_ruleOf 145 = .ok (.iload 5, 2) := by decide +kernel
theorem dX9_ruleOf_147 : decode cX9_ruleOf 147 = .ok (.invokevirtual 250, 3) := by decide +kernel
theorem dX9_ruleOf_150 : decode cX9_ruleOf 150 = .ok (.iload_n 2, 1) := by decide +kernel
theorem dX9_ruleOf_151 : decode cX9_ruleOf 151 = .ok (.invokestatic 253, 3) := by decide +kernel
theorem dX9_ruleOf_154 : decode cX9_ruleOf 154 = .ok (.ireturn, 1) := by decide +kernel
theorem dX9_ruleOf_155 : decode cX9_ruleOf 155 = .ok (.aload_n 0, 1) := by decide +kernel
theorem dX9_ruleOf_156 : decode cX9_ruleOf 156 = .ok (.getfield 31, 3) := by decide +kernel
theorem dX9_ruleOf_159 : decode cX9_ruleOf 159 = .ok (.bipush 119, 2) := by decide +kernel
theorem dX9_ruleOf_161 : decode cX9_ruleOf 161 = .ok (.iload_n 2, 1) := by decide +kernel
theorem dX9_ruleOf_162 : decode cX9_ruleOf 162 = .ok (.iastore, 1) := by decide +kernel
theorem dX9_ruleOf_163 : decode cX9_ruleOf 163 = .ok (.aload_n 0, 1) := by decide +kernel
theorem dX9_ruleOf_164 : decode cX9_ruleOf 164 = .ok (.getfield 31, 3) := by decide +kernel
theorem dX9_ruleOf_167 : decode cX9_ruleOf 167 = .ok (.bipush 109, 2) := by decide +kernel
theorem dX9_ruleOf_169 : decode cX9_ruleOf 169 = .ok (.iload_n 3, 1) := by decide +kernel
theorem dX9_ruleOf_170 : decode cX9_ruleOf 170 = .ok (.iastore, 1) := by decide +kernel
theorem dX9_ruleOf_171 : decode cX9_ruleOf 171 = .ok (.aload_n 0, 1) := by decide +kernel
theorem dX9_ruleOf_172 : decode cX9_ruleOf 172 = .ok (.getfield 31, 3) := by decide +kernel
theorem dX9_ruleOf_175 : decode cX9_ruleOf 175 = .ok (.bipush 116, 2) := by decide +kernel
theorem dX9_ruleOf_177 : decode cX9_ruleOf 177 = .ok (.iload 4, 2) := by decide +kernel
theorem dX9_ruleOf_179 : decode cX9_ruleOf 179 = .ok (.iastore, 1) := by decide +kernel
theorem dX9_ruleOf_180 : decode cX9_ruleOf 180 = .ok (.iload 5, 2) := by decide +kernel
theorem dX9_ruleOf_182 : decode cX9_ruleOf 182 = .ok (.ifCond .lt 12, 3) := by decide +kernel
theorem dX9_ruleOf_185 : decode cX9_ruleOf 185 = .ok (.aload_n 0, 1) := by decide +kernel
theorem dX9_ruleOf_186 : decode cX9_ruleOf 186 = .ok (.iload 5, 2) := by decide +kernel
theorem dX9_ruleOf_188 : decode cX9_ruleOf 188 = .ok (.invokevirtual 250, 3) := by decide +kernel
theorem dX9_ruleOf_191 : decode cX9_ruleOf 191 = .ok (.goto 19, 3) := by decide +kernel
theorem dX9_ruleOf_194 : decode cX9_ruleOf 194 = .ok (.iload_n 1, 1) := by decide +kernel
theorem dX9_ruleOf_195 : decode cX9_ruleOf 195 = .ok (.ifCond .ne 14, 3) := by decide +kernel
theorem dX9_ruleOf_198 : decode cX9_ruleOf 198 = .ok (.iload_n 2, 1) := by decide +kernel
theorem dX9_ruleOf_199 : decode cX9_ruleOf 199 = .ok (.sipush 208, 3) := by decide +kernel
theorem dX9_ruleOf_202 : decode cX9_ruleOf 202 = .ok (.if_icmp .le 7, 3) := by decide +kernel
theorem dX9_ruleOf_205 : decode cX9_ruleOf 205 = .ok (.iconst 1, 1) := by decide +kernel
theorem dX9_ruleOf_206 : decode cX9_ruleOf 206 = .ok (.goto 4, 3) := by decide +kernel
theorem dX9_ruleOf_209 : decode cX9_ruleOf 209 = .ok (.iconst 0, 1) := by decide +kernel
theorem dX9_ruleOf_210 : decode cX9_ruleOf 210 = .ok (.ireturn, 1) := by decide +kernel
theorem dX9_rules_0 : decode cX9_rules 0 = .ok (.iload_n 1, 1) := by decide +kernel
theorem dX9_rules_1 : decode cX9_rules 1 = .ok (.i2l, 1) := by decide +kernel
theorem dX9_rules_2 : decode cX9_rules 2 = .ok (.lconst 0, 1) := by decide +kernel
theorem dX9_rules_3 : decode cX9_rules 3 = .ok (.ldc2_w 80, 3) := by decide +kernel
theorem dX9_rules_6 : decode cX9_rules 6 = .ok (.invokestatic 60, 3) := by decide +kernel
theorem dX9_rules_9 : decode cX9_rules 9 = .ok (.ifCond .eq 15, 3) := by decide +kernel
theorem dX9_rules_12 : decode cX9_rules 12 = .ok (.aload_n 0, 1) := by decide +kernel
theorem dX9_rules_13 : decode cX9_rules 13 = .ok (.iload_n 1, 1) := by decide +kernel
theorem dX9_rules_14 : decode cX9_rules 14 = .ok (.iload_n 2, 1) := by decide +kernel
theorem dX9_rules_15 : decode cX9_rules 15 = .ok (.iload_n 3, 1) := by decide +kernel
theorem dX9_rules_16 : decode cX9_rules 16 = .ok (.iload 4, 2) := by decide +kernel
theorem dX9_rules_18 : decode cX9_rules 18 = .ok (.invokevirtual 256, 3) := by decide +kernel
theorem dX9_rules_21 : decode cX9_rules 21 = .ok (.goto 5, 3) := by decide +kernel
theorem dX9_rules_24 : decode cX9_rules 24 = .ok (.ldc 87, 2) := by decide +kernel
theorem dX9_rules_26 : decode cX9_rules 26 = .ok (.ireturn, 1) := by decide +kernel
theorem dX9_marks_0 : decode cX9_marks 0 = .ok (.aload_n 0, 1) := by decide +kernel
theorem dX9_marks_1 : decode cX9_marks 1 = .ok (.getfield 7, 3) := by decide +kernel
theorem dX9_marks_4 : decode cX9_marks 4 = .ok (.iconst 4, 1) := by decide +kernel
theorem dX9_marks_5 : decode cX9_marks 5 = .ok (.iaload, 1) := by decide +kernel
theorem dX9_marks_6 : decode cX9_marks 6 = .ok (.bipush 40, 2) := by decide +kernel
theorem dX9_marks_8 : decode cX9_marks 8 = .ok (.if_icmp .ge 63, 3) := by decide +kernel
theorem dX9_marks_11 : decode cX9_marks 11 = .ok (.aload_n 0, 1) := by decide +kernel
theorem dX9_marks_12 : decode cX9_marks 12 = .ok (.aload_n 0, 1) := by decide +kernel
theorem dX9_marks_13 : decode cX9_marks 13 = .ok (.getfield 7, 3) := by decide +kernel
theorem dX9_marks_16 : decode cX9_marks 16 = .ok (.iconst 4, 1) := by decide +kernel
theorem dX9_marks_17 : decode cX9_marks 17 = .ok (.iaload, 1) := by decide +kernel
theorem dX9_marks_18 : decode cX9_marks 18 = .ok (.invokevirtual 111, 3) := by decide +kernel
theorem dX9_marks_21 : decode cX9_marks 21 = .ok (.istore_n 3, 1) := by decide +kernel
theorem dX9_marks_22 : decode cX9_marks 22 = .ok (.aload_n 0, 1) := by decide +kernel
theorem dX9_marks_23 : decode cX9_marks 23 = .ok (.getfield 7, 3) := by decide +kernel
theorem dX9_marks_26 : decode cX9_marks 26 = .ok (.iload_n 3, 1) := by decide +kernel
theorem dX9_marks_27 : decode cX9_marks 27 = .ok (.iload_n 1, 1) := by decide +kernel
theorem dX9_marks_28 : decode cX9_marks 28 = .ok (.iastore, 1) := by decide +kernel
theorem dX9_marks_29 : decode cX9_marks 29 = .ok (.aload_n 0, 1) := by decide +kernel
theorem dX9_marks_30 : decode cX9_marks 30 = .ok (.getfield 7, 3) := by decide +kernel
theorem dX9_marks_33 : decode cX9_marks 33 = .ok (.iload_n 3, 1) := by decide +kernel
theorem dX9_marks_34 : decode cX9_marks 34 = .ok (.iconst 1, 1) := by decide +kernel
theorem dX9_marks_35 : decode cX9_marks 35 = .ok (.iadd, 1) := by decide +kernel
theorem dX9_marks_36 : decode cX9_marks 36 = .ok (.aload_n 0, 1) := by decide +kernel
theorem dX9_marks_37 : decode cX9_marks 37 = .ok (.getfield 7, 3) := by decide +kernel
theorem dX9_marks_40 : decode cX9_marks 40 = .ok (.iconst 0, 1) := by decide +kernel
theorem dX9_marks_41 : decode cX9_marks 41 = .ok (.iaload, 1) := by decide +kernel
theorem dX9_marks_42 : decode cX9_marks 42 = .ok (.iastore, 1) := by decide +kernel
theorem dX9_marks_43 : decode cX9_marks 43 = .ok (.aload_n 0, 1) := by decide +kernel
theorem dX9_marks_44 : decode cX9_marks 44 = .ok (.getfield 7, 3) := by decide +kernel
theorem dX9_marks_47 : decode cX9_marks 47 = .ok (.iload_n 3, 1) := by decide +kernel
theorem dX9_marks_48 : decode cX9_marks 48 = .ok (.iconst 2, 1) := by decide +kernel
theorem dX9_marks_49 : decode cX9_marks 49 = .ok (.iadd, 1) := by decide +kernel
theorem dX9_marks_50 : decode cX9_marks 50 = .ok (.iload_n 2, 1) := by decide +kernel
theorem dX9_marks_51 : decode cX9_marks 51 = .ok (.iastore, 1) := by decide +kernel
theorem dX9_marks_52 : decode cX9_marks 52 = .ok (.aload_n 0, 1) := by decide +kernel
theorem dX9_marks_53 : decode cX9_marks 53 = .ok (.getfield 7, 3) := by decide +kernel
theorem dX9_marks_56 : decode cX9_marks 56 = .ok (.iload_n 3, 1) := by decide +kernel
theorem dX9_marks_57 : decode cX9_marks 57 = .ok (.iconst 3, 1) := by decide +kernel
theorem dX9_marks_58 : decode cX9_marks 58 = .ok (.iadd, 1) := by decide +kernel
theorem dX9_marks_59 : decode cX9_marks 59 = .ok (.iconst 0, 1) := by decide +kernel
theorem dX9_marks_60 : decode cX9_marks 60 = .ok (.iastore, 1) := by decide +kernel
theorem dX9_marks_61 : decode cX9_marks 61 = .ok (.aload_n 0, 1) := by decide +kernel
theorem dX9_marks_62 : decode cX9_marks 62 = .ok (.getfield 7, 3) := by decide +kernel
theorem dX9_marks_65 : decode cX9_marks 65 = .ok (.iconst 4, 1) := by decide +kernel
theorem dX9_marks_66 : decode cX9_marks 66 = .ok (.dup2, 1) := by decide +kernel
theorem dX9_marks_67 : decode cX9_marks 67 = .ok (.iaload, 1) := by decide +kernel
theorem dX9_marks_68 : decode cX9_marks 68 = .ok (.iconst 1, 1) := by decide +kernel
theorem dX9_marks_69 : decode cX9_marks 69 = .ok (.iadd, 1) := by decide +kernel
theorem dX9_marks_70 : decode cX9_marks 70 = .ok (.iastore, 1) := by decide +kernel
theorem dX9_marks_71 : decode cX9_marks 71 = .ok (.return_, 1) := by decide +kernel
theorem dX9_mark_0 : decode cX9_mark 0 = .ok (.aload_n 0, 1) := by decide +kernel
theorem dX9_mark_1 : decode cX9_mark 1 = .ok (.iload_n 1, 1) := by decide +kernel
theorem dX9_mark_2 : decode cX9_mark 2 = .ok (.invokevirtual 101, 3) := by decide +kernel
theorem dX9_mark_5 : decode cX9_mark 5 = .ok (.ifCond .eq 15, 3) := by decide +kernel
theorem dX9_mark_8 : decode cX9_mark 8 = .ok (.iload_n 2, 1) := by decide +kernel
theorem dX9_mark_9 : decode cX9_mark 9 = .ok (.i2l, 1) := by decide +kernel
theorem dX9_mark_10 : decode cX9_mark 10 = .ok (.lconst 0, 1) := by decide +kernel
theorem dX9_mark_11 : decode cX9_mark 11 = .ok (.ldc2_w 260, 3) := by decide +kernel
theorem dX9_mark_14 : decode cX9_mark 14 = .ok (.invokestatic 60, 3) := by decide +kernel
theorem dX9_mark_17 : decode cX9_mark 17 = .ok (.ifCond .ne 6, 3) := by decide +kernel
theorem dX9_mark_20 : decode cX9_mark 20 = .ok (.ldc 87, 2) := by decide +kernel
theorem dX9_mark_22 : decode cX9_mark 22 = .ok (.ireturn, 1) := by decide +kernel
theorem dX9_mark_23 : decode cX9_mark 23 = .ok (.aload_n 0, 1) := by decide +kernel
theorem dX9_mark_24 : decode cX9_mark 24 = .ok (.iload_n 1, 1) := by decide +kernel
theorem dX9_mark_25 : decode cX9_mark 25 = .ok (.invokevirtual 262, 3) := by decide +kernel
theorem dX9_mark_28 : decode cX9_mark 28 = .ok (.ifCond .eq 6, 3) := by decide +kernel
theorem dX9_mark_31 : decode cX9_mark 31 = .ok (.ldc 106, 2) := by decide +kernel
theorem dX9_mark_33 : decode cX9_mark 33 = .ok (.ireturn, 1) := by decide +kernel
theorem dX9_mark_34 : decode cX9_mark 34 = .ok (.aload_n 0, 1) := by decide +kernel
theorem dX9_mark_35 : decode cX9_mark 35 = .ok (.getfield 7, 3) := by decide +kernel
theorem dX9_mark_38 : decode cX9_mark 38 = .ok (.iconst 4, 1) := by decide +kernel
theorem dX9_mark_39 : decode cX9_mark 39 = .ok (.iaload, 1) := by decide +kernel
theorem dX9_mark_40 : decode cX9_mark 40 = .ok (.bipush 40, 2) := by decide +kernel
theorem dX9_mark_42 : decode cX9_mark 42 = .ok (.if_icmp .ne 6, 3) := by decide +kernel
theorem dX9_mark_45 : decode cX9_mark 45 = .ok (.ldc 88, 2) := by decide +kernel
theorem dX9_mark_47 : decode cX9_mark 47 = .ok (.ireturn, 1) := by decide +kernel
theorem dX9_mark_48 : decode cX9_mark 48 = .ok (.aload_n 0, 1) := by decide +kernel
theorem dX9_mark_49 : decode cX9_mark 49 = .ok (.iload_n 1, 1) := by decide +kernel
theorem dX9_mark_50 : decode cX9_mark 50 = .ok (.iload_n 2, 1) := by decide +kernel
theorem dX9_mark_51 : decode cX9_mark 51 = .ok (.invokevirtual 265, 3) := by decide +kernel
theorem dX9_mark_54 : decode cX9_mark 54 = .ok (.aload_n 0, 1) := by decide +kernel
theorem dX9_mark_55 : decode cX9_mark 55 = .ok (.getfield 7, 3) := by decide +kernel
theorem dX9_mark_58 : decode cX9_mark 58 = .ok (.iconst 4, 1) := by decide +kernel
theorem dX9_mark_59 : decode cX9_mark 59 = .ok (.iaload, 1) := by decide +kernel
theorem dX9_mark_60 : decode cX9_mark 60 = .ok (.iconst 1, 1) := by decide +kernel
theorem dX9_mark_61 : decode cX9_mark 61 = .ok (.isub, 1) := by decide +kernel
theorem dX9_mark_62 : decode cX9_mark 62 = .ok (.ireturn, 1) := by decide +kernel
theorem dX9_voids_0 : decode cX9_voids 0 = .ok (.aload_n 0, 1) := by decide +kernel
theorem dX9_voids_1 : decode cX9_voids 1 = .ok (.iload_n 1, 1) := by decide +kernel
theorem dX9_voids_2 : decode cX9_voids 2 = .ok (.invokevirtual 268, 3) := by decide +kernel
theorem dX9_voids_5 : decode cX9_voids 5 = .ok (.ifCond .eq 28, 3) := by decide +kernel
theorem dX9_voids_8 : decode cX9_voids 8 = .ok (.iload_n 2, 1) := by decide +kernel
theorem dX9_voids_9 : decode cX9_voids 9 = .ok (.i2l, 1) := by decide +kernel
theorem dX9_voids_10 : decode cX9_voids 10 = .ok (.lconst 0, 1) := by decide +kernel
theorem dX9_voids_11 : decode cX9_voids 11 = .ok (.lconst 1, 1) := by decide +kernel
theorem dX9_voids_12 : decode cX9_voids 12 = .ok (.invokestatic 60, 3) := by decide +kernel
theorem dX9_voids_15 : decode cX9_voids 15 = .ok (.ifCond .eq 18, 3) := by decide +kernel
theorem dX9_voids_18 : decode cX9_voids 18 = .ok (.aload_n 0, 1) := by decide +kernel
theorem dX9_voids_19 : decode cX9_voids 19 = .ok (.aload_n 0, 1) := by decide +kernel
theorem dX9_voids_20 : decode cX9_voids 20 = .ok (.iload_n 1, 1) := by decide +kernel
theorem dX9_voids_21 : decode cX9_voids 21 = .ok (.invokevirtual 111, 3) := by decide +kernel
theorem dX9_voids_24 : decode cX9_voids 24 = .ok (.iconst 3, 1) := by decide +kernel
theorem dX9_voids_25 : decode cX9_voids 25 = .ok (.iadd, 1) := by decide +kernel
theorem dX9_voids_26 : decode cX9_voids 26 = .ok (.iload_n 2, 1) := by decide +kernel
theorem dX9_voids_27 : decode cX9_voids 27 = .ok (.invokevirtual 107, 3) := by decide +kernel
theorem dX9_voids_30 : decode cX9_voids 30 = .ok (.goto 5, 3) := by decide +kernel
theorem dX9_voids_33 : decode cX9_voids 33 = .ok (.ldc 87, 2) := by decide +kernel
theorem dX9_voids_35 : decode cX9_voids 35 = .ok (.ireturn, 1) := by decide +kernel
theorem dX9_markTold_0 : decode cX9_markTold 0 = .ok (.aload_n 0, 1) := by decide +kernel
theorem dX9_markTold_1 : decode cX9_markTold 1 = .ok (.iload_n 1, 1) := by decide +kernel
theorem dX9_markTold_2 : decode cX9_markTold 2 = .ok (.invokevirtual 268, 3) := by decide +kernel
theorem dX9_markTold_5 : decode cX9_markTold 5 = .ok (.ifCond .eq 30, 3) := by decide +kernel
theorem dX9_markTold_8 : decode cX9_markTold 8 = .ok (.iload_n 2, 1) := by decide +kernel
theorem dX9_markTold_9 : decode cX9_markTold 9 = .ok (.i2l, 1) := by decide +kernel
theorem dX9_markTold_10 : decode cX9_markTold 10 = .ok (.lconst 0, 1) := by decide +kernel
theorem dX9_markTold_11 : decode cX9_markTold 11 = .ok (.ldc2_w 260, 3) := by decide +kernel
theorem dX9_markTold_14 : decode cX9_markTold 14 = .ok (.invokestatic 60, 3) := by decide +kernel
theorem dX9_markTold_17 : decode cX9_markTold 17 = .ok (.ifCond .eq 18, 3) := by decide +kernel
theorem dX9_markTold_20 : decode cX9_markTold 20 = .ok (.aload_n 0, 1) := by decide +kernel
theorem dX9_markTold_21 : decode cX9_markTold 21 = .ok (.getfield 7, 3) := by decide +kernel
theorem dX9_markTold_24 : decode cX9_markTold 24 = .ok (.aload_n 0, 1) := by decide +kernel
theorem dX9_markTold_25 : decode cX9_markTold 25 = .ok (.iload_n 1, 1) := by decide +kernel
theorem dX9_markTold_26 : decode cX9_markTold 26 = .ok (.invokevirtual 111, 3) := by decide +kernel
theorem dX9_markTold_29 : decode cX9_markTold 29 = .ok (.iload_n 2, 1) := by decide +kernel
theorem dX9_markTold_30 : decode cX9_markTold 30 = .ok (.iadd, 1) := by decide +kernel
theorem dX9_markTold_31 : decode cX9_markTold 31 = .ok (.iaload, 1) := by decide +kernel
theorem dX9_markTold_32 : decode cX9_markTold 32 = .ok (.goto 5, 3) := by decide +kernel
theorem dX9_markTold_35 : decode cX9_markTold 35 = .ok (.ldc 87, 2) := by decide +kernel
theorem dX9_markTold_37 : decode cX9_markTold 37 = .ok (.ireturn, 1) := by decide +kernel
theorem dX9_dueBy_0 : decode cX9_dueBy 0 = .ok (.aload_n 0, 1) := by decide +kernel
theorem dX9_dueBy_1 : decode cX9_dueBy 1 = .ok (.iload_n 1, 1) := by decide +kernel
theorem dX9_dueBy_2 : decode cX9_dueBy 2 = .ok (.invokevirtual 66, 3) := by decide +kernel
theorem dX9_dueBy_5 : decode cX9_dueBy 5 = .ok (.istore_n 3, 1) := by decide +kernel
theorem dX9_dueBy_6 : decode cX9_dueBy 6 = .ok (.iconst 0, 1) := by decide +kernel
theorem dX9_dueBy_7 : decode cX9_dueBy 7 = .ok (.istore 4, 2) := by decide +kernel
theorem dX9_dueBy_9 : decode cX9_dueBy 9 = .ok (.iload 4, 2) := by decide +kernel
theorem dX9_dueBy_11 : decode cX9_dueBy 11 = .ok (.sipush 600, 3) := by decide +kernel
theorem dX9_dueBy_14 : decode cX9_dueBy 14 = .ok (.if_icmp .ge 56, 3) := by decide +kernel
theorem dX9_dueBy_17 : decode cX9_dueBy 17 = .ok (.aload_n 0, 1) := by decide +kernel
theorem dX9_dueBy_18 : decode cX9_dueBy 18 = .ok (.iconst 0, 1) := by decide +kernel
theorem dX9_dueBy_19 : decode cX9_dueBy 19 = .ok (.aload_n 0, 1) := by decide +kernel
theorem dX9_dueBy_20 : decode cX9_dueBy 20 = .ok (.getfield 7, 3) := by decide +kernel
theorem dX9_dueBy_23 : decode cX9_dueBy 23 = .ok (.iconst 0, 1) := by decide +kernel
theorem dX9_dueBy_24 : decode cX9_dueBy 24 = .ok (.iaload, 1) := by decide +kernel
theorem dX9_dueBy_25 : decode cX9_dueBy 25 = .ok (.iload 4, 2) := by decide +kernel
theorem dX9_dueBy_27 : decode cX9_dueBy 27 = .ok (.iadd, 1) := by decide +kernel
theorem dX9_dueBy_28 : decode cX9_dueBy 28 = .ok (.aload_n 0, 1) := by decide +kernel
theorem dX9_dueBy_29 : decode cX9_dueBy 29 = .ok (.getfield 7, 3) := by decide +kernel
theorem dX9_dueBy_32 : decode cX9_dueBy 32 = .ok (.iload_n 3, 1) := by decide +kernel
theorem dX9_dueBy_33 : decode cX9_dueBy 33 = .ok (.bipush 10, 2) := by decide +kernel
theorem dX9_dueBy_35 : decode cX9_dueBy 35 = .ok (.iadd, 1) := by decide +kernel
theorem dX9_dueBy_36 : decode cX9_dueBy 36 = .ok (.iaload, 1) := by decide +kernel
theorem dX9_dueBy_37 : decode cX9_dueBy 37 = .ok (.isub, 1) := by decide +kernel
theorem dX9_dueBy_38 : decode cX9_dueBy 38 = .ok (.iload_n 2, 1) := by decide +kernel
theorem dX9_dueBy_39 : decode cX9_dueBy 39 = .ok (.aload_n 0, 1) := by decide +kernel
theorem dX9_dueBy_40 : decode cX9_dueBy 40 = .ok (.getfield 7, 3) := by decide +kernel
theorem dX9_dueBy_43 : decode cX9_dueBy 43 = .ok (.iload_n 3, 1) := by decide +kernel
theorem dX9_dueBy_44 : decode cX9_dueBy 44 = .ok (.bipush 12, 2) := by decide +kernel
theorem dX9_dueBy_46 : decode cX9_dueBy 46 = .ok (.iadd, 1) := by decide +kernel
theorem dX9_dueBy_47 : decode cX9_dueBy 47 = .ok (.iaload, 1) := by decide +kernel
theorem dX9_dueBy_48 : decode cX9_dueBy 48 = .ok (.invokevirtual 256, 3) := by decide +kernel
theorem dX9_dueBy_51 : decode cX9_dueBy 51 = .ok (.ifCond .eq 13, 3) := by decide +kernel
theorem dX9_dueBy_54 : decode cX9_dueBy 54 = .ok (.aload_n 0, 1) := by decide +kernel
theorem dX9_dueBy_55 : decode cX9_dueBy 55 = .ok (.getfield 7, 3) := by decide +kernel
theorem dX9_dueBy_58 : decode cX9_dueBy 58 = .ok (.iconst 0, 1) := by decide +kernel
theorem dX9_dueBy_59 : decode cX9_dueBy 59 = .ok (.iaload, 1) := by decide +kernel
theorem dX9_dueBy_60 : decode cX9_dueBy 60 = .ok (.iload 4, 2) := by decide +kernel
theorem dX9_dueBy_62 : decode cX9_dueBy 62 = .ok (.iadd, 1) := by decide +kernel
theorem dX9_dueBy_63 : decode cX9_dueBy 63 = .ok (.ireturn, 1) := by decide +kernel
theorem dX9_dueBy_64 : decode cX9_dueBy 64 = .ok (.iinc 4 1, 3) := by decide +kernel
theorem dX9_dueBy_67 : decode cX9_dueBy 67 = .ok (.goto (-58), 3) := by decide +kernel
theorem dX9_dueBy_70 : decode cX9_dueBy 70 = .ok (.ldc 59, 2) := by decide +kernel
theorem dX9_dueBy_72 : decode cX9_dueBy 72 = .ok (.ireturn, 1) := by decide +kernel
theorem dX9_due_0 : decode cX9_due 0 = .ok (.aload_n 0, 1) := by decide +kernel
theorem dX9_due_1 : decode cX9_due 1 = .ok (.iload_n 1, 1) := by decide +kernel
theorem dX9_due_2 : decode cX9_due 2 = .ok (.invokevirtual 101, 3) := by decide +kernel
theorem dX9_due_5 : decode cX9_due 5 = .ok (.ifCond .ne 6, 3) := by decide +kernel
theorem dX9_due_8 : decode cX9_due 8 = .ok (.ldc 87, 2) := by decide +kernel
theorem dX9_due_10 : decode cX9_due 10 = .ok (.ireturn, 1) := by decide +kernel
theorem dX9_due_11 : decode cX9_due 11 = .ok (.aload_n 0, 1) := by decide +kernel
theorem dX9_due_12 : decode cX9_due 12 = .ok (.iload_n 1, 1) := by decide +kernel
theorem dX9_due_13 : decode cX9_due 13 = .ok (.invokevirtual 262, 3) := by decide +kernel
theorem dX9_due_16 : decode cX9_due 16 = .ok (.ifCond .eq 8, 3) := by decide +kernel
theorem dX9_due_19 : decode cX9_due 19 = .ok (.ldc 106, 2) := by decide +kernel
theorem dX9_due_21 : decode cX9_due 21 = .ok (.goto 13, 3) := by decide +kernel
theorem dX9_due_24 : decode cX9_due 24 = .ok (.aload_n 0, 1) := by decide +kernel
theorem dX9_due_25 : decode cX9_due 25 = .ok (.iload_n 1, 1) := by decide +kernel
theorem dX9_due_26 : decode cX9_due 26 = .ok (.aload_n 0, 1) := by decide +kernel
theorem dX9_due_27 : decode cX9_due 27 = .ok (.iload_n 1, 1) := by decide +kernel
theorem dX9_due_28 : decode cX9_due 28 = .ok (.invokevirtual 116, 3) := by decide +kernel
theorem dX9_due_31 : decode cX9_due 31 = .ok (.invokevirtual 271, 3) := by decide +kernel
theorem dX9_due_34 : decode cX9_due 34 = .ok (.ireturn, 1) := by decide +kernel
theorem dX9_moves_0 : decode cX9_moves 0 = .ok (.aload_n 0, 1) := by decide +kernel
theorem dX9_moves_1 : decode cX9_moves 1 = .ok (.iload_n 1, 1) := by decide +kernel
theorem dX9_moves_2 : decode cX9_moves 2 = .ok (.invokevirtual 268, 3) := by decide +kernel
theorem dX9_moves_5 : decode cX9_moves 5 = .ok (.ifCond .ne 6, 3) := by decide +kernel
theorem dX9_moves_8 : decode cX9_moves 8 = .ok (.ldc 87, 2) := by decide +kernel
theorem dX9_moves_10 : decode cX9_moves 10 = .ok (.ireturn, 1) := by decide +kernel
theorem dX9_moves_11 : decode cX9_moves 11 = .ok (.aload_n 0, 1) := by decide +kernel
theorem dX9_moves_12 : decode cX9_moves 12 = .ok (.getfield 7, 3) := by decide +kernel
theorem dX9_moves_15 : decode cX9_moves 15 = .ok (.aload_n 0, 1) := by decide +kernel
theorem dX9_moves_16 : decode cX9_moves 16 = .ok (.iload_n 1, 1) := by decide +kernel
theorem dX9_moves_17 : decode cX9_moves 17 = .ok (.invokevirtual 111, 3) := by decide +kernel
theorem dX9_moves_20 : decode cX9_moves 20 = .ok (.iaload, 1) := by decide +kernel
theorem dX9_moves_21 : decode cX9_moves 21 = .ok (.istore_n 2, 1) := by decide +kernel
theorem dX9_moves_22 : decode cX9_moves 22 = .ok (.aload_n 0, 1) := by decide +kernel
theorem dX9_moves_23 : decode cX9_moves 23 = .ok (.getfield 7, 3) := by decide +kernel
theorem dX9_moves_26 : decode cX9_moves 26 = .ok (.aload_n 0, 1) := by decide +kernel
theorem dX9_moves_27 : decode cX9_moves 27 = .ok (.iload_n 1, 1) := by decide +kernel
theorem dX9_moves_28 : decode cX9_moves 28 = .ok (.invokevirtual 111, 3) := by decide +kernel
theorem dX9_moves_31 : decode cX9_moves 31 = .ok (.iconst 3, 1) := by decide +kernel
theorem dX9_moves_32 : decode cX9_moves 32 = .ok (.iadd, 1) := by decide +kernel
theorem dX9_moves_33 : decode cX9_moves 33 = .ok (.iaload, 1) := by decide +kernel
theorem dX9_moves_34 : decode cX9_moves 34 = .ok (.iconst 1, 1) := by decide +kernel
theorem dX9_moves_35 : decode cX9_moves 35 = .ok (.if_icmp .eq 11, 3) := by decide +kernel
theorem dX9_moves_38 : decode cX9_moves 38 = .ok (.aload_n 0, 1) := by decide +kernel
theorem dX9_moves_39 : decode cX9_moves 39 = .ok (.iload_n 2, 1) := by decide +kernel
theorem dX9_moves_40 : decode cX9_moves 40 = .ok (.invokevirtual 70, 3) := by decide +kernel
theorem dX9_moves_43 : decode cX9_moves 43 = .ok (.ifCond .eq 6, 3) := by decide +kernel
theorem dX9_moves_46 : decode cX9_moves 46 = .ok (.ldc 106, 2) := by decide +kernel
theorem dX9_moves_48 : decode cX9_moves 48 = .ok (.ireturn, 1) := by decide +kernel
theorem dX9_moves_49 : decode cX9_moves 49 = .ok (.aload_n 0, 1) := by decide +kernel
theorem dX9_moves_50 : decode cX9_moves 50 = .ok (.iload_n 2, 1) := by decide +kernel
theorem dX9_moves_51 : decode cX9_moves 51 = .ok (.aload_n 0, 1) := by decide +kernel
theorem dX9_moves_52 : decode cX9_moves 52 = .ok (.iload_n 2, 1) := by decide +kernel
theorem dX9_moves_53 : decode cX9_moves 53 = .ok (.invokevirtual 116, 3) := by decide +kernel
theorem dX9_moves_56 : decode cX9_moves 56 = .ok (.invokevirtual 271, 3) := by decide +kernel
theorem dX9_moves_59 : decode cX9_moves 59 = .ok (.istore_n 3, 1) := by decide +kernel
theorem dX9_moves_60 : decode cX9_moves 60 = .ok (.aload_n 0, 1) := by decide +kernel
theorem dX9_moves_61 : decode cX9_moves 61 = .ok (.iload_n 2, 1) := by decide +kernel
theorem dX9_moves_62 : decode cX9_moves 62 = .ok (.aload_n 0, 1) := by decide +kernel
theorem dX9_moves_63 : decode cX9_moves 63 = .ok (.iload_n 2, 1) := by decide +kernel
theorem dX9_moves_64 : decode cX9_moves 64 = .ok (.invokevirtual 116, 3) := by decide +kernel
theorem dX9_moves_67 : decode cX9_moves 67 = .ok (.iconst 1, 1) := by decide +kernel
theorem dX9_moves_68 : decode cX9_moves 68 = .ok (.isub, 1) := by decide +kernel
theorem dX9_moves_69 : decode cX9_moves 69 = .ok (.invokevirtual 271, 3) := by decide +kernel
theorem dX9_moves_72 : decode cX9_moves 72 = .ok (.istore 4, 2) := by decide +kernel
theorem dX9_moves_74 : decode cX9_moves 74 = .ok (.iload_n 3, 1) := by decide +kernel
theorem dX9_moves_75 : decode cX9_moves 75 = .ok (.ldc 59, 2) := by decide +kernel
theorem dX9_moves_77 : decode cX9_moves 77 = .ok (.if_icmp .eq 10, 3) := by decide +kernel
theorem dX9_moves_80 : decode cX9_moves 80 = .ok (.iload 4, 2) := by decide +kernel
theorem dX9_moves_82 : decode cX9_moves 82 = .ok (.ldc 59, 2) := by decide +kernel
theorem dX9_moves_84 : decode cX9_moves 84 = .ok (.if_icmp .ne 8, 3) := by decide +kernel
theorem dX9_moves_87 : decode cX9_moves 87 = .ok (.ldc 59, 2) := by decide +kernel
theorem dX9_moves_89 : decode cX9_moves 89 = .ok (.goto 7, 3) := by decide +kernel
theorem dX9_moves_92 : decode cX9_moves 92 = .ok (.iload_n 3, 1) := by decide +kernel
theorem dX9_moves_93 : decode cX9_moves 93 = .ok (.iload 4, 2) := by decide +kernel
theorem dX9_moves_95 : decode cX9_moves 95 = .ok (.isub, 1) := by decide +kernel
theorem dX9_moves_96 : decode cX9_moves 96 = .ok (.ireturn, 1) := by decide +kernel
theorem dX9_wants_0 : decode cX9_wants 0 = .ok (.aload_n 0, 1) := by decide +kernel
theorem dX9_wants_1 : decode cX9_wants 1 = .ok (.iload_n 1, 1) := by decide +kernel
theorem dX9_wants_2 : decode cX9_wants 2 = .ok (.invokevirtual 129, 3) := by decide +kernel
theorem dX9_wants_5 : decode cX9_wants 5 = .ok (.istore_n 3, 1) := by decide +kernel
theorem dX9_wants_6 : decode cX9_wants 6 = .ok (.aload_n 0, 1) := by decide +kernel
theorem dX9_wants_7 : decode cX9_wants 7 = .ok (.getfield 7, 3) := by decide +kernel
theorem dX9_wants_10 : decode cX9_wants 10 = .ok (.iload_n 3, 1) := by decide +kernel
theorem dX9_wants_11 : decode cX9_wants 11 = .ok (.iaload, 1) := by decide +kernel
theorem dX9_wants_12 : decode cX9_wants 12 = .ok (.aload_n 0, 1) := by decide +kernel
theorem dX9_wants_13 : decode cX9_wants 13 = .ok (.getfield 7, 3) := by decide +kernel
theorem dX9_wants_16 : decode cX9_wants 16 = .ok (.aload_n 0, 1) := by decide +kernel
theorem dX9_wants_17 : decode cX9_wants 17 = .ok (.iload_n 2, 1) := by decide +kernel
theorem dX9_wants_18 : decode cX9_wants 18 = .ok (.invokevirtual 66, 3) := by decide +kernel
theorem dX9_wants_21 : decode cX9_wants 21 = .ok (.iconst 4, 1) := by decide +kernel
theorem dX9_wants_22 : decode cX9_wants 22 = .ok (.iadd, 1) := by decide +kernel
theorem dX9_wants_23 : decode cX9_wants 23 = .ok (.iaload, 1) := by decide +kernel
theorem dX9_wants_24 : decode cX9_wants 24 = .ok (.if_icmp .ne 34, 3) := by decide +kernel
theorem dX9_wants_27 : decode cX9_wants 27 = .ok (.aload_n 0, 1) := by decide +kernel
theorem dX9_wants_28 : decode cX9_wants 28 = .ok (.getfield 7, 3) := by decide +kernel
theorem dX9_wants_31 : decode cX9_wants 31 = .ok (.iload_n 3, 1) := by decide +kernel
theorem dX9_wants_32 : decode cX9_wants 32 = .ok (.iconst 1, 1) := by decide +kernel
theorem dX9_wants_33 : decode cX9_wants 33 = .ok (.iadd, 1) := by decide +kernel
theorem dX9_wants_34 : decode cX9_wants 34 = .ok (.iaload, 1) := by decide +kernel
theorem dX9_wants_35 : decode cX9_wants 35 = .ok (.aload_n 0, 1) := by decide +kernel
theorem dX9_wants_36 : decode cX9_wants 36 = .ok (.getfield 7, 3) := by decide +kernel
theorem dX9_wants_39 : decode cX9_wants 39 = .ok (.aload_n 0, 1) := by decide +kernel
theorem dX9_wants_40 : decode cX9_wants 40 = .ok (.iload_n 2, 1) := by decide +kernel
theorem dX9_wants_41 : decode cX9_wants 41 = .ok (.invokevirtual 66, 3) := by decide +kernel
theorem dX9_wants_44 : decode cX9_wants 44 = .ok (.iconst 1, 1) := by decide +kernel
theorem dX9_wants_45 : decode cX9_wants 45 = .ok (.iadd, 1) := by decide +kernel
theorem dX9_wants_46 : decode cX9_wants 46 = .ok (.iaload, 1) := by decide +kernel
theorem dX9_wants_47 : decode cX9_wants 47 = .ok (.ishr, 1) := by decide +kernel
theorem dX9_wants_48 : decode cX9_wants 48 = .ok (.iconst 1, 1) := by decide +kernel
theorem dX9_wants_49 : decode cX9_wants 49 = .ok (.iand, 1) := by decide +kernel
theorem dX9_wants_50 : decode cX9_wants 50 = .ok (.iconst 1, 1) := by decide +kernel
theorem dX9_wants_51 : decode cX9_wants 51 = .ok (.if_icmp .ne 7, 3) := by decide +kernel
theorem dX9_wants_54 : decode cX9_wants 54 = .ok (.iconst 1, 1) := by decide +kernel
theorem dX9_wants_55 : decode cX9_wants 55 = .ok (.goto 4, 3) := by decide +kernel
theorem dX9_wants_58 : decode cX9_wants 58 = .ok (.iconst 0, 1) := by decide +kernel
theorem dX9_wants_59 : decode cX9_wants 59 = .ok (.ireturn, 1) := by decide +kernel
theorem dX9_assign_0 : decode cX9_assign 0 = .ok (.aload_n 0, 1) := by decide +kernel
theorem dX9_assign_1 : decode cX9_assign 1 = .ok (.iload_n 1, 1) := by decide +kernel
theorem dX9_assign_2 : decode cX9_assign 2 = .ok (.invokevirtual 101, 3) := by decide +kernel
theorem dX9_assign_5 : decode cX9_assign 5 = .ok (.ifCond .eq 11, 3) := by decide +kernel
theorem dX9_assign_8 : decode cX9_assign 8 = .ok (.aload_n 0, 1) := by decide +kernel
theorem dX9_assign_9 : decode cX9_assign 9 = .ok (.iload_n 2, 1) := by decide +kernel
theorem dX9_assign_10 : decode cX9_assign 10 = .ok (.invokevirtual 132, 3) := by decide +kernel
theorem dX9_assign_13 : decode cX9_assign 13 = .ok (.ifCond .ne 6, 3) := by decide +kernel
theorem dX9_assign_16 : decode cX9_assign 16 = .ok (.ldc 87, 2) := by decide +kernel
theorem dX9_assign_18 : decode cX9_assign 18 = .ok (.ireturn, 1) := by decide +kernel
theorem dX9_assign_19 : decode cX9_assign 19 = .ok (.aload_n 0, 1) := by decide +kernel
theorem dX9_assign_20 : decode cX9_assign 20 = .ok (.iload_n 1, 1) := by decide +kernel
theorem dX9_assign_21 : decode cX9_assign 21 = .ok (.invokevirtual 77, 3) := by decide +kernel
theorem dX9_assign_24 : decode cX9_assign 24 = .ok (.iconst 1, 1) := by decide +kernel
theorem dX9_assign_25 : decode cX9_assign 25 = .ok (.if_icmp .eq 6, 3) := by decide +kernel
theorem dX9_assign_28 : decode cX9_assign 28 = .ok (.ldc 122, 2) := by decide +kernel
theorem dX9_assign_30 : decode cX9_assign 30 = .ok (.ireturn, 1) := by decide +kernel
theorem dX9_assign_31 : decode cX9_assign 31 = .ok (.aload_n 0, 1) := by decide +kernel
theorem dX9_assign_32 : decode cX9_assign 32 = .ok (.iload_n 1, 1) := by decide +kernel
theorem dX9_assign_33 : decode cX9_assign 33 = .ok (.invokevirtual 262, 3) := by decide +kernel
theorem dX9_assign_36 : decode cX9_assign 36 = .ok (.ifCond .ne 32, 3) := by decide +kernel
theorem dX9_assign_39 : decode cX9_assign 39 = .ok (.aload_n 0, 1) := by decide +kernel
theorem dX9_assign_40 : decode cX9_assign 40 = .ok (.iload_n 2, 1) := by decide +kernel
theorem dX9_assign_41 : decode cX9_assign 41 = .ok (.iload_n 1, 1) := by decide +kernel
theorem dX9_assign_42 : decode cX9_assign 42 = .ok (.invokevirtual 274, 3) := by decide +kernel
theorem dX9_assign_45 : decode cX9_assign 45 = .ok (.ifCond .eq 23, 3) := by decide +kernel
theorem dX9_assign_48 : decode cX9_assign 48 = .ok (.aload_n 0, 1) := by decide +kernel
theorem dX9_assign_49 : decode cX9_assign 49 = .ok (.iload_n 2, 1) := by decide +kernel
theorem dX9_assign_50 : decode cX9_assign 50 = .ok (.invokevirtual 135, 3) := by decide +kernel
theorem dX9_assign_53 : decode cX9_assign 53 = .ok (.aload_n 0, 1) := by decide +kernel
theorem dX9_assign_54 : decode cX9_assign 54 = .ok (.getfield 7, 3) := by decide +kernel
theorem dX9_assign_57 : decode cX9_assign 57 = .ok (.aload_n 0, 1) := by decide +kernel
theorem dX9_assign_58 : decode cX9_assign 58 = .ok (.iload_n 2, 1) := by decide +kernel
theorem dX9_assign_59 : decode cX9_assign 59 = .ok (.invokevirtual 129, 3) := by decide +kernel
theorem dX9_assign_62 : decode cX9_assign 62 = .ok (.iconst 2, 1) := by decide +kernel
theorem dX9_assign_63 : decode cX9_assign 63 = .ok (.iadd, 1) := by decide +kernel
theorem dX9_assign_64 : decode cX9_assign 64 = .ok (.iaload, 1) := by decide +kernel
theorem dX9_assign_65 : decode cX9_assign 65 = .ok (.if_icmp .lt 6, 3) := by decide +kernel
theorem dX9_assign_68 : decode cX9_assign 68 = .ok (.ldc 106, 2) := by decide +kernel
theorem dX9_assign_70 : decode cX9_assign 70 = .ok (.ireturn, 1) := by decide +kernel
theorem dX9_assign_71 : decode cX9_assign 71 = .ok (.aload_n 0, 1) := by decide +kernel
theorem dX9_assign_72 : decode cX9_assign 72 = .ok (.iload_n 1, 1) := by decide +kernel
theorem dX9_assign_73 : decode cX9_assign 73 = .ok (.iconst 2, 1) := by decide +kernel
theorem dX9_assign_74 : decode cX9_assign 74 = .ok (.iload_n 2, 1) := by decide +kernel
theorem dX9_assign_75 : decode cX9_assign 75 = .ok (.invokevirtual 97, 3) := by decide +kernel
theorem dX9_assign_78 : decode cX9_assign 78 = .ok (.iconst 1, 1) := by decide +kernel
theorem dX9_assign_79 : decode cX9_assign 79 = .ok (.ireturn, 1) := by decide +kernel
theorem dX9_back_0 : decode cX9_back 0 = .ok (.aload_n 0, 1) := by decide +kernel
theorem dX9_back_1 : decode cX9_back 1 = .ok (.iload_n 1, 1) := by decide +kernel
theorem dX9_back_2 : decode cX9_back 2 = .ok (.invokevirtual 101, 3) := by decide +kernel
theorem dX9_back_5 : decode cX9_back 5 = .ok (.ifCond .ne 6, 3) := by decide +kernel
theorem dX9_back_8 : decode cX9_back 8 = .ok (.ldc 87, 2) := by decide +kernel
theorem dX9_back_10 : decode cX9_back 10 = .ok (.ireturn, 1) := by decide +kernel
theorem dX9_back_11 : decode cX9_back 11 = .ok (.aload_n 0, 1) := by decide +kernel
theorem dX9_back_12 : decode cX9_back 12 = .ok (.iload_n 1, 1) := by decide +kernel
theorem dX9_back_13 : decode cX9_back 13 = .ok (.invokevirtual 77, 3) := by decide +kernel
theorem dX9_back_16 : decode cX9_back 16 = .ok (.iconst 2, 1) := by decide +kernel
theorem dX9_back_17 : decode cX9_back 17 = .ok (.if_icmp .eq 6, 3) := by decide +kernel
theorem dX9_back_20 : decode cX9_back 20 = .ok (.ldc 122, 2) := by decide +kernel
theorem dX9_back_22 : decode cX9_back 22 = .ok (.ireturn, 1) := by decide +kernel
theorem dX9_back_23 : decode cX9_back 23 = .ok (.aload_n 0, 1) := by decide +kernel
theorem dX9_back_24 : decode cX9_back 24 = .ok (.iload_n 1, 1) := by decide +kernel
theorem dX9_back_25 : decode cX9_back 25 = .ok (.invokevirtual 70, 3) := by decide +kernel
theorem dX9_back_28 : decode cX9_back 28 = .ok (.ifCond .eq 6, 3) := by decide +kernel
theorem dX9_back_31 : decode cX9_back 31 = .ok (.ldc 106, 2) := by decide +kernel
theorem dX9_back_33 : decode cX9_back 33 = .ok (.ireturn, 1) := by decide +kernel
theorem dX9_back_34 : decode cX9_back 34 = .ok (.aload_n 0, 1) := by decide +kernel
theorem dX9_back_35 : decode cX9_back 35 = .ok (.getfield 7, 3) := by decide +kernel
theorem dX9_back_38 : decode cX9_back 38 = .ok (.aload_n 0, 1) := by decide +kernel
theorem dX9_back_39 : decode cX9_back 39 = .ok (.iload_n 1, 1) := by decide +kernel
theorem dX9_back_40 : decode cX9_back 40 = .ok (.invokevirtual 66, 3) := by decide +kernel
theorem dX9_back_43 : decode cX9_back 43 = .ok (.bipush 6, 2) := by decide +kernel
theorem dX9_back_45 : decode cX9_back 45 = .ok (.iadd, 1) := by decide +kernel
theorem dX9_back_46 : decode cX9_back 46 = .ok (.iaload, 1) := by decide +kernel
theorem dX9_back_47 : decode cX9_back 47 = .ok (.istore_n 2, 1) := by decide +kernel
theorem dX9_back_48 : decode cX9_back 48 = .ok (.aload_n 0, 1) := by decide +kernel
theorem dX9_back_49 : decode cX9_back 49 = .ok (.iload_n 1, 1) := by decide +kernel
theorem dX9_back_50 : decode cX9_back 50 = .ok (.iconst 1, 1) := by decide +kernel
theorem dX9_back_51 : decode cX9_back 51 = .ok (.iconst 0, 1) := by decide +kernel
theorem dX9_back_52 : decode cX9_back 52 = .ok (.invokevirtual 97, 3) := by decide +kernel
theorem dX9_back_55 : decode cX9_back 55 = .ok (.iload_n 2, 1) := by decide +kernel
theorem dX9_back_56 : decode cX9_back 56 = .ok (.ireturn, 1) := by decide +kernel
theorem dX9_ruleFor_0 : decode cX9_ruleFor 0 = .ok (.aload_n 0, 1) := by decide +kernel
theorem dX9_ruleFor_1 : decode cX9_ruleFor 1 = .ok (.iload_n 2, 1) := by decide +kernel
theorem dX9_ruleFor_2 : decode cX9_ruleFor 2 = .ok (.invokevirtual 66, 3) := by decide +kernel
theorem dX9_ruleFor_5 : decode cX9_ruleFor 5 = .ok (.istore_n 3, 1) := by decide +kernel
theorem dX9_ruleFor_6 : decode cX9_ruleFor 6 = .ok (.aload_n 0, 1) := by decide +kernel
theorem dX9_ruleFor_7 : decode cX9_ruleFor 7 = .ok (.iload_n 1, 1) := by decide +kernel
theorem dX9_ruleFor_8 : decode cX9_ruleFor 8 = .ok (.aload_n 0, 1) := by decide +kernel
theorem dX9_ruleFor_9 : decode cX9_ruleFor 9 = .ok (.getfield 7, 3) := by decide +kernel
theorem dX9_ruleFor_12 : decode cX9_ruleFor 12 = .ok (.iconst 0, 1) := by decide +kernel
theorem dX9_ruleFor_13 : decode cX9_ruleFor 13 = .ok (.iaload, 1) := by decide +kernel
theorem dX9_ruleFor_14 : decode cX9_ruleFor 14 = .ok (.aload_n 0, 1) := by decide +kernel
theorem dX9_ruleFor_15 : decode cX9_ruleFor 15 = .ok (.getfield 7, 3) := by decide +kernel
theorem dX9_ruleFor_18 : decode cX9_ruleFor 18 = .ok (.iload_n 3, 1) := by decide +kernel
theorem dX9_ruleFor_19 : decode cX9_ruleFor 19 = .ok (.bipush 10, 2) := by decide +kernel
theorem dX9_ruleFor_21 : decode cX9_ruleFor 21 = .ok (.iadd, 1) := by decide +kernel
theorem dX9_ruleFor_22 : decode cX9_ruleFor 22 = .ok (.iaload, 1) := by decide +kernel
theorem dX9_ruleFor_23 : decode cX9_ruleFor 23 = .ok (.isub, 1) := by decide +kernel
theorem dX9_ruleFor_24 : decode cX9_ruleFor 24 = .ok (.aload_n 0, 1) := by decide +kernel
theorem dX9_ruleFor_25 : decode cX9_ruleFor 25 = .ok (.iload_n 2, 1) := by decide +kernel
theorem dX9_ruleFor_26 : decode cX9_ruleFor 26 = .ok (.invokevirtual 116, 3) := by decide +kernel
theorem dX9_ruleFor_29 : decode cX9_ruleFor 29 = .ok (.aload_n 0, 1) := by decide +kernel
theorem dX9_ruleFor_30 : decode cX9_ruleFor 30 = .ok (.getfield 7, 3) := by decide +kernel
theorem dX9_ruleFor_33 : decode cX9_ruleFor 33 = .ok (.iload_n 3, 1) := by decide +kernel
theorem dX9_ruleFor_34 : decode cX9_ruleFor 34 = .ok (.bipush 12, 2) := by decide +kernel
theorem dX9_ruleFor_36 : decode cX9_ruleFor 36 = .ok (.iadd, 1) := by decide +kernel
theorem dX9_ruleFor_37 : decode cX9_ruleFor 37 = .ok (.iaload, 1) := by decide +kernel
theorem dX9_ruleFor_38 : decode cX9_ruleFor 38 = .ok (.invokevirtual 256, 3) := by decide +kernel
theorem dX9_ruleFor_41 : decode cX9_ruleFor 41 = .ok (.ireturn, 1) := by decide +kernel
theorem dX9_ticket_0 : decode cX9_ticket 0 = .ok (.aload_n 0, 1) := by decide +kernel
theorem dX9_ticket_1 : decode cX9_ticket 1 = .ok (.iload_n 1, 1) := by decide +kernel
theorem dX9_ticket_2 : decode cX9_ticket 2 = .ok (.invokevirtual 101, 3) := by decide +kernel
theorem dX9_ticket_5 : decode cX9_ticket 5 = .ok (.ifCond .ne 6, 3) := by decide +kernel
theorem dX9_ticket_8 : decode cX9_ticket 8 = .ok (.ldc 87, 2) := by decide +kernel
theorem dX9_ticket_10 : decode cX9_ticket 10 = .ok (.ireturn, 1) := by decide +kernel
theorem dX9_ticket_11 : decode cX9_ticket 11 = .ok (.aload_n 0, 1) := by decide +kernel
theorem dX9_ticket_12 : decode cX9_ticket 12 = .ok (.iload_n 1, 1) := by decide +kernel
theorem dX9_ticket_13 : decode cX9_ticket 13 = .ok (.invokevirtual 77, 3) := by decide +kernel
theorem dX9_ticket_16 : decode cX9_ticket 16 = .ok (.iconst 1, 1) := by decide +kernel
theorem dX9_ticket_17 : decode cX9_ticket 17 = .ok (.if_icmp .eq 15, 3) := by decide +kernel
theorem dX9_ticket_20 : decode cX9_ticket 20 = .ok (.aload_n 0, 1) := by decide +kernel
theorem dX9_ticket_21 : decode cX9_ticket 21 = .ok (.iload_n 1, 1) := by decide +kernel
theorem dX9_ticket_22 : decode cX9_ticket 22 = .ok (.invokevirtual 77, 3) := by decide +kernel
theorem dX9_ticket_25 : decode cX9_ticket 25 = .ok (.iconst 2, 1) := by decide +kernel
theorem dX9_ticket_26 : decode cX9_ticket 26 = .ok (.if_icmp .eq 6, 3) := by decide +kernel
theorem dX9_ticket_29 : decode cX9_ticket 29 = .ok (.ldc 122, 2) := by decide +kernel
theorem dX9_ticket_31 : decode cX9_ticket 31 = .ok (.ireturn, 1) := by decide +kernel
theorem dX9_ticket_32 : decode cX9_ticket 32 = .ok (.aload_n 0, 1) := by decide +kernel
theorem dX9_ticket_33 : decode cX9_ticket 33 = .ok (.iload_n 1, 1) := by decide +kernel
theorem dX9_ticket_34 : decode cX9_ticket 34 = .ok (.invokevirtual 262, 3) := by decide +kernel
theorem dX9_ticket_37 : decode cX9_ticket 37 = .ok (.ifCond .ne 12, 3) := by decide +kernel
theorem dX9_ticket_40 : decode cX9_ticket 40 = .ok (.aload_n 0, 1) := by decide +kernel
theorem dX9_ticket_41 : decode cX9_ticket 41 = .ok (.iconst 0, 1) := by decide +kernel
theorem dX9_ticket_42 : decode cX9_ticket 42 = .ok (.iload_n 1, 1) := by decide +kernel
theorem dX9_ticket_43 : decode cX9_ticket 43 = .ok (.invokevirtual 277, 3) := by decide +kernel
theorem dX9_ticket_46 : decode cX9_ticket 46 = .ok (.ifCond .ne 6, 3) := by decide +kernel
theorem dX9_ticket_49 : decode cX9_ticket 49 = .ok (.ldc 106, 2) := by decide +kernel
theorem dX9_ticket_51 : decode cX9_ticket 51 = .ok (.ireturn, 1) := by decide +kernel
theorem dX9_ticket_52 : decode cX9_ticket 52 = .ok (.aload_n 0, 1) := by decide +kernel
theorem dX9_ticket_53 : decode cX9_ticket 53 = .ok (.iload_n 1, 1) := by decide +kernel
theorem dX9_ticket_54 : decode cX9_ticket 54 = .ok (.iconst 4, 1) := by decide +kernel
theorem dX9_ticket_55 : decode cX9_ticket 55 = .ok (.aload_n 0, 1) := by decide +kernel
theorem dX9_ticket_56 : decode cX9_ticket 56 = .ok (.getfield 7, 3) := by decide +kernel
theorem dX9_ticket_59 : decode cX9_ticket 59 = .ok (.aload_n 0, 1) := by decide +kernel
theorem dX9_ticket_60 : decode cX9_ticket 60 = .ok (.iload_n 1, 1) := by decide +kernel
theorem dX9_ticket_61 : decode cX9_ticket 61 = .ok (.invokevirtual 66, 3) := by decide +kernel
theorem dX9_ticket_64 : decode cX9_ticket 64 = .ok (.iconst 4, 1) := by decide +kernel
theorem dX9_ticket_65 : decode cX9_ticket 65 = .ok (.iadd, 1) := by decide +kernel
theorem dX9_ticket_66 : decode cX9_ticket 66 = .ok (.iaload, 1) := by decide +kernel
theorem dX9_ticket_67 : decode cX9_ticket 67 = .ok (.invokevirtual 97, 3) := by decide +kernel
theorem dX9_ticket_70 : decode cX9_ticket 70 = .ok (.iconst 1, 1) := by decide +kernel
theorem dX9_ticket_71 : decode cX9_ticket 71 = .ok (.ireturn, 1) := by decide +kernel
theorem dX9_pardon_0 : decode cX9_pardon 0 = .ok (.aload_n 0, 1) := by decide +kernel
theorem dX9_pardon_1 : decode cX9_pardon 1 = .ok (.iload_n 1, 1) := by decide +kernel
theorem dX9_pardon_2 : decode cX9_pardon 2 = .ok (.invokevirtual 101, 3) := by decide +kernel
theorem dX9_pardon_5 : decode cX9_pardon 5 = .ok (.ifCond .eq 13, 3) := by decide +kernel
theorem dX9_pardon_8 : decode cX9_pardon 8 = .ok (.iload_n 2, 1) := by decide +kernel
theorem dX9_pardon_9 : decode cX9_pardon 9 = .ok (.i2l, 1) := by decide +kernel
theorem dX9_pardon_10 : decode cX9_pardon 10 = .ok (.lconst 0, 1) := by decide +kernel
theorem dX9_pardon_11 : decode cX9_pardon 11 = .ok (.lconst 1, 1) := by decide +kernel
theorem dX9_pardon_12 : decode cX9_pardon 12 = .ok (.invokestatic 60, 3) := by decide +kernel
theorem dX9_pardon_15 : decode cX9_pardon 15 = .ok (.ifCond .ne 6, 3) := by decide +kernel
theorem dX9_pardon_18 : decode cX9_pardon 18 = .ok (.ldc 87, 2) := by decide +kernel
theorem dX9_pardon_20 : decode cX9_pardon 20 = .ok (.ireturn, 1) := by decide +kernel
theorem dX9_pardon_21 : decode cX9_pardon 21 = .ok (.aload_n 0, 1) := by decide +kernel
theorem dX9_pardon_22 : decode cX9_pardon 22 = .ok (.iload_n 1, 1) := by decide +kernel
theorem dX9_pardon_23 : decode cX9_pardon 23 = .ok (.invokevirtual 280, 3) := by decide +kernel
theorem dX9_pardon_26 : decode cX9_pardon 26 = .ok (.ifCond .ne 6, 3) := by decide +kernel
theorem dX9_pardon_29 : decode cX9_pardon 29 = .ok (.ldc 122, 2) := by decide +kernel
theorem dX9_pardon_31 : decode cX9_pardon 31 = .ok (.ireturn, 1) := by decide +kernel
theorem dX9_pardon_32 : decode cX9_pardon 32 = .ok (.aload_n 0, 1) := by decide +kernel
theorem dX9_pardon_33 : decode cX9_pardon 33 = .ok (.iload_n 1, 1) := by decide +kernel
theorem dX9_pardon_34 : decode cX9_pardon 34 = .ok (.invokevirtual 262, 3) := by decide +kernel
theorem dX9_pardon_37 : decode cX9_pardon 37 = .ok (.ifCond .ne 12, 3) := by decide +kernel
theorem dX9_pardon_40 : decode cX9_pardon 40 = .ok (.aload_n 0, 1) := by decide +kernel
theorem dX9_pardon_41 : decode cX9_pardon 41 = .ok (.iconst 1, 1) := by decide +kernel
theorem dX9_pardon_42 : decode cX9_pardon 42 = .ok (.iload_n 1, 1) := by decide +kernel
theorem dX9_pardon_43 : decode cX9_pardon 43 = .ok (.invokevirtual 277, 3) := by decide +kernel
theorem dX9_pardon_46 : decode cX9_pardon 46 = .ok (.ifCond .ne 6, 3) := by decide +kernel
theorem dX9_pardon_49 : decode cX9_pardon 49 = .ok (.ldc 106, 2) := by decide +kernel
theorem dX9_pardon_51 : decode cX9_pardon 51 = .ok (.ireturn, 1) := by decide +kernel
theorem dX9_pardon_52 : decode cX9_pardon 52 = .ok (.aload_n 0, 1) := by decide +kernel
theorem dX9_pardon_53 : decode cX9_pardon 53 = .ok (.iload_n 1, 1) := by decide +kernel
theorem dX9_pardon_54 : decode cX9_pardon 54 = .ok (.iconst 5, 1) := by decide +kernel
theorem dX9_pardon_55 : decode cX9_pardon 55 = .ok (.iload_n 2, 1) := by decide +kernel
theorem dX9_pardon_56 : decode cX9_pardon 56 = .ok (.invokevirtual 97, 3) := by decide +kernel
theorem dX9_pardon_59 : decode cX9_pardon 59 = .ok (.iconst 1, 1) := by decide +kernel
theorem dX9_pardon_60 : decode cX9_pardon 60 = .ok (.ireturn, 1) := by decide +kernel
theorem dX9_runs_0 : decode cX9_runs 0 = .ok (.aload_n 0, 1) := by decide +kernel
theorem dX9_runs_1 : decode cX9_runs 1 = .ok (.iload_n 1, 1) := by decide +kernel
theorem dX9_runs_2 : decode cX9_runs 2 = .ok (.invokevirtual 101, 3) := by decide +kernel
theorem dX9_runs_5 : decode cX9_runs 5 = .ok (.ifCond .ne 6, 3) := by decide +kernel
theorem dX9_runs_8 : decode cX9_runs 8 = .ok (.ldc 87, 2) := by decide +kernel
theorem dX9_runs_10 : decode cX9_runs 10 = .ok (.ireturn, 1) := by decide +kernel
theorem dX9_runs_11 : decode cX9_runs 11 = .ok (.aload_n 0, 1) := by decide +kernel
theorem dX9_runs_12 : decode cX9_runs 12 = .ok (.iload_n 1, 1) := by decide +kernel
theorem dX9_runs_13 : decode cX9_runs 13 = .ok (.invokevirtual 280, 3) := by decide +kernel
theorem dX9_runs_16 : decode cX9_runs 16 = .ok (.ifCond .ne 6, 3) := by decide +kernel
theorem dX9_runs_19 : decode cX9_runs 19 = .ok (.ldc 122, 2) := by decide +kernel
theorem dX9_runs_21 : decode cX9_runs 21 = .ok (.ireturn, 1) := by decide +kernel
theorem dX9_runs_22 : decode cX9_runs 22 = .ok (.aload_n 0, 1) := by decide +kernel
theorem dX9_runs_23 : decode cX9_runs 23 = .ok (.iload_n 1, 1) := by decide +kernel
theorem dX9_runs_24 : decode cX9_runs 24 = .ok (.invokevirtual 262, 3) := by decide +kernel
theorem dX9_runs_27 : decode cX9_runs 27 = .ok (.ifCond .eq 6, 3) := by decide +kernel
theorem dX9_runs_30 : decode cX9_runs 30 = .ok (.ldc 106, 2) := by decide +kernel
theorem dX9_runs_32 : decode cX9_runs 32 = .ok (.ireturn, 1) := by decide +kernel
theorem dX9_runs_33 : decode cX9_runs 33 = .ok (.aload_n 0, 1) := by decide +kernel
theorem dX9_runs_34 : decode cX9_runs 34 = .ok (.iload_n 1, 1) := by decide +kernel
theorem dX9_runs_35 : decode cX9_runs 35 = .ok (.bipush 7, 2) := by decide +kernel
theorem dX9_runs_37 : decode cX9_runs 37 = .ok (.aload_n 0, 1) := by decide +kernel
theorem dX9_runs_38 : decode cX9_runs 38 = .ok (.getfield 7, 3) := by decide +kernel
theorem dX9_runs_41 : decode cX9_runs 41 = .ok (.aload_n 0, 1) := by decide +kernel
theorem dX9_runs_42 : decode cX9_runs 42 = .ok (.iload_n 1, 1) := by decide +kernel
theorem dX9_runs_43 : decode cX9_runs 43 = .ok (.invokevirtual 66, 3) := by decide +kernel
theorem dX9_runs_46 : decode cX9_runs 46 = .ok (.iconst 4, 1) := by decide +kernel
theorem dX9_runs_47 : decode cX9_runs 47 = .ok (.iadd, 1) := by decide +kernel
theorem dX9_runs_48 : decode cX9_runs 48 = .ok (.iaload, 1) := by decide +kernel
theorem dX9_runs_49 : decode cX9_runs 49 = .ok (.invokevirtual 97, 3) := by decide +kernel
theorem dX9_runs_52 : decode cX9_runs 52 = .ok (.aload_n 0, 1) := by decide +kernel
theorem dX9_runs_53 : decode cX9_runs 53 = .ok (.getfield 7, 3) := by decide +kernel
theorem dX9_runs_56 : decode cX9_runs 56 = .ok (.aload_n 0, 1) := by decide +kernel
theorem dX9_runs_57 : decode cX9_runs 57 = .ok (.iload_n 1, 1) := by decide +kernel
theorem dX9_runs_58 : decode cX9_runs 58 = .ok (.invokevirtual 66, 3) := by decide +kernel
theorem dX9_runs_61 : decode cX9_runs 61 = .ok (.iconst 4, 1) := by decide +kernel
theorem dX9_runs_62 : decode cX9_runs 62 = .ok (.iadd, 1) := by decide +kernel
theorem dX9_runs_63 : decode cX9_runs 63 = .ok (.iconst (-1), 1) := by decide +kernel
theorem dX9_runs_64 : decode cX9_runs 64 = .ok (.iastore, 1) := by decide +kernel
theorem dX9_runs_65 : decode cX9_runs 65 = .ok (.iconst 1, 1) := by decide +kernel
theorem dX9_runs_66 : decode cX9_runs 66 = .ok (.ireturn, 1) := by decide +kernel
theorem dX9_caught_0 : decode cX9_caught 0 = .ok (.aload_n 0, 1) := by decide +kernel
theorem dX9_caught_1 : decode cX9_caught 1 = .ok (.iload_n 1, 1) := by decide +kernel
theorem dX9_caught_2 : decode cX9_caught 2 = .ok (.invokevirtual 101, 3) := by decide +kernel
theorem dX9_caught_5 : decode cX9_caught 5 = .ok (.ifCond .ne 6, 3) := by decide +kernel
theorem dX9_caught_8 : decode cX9_caught 8 = .ok (.ldc 87, 2) := by decide +kernel
theorem dX9_caught_10 : decode cX9_caught 10 = .ok (.ireturn, 1) := by decide +kernel
theorem dX9_caught_11 : decode cX9_caught 11 = .ok (.aload_n 0, 1) := by decide +kernel
theorem dX9_caught_12 : decode cX9_caught 12 = .ok (.iload_n 1, 1) := by decide +kernel
theorem dX9_caught_13 : decode cX9_caught 13 = .ok (.invokevirtual 77, 3) := by decide +kernel
theorem dX9_caught_16 : decode cX9_caught 16 = .ok (.bipush 7, 2) := by decide +kernel
theorem dX9_caught_18 : decode cX9_caught 18 = .ok (.if_icmp .eq 6, 3) := by decide +kernel
theorem dX9_caught_21 : decode cX9_caught 21 = .ok (.ldc 122, 2) := by decide +kernel
theorem dX9_caught_23 : decode cX9_caught 23 = .ok (.ireturn, 1) := by decide +kernel
theorem dX9_caught_24 : decode cX9_caught 24 = .ok (.aload_n 0, 1) := by decide +kernel
theorem dX9_caught_25 : decode cX9_caught 25 = .ok (.iload_n 1, 1) := by decide +kernel
theorem dX9_caught_26 : decode cX9_caught 26 = .ok (.invokevirtual 70, 3) := by decide +kernel
theorem dX9_caught_29 : decode cX9_caught 29 = .ok (.ifCond .eq 6, 3) := by decide +kernel
theorem dX9_caught_32 : decode cX9_caught 32 = .ok (.ldc 106, 2) := by decide +kernel
theorem dX9_caught_34 : decode cX9_caught 34 = .ok (.ireturn, 1) := by decide +kernel
theorem dX9_caught_35 : decode cX9_caught 35 = .ok (.aload_n 0, 1) := by decide +kernel
theorem dX9_caught_36 : decode cX9_caught 36 = .ok (.iconst 2, 1) := by decide +kernel
theorem dX9_caught_37 : decode cX9_caught 37 = .ok (.iconst 3, 1) := by decide +kernel
theorem dX9_caught_38 : decode cX9_caught 38 = .ok (.aload_n 0, 1) := by decide +kernel
theorem dX9_caught_39 : decode cX9_caught 39 = .ok (.iload_n 1, 1) := by decide +kernel
theorem dX9_caught_40 : decode cX9_caught 40 = .ok (.invokevirtual 116, 3) := by decide +kernel
theorem dX9_caught_43 : decode cX9_caught 43 = .ok (.iconst 1, 1) := by decide +kernel
theorem dX9_caught_44 : decode cX9_caught 44 = .ok (.iadd, 1) := by decide +kernel
theorem dX9_caught_45 : decode cX9_caught 45 = .ok (.iconst 0, 1) := by decide +kernel
theorem dX9_caught_46 : decode cX9_caught 46 = .ok (.invokevirtual 256, 3) := by decide +kernel
theorem dX9_caught_49 : decode cX9_caught 49 = .ok (.istore_n 2, 1) := by decide +kernel
theorem dX9_caught_50 : decode cX9_caught 50 = .ok (.aload_n 0, 1) := by decide +kernel
theorem dX9_caught_51 : decode cX9_caught 51 = .ok (.getfield 7, 3) := by decide +kernel
theorem dX9_caught_54 : decode cX9_caught 54 = .ok (.aload_n 0, 1) := by decide +kernel
theorem dX9_caught_55 : decode cX9_caught 55 = .ok (.iload_n 1, 1) := by decide +kernel
theorem dX9_caught_56 : decode cX9_caught 56 = .ok (.invokevirtual 66, 3) := by decide +kernel
theorem dX9_caught_59 : decode cX9_caught 59 = .ok (.iconst 4, 1) := by decide +kernel
theorem dX9_caught_60 : decode cX9_caught 60 = .ok (.iadd, 1) := by decide +kernel
theorem dX9_caught_61 : decode cX9_caught 61 = .ok (.aload_n 0, 1) := by decide +kernel
theorem dX9_caught_62 : decode cX9_caught 62 = .ok (.getfield 7, 3) := by decide +kernel
theorem dX9_caught_65 : decode cX9_caught 65 = .ok (.aload_n 0, 1) := by decide +kernel
theorem dX9_caught_66 : decode cX9_caught 66 = .ok (.iload_n 1, 1) := by decide +kernel
theorem dX9_caught_67 : decode cX9_caught 67 = .ok (.invokevirtual 66, 3) := by decide +kernel
theorem dX9_caught_70 : decode cX9_caught 70 = .ok (.bipush 6, 2) := by decide +kernel
theorem dX9_caught_72 : decode cX9_caught 72 = .ok (.iadd, 1) := by decide +kernel
theorem dX9_caught_73 : decode cX9_caught 73 = .ok (.iaload, 1) := by decide +kernel
theorem dX9_caught_74 : decode cX9_caught 74 = .ok (.iastore, 1) := by decide +kernel
theorem dX9_caught_75 : decode cX9_caught 75 = .ok (.aload_n 0, 1) := by decide +kernel
theorem dX9_caught_76 : decode cX9_caught 76 = .ok (.iload_n 1, 1) := by decide +kernel
theorem dX9_caught_77 : decode cX9_caught 77 = .ok (.iconst 3, 1) := by decide +kernel
theorem dX9_caught_78 : decode cX9_caught 78 = .ok (.invokevirtual 265, 3) := by decide +kernel
theorem dX9_caught_81 : decode cX9_caught 81 = .ok (.aload_n 0, 1) := by decide +kernel
theorem dX9_caught_82 : decode cX9_caught 82 = .ok (.iload_n 1, 1) := by decide +kernel
theorem dX9_caught_83 : decode cX9_caught 83 = .ok (.iconst 3, 1) := by decide +kernel
theorem dX9_caught_84 : decode cX9_caught 84 = .ok (.aload_n 0, 1) := by decide +kernel
theorem dX9_caught_85 : decode cX9_caught 85 = .ok (.getfield 7, 3) := by decide +kernel
theorem dX9_caught_88 : decode cX9_caught 88 = .ok (.iconst 0, 1) := by decide +kernel
theorem dX9_caught_89 : decode cX9_caught 89 = .ok (.iaload, 1) := by decide +kernel
theorem dX9_caught_90 : decode cX9_caught 90 = .ok (.iload_n 2, 1) := by decide +kernel
theorem dX9_caught_91 : decode cX9_caught 91 = .ok (.iconst 1, 1) := by decide +kernel
theorem dX9_caught_92 : decode cX9_caught 92 = .ok (.if_icmp .ge 7, 3) := by decide +kernel
theorem dX9_caught_95 : decode cX9_caught 95 = .ok (.iconst 1, 1) := by decide +kernel
theorem dX9_caught_96 : decode cX9_caught 96 = .ok (.goto 4, 3) := by decide +kernel
theorem dX9_caught_99 : decode cX9_caught 99 = .ok (.iload_n 2, 1) := by decide +kernel
theorem dX9_caught_100 : decode cX9_caught 100 = .ok (.iadd, 1) := by decide +kernel
theorem dX9_caught_101 : decode cX9_caught 101 = .ok (.invokevirtual 97, 3) := by decide +kernel
theorem dX9_caught_104 : decode cX9_caught 104 = .ok (.aload_n 0, 1) := by decide +kernel
theorem dX9_caught_105 : decode cX9_caught 105 = .ok (.getfield 7, 3) := by decide +kernel
theorem dX9_caught_108 : decode cX9_caught 108 = .ok (.aload_n 0, 1) := by decide +kernel
theorem dX9_caught_109 : decode cX9_caught 109 = .ok (.iload_n 1, 1) := by decide +kernel
theorem dX9_caught_110 : decode cX9_caught 110 = .ok (.invokevirtual 66, 3) := by decide +kernel
theorem dX9_caught_113 : decode cX9_caught 113 = .ok (.bipush 6, 2) := by decide +kernel
theorem dX9_caught_115 : decode cX9_caught 115 = .ok (.iadd, 1) := by decide +kernel
theorem dX9_caught_116 : decode cX9_caught 116 = .ok (.iaload, 1) := by decide +kernel
theorem dX9_caught_117 : decode cX9_caught 117 = .ok (.ireturn, 1) := by decide +kernel
theorem dX9_seed_0 : decode cX9_seed 0 = .ok (.iload_n 1, 1) := by decide +kernel
theorem dX9_seed_1 : decode cX9_seed 1 = .ok (.i2l, 1) := by decide +kernel
theorem dX9_seed_2 : decode cX9_seed 2 = .ok (.lconst 0, 1) := by decide +kernel
theorem dX9_seed_3 : decode cX9_seed 3 = .ok (.ldc2_w 283, 3) := by decide +kernel
theorem dX9_seed_6 : decode cX9_seed 6 = .ok (.invokestatic 60, 3) := by decide +kernel
theorem dX9_seed_9 : decode cX9_seed 9 = .ok (.ifCond .eq 13, 3) := by decide +kernel
theorem dX9_seed_12 : decode cX9_seed 12 = .ok (.aload_n 0, 1) := by decide +kernel
theorem dX9_seed_13 : decode cX9_seed 13 = .ok (.bipush 9, 2) := by decide +kernel
theorem dX9_seed_15 : decode cX9_seed 15 = .ok (.iload_n 1, 1) := by decide +kernel
theorem dX9_seed_16 : decode cX9_seed 16 = .ok (.invokevirtual 107, 3) := by decide +kernel
theorem dX9_seed_19 : decode cX9_seed 19 = .ok (.goto 5, 3) := by decide +kernel
theorem dX9_seed_22 : decode cX9_seed 22 = .ok (.ldc 87, 2) := by decide +kernel
theorem dX9_seed_24 : decode cX9_seed 24 = .ok (.ireturn, 1) := by decide +kernel
theorem dX9_draw_0 : decode cX9_draw 0 = .ok (.aload_n 0, 1) := by decide +kernel
theorem dX9_draw_1 : decode cX9_draw 1 = .ok (.getfield 7, 3) := by decide +kernel
theorem dX9_draw_4 : decode cX9_draw 4 = .ok (.bipush 9, 2) := by decide +kernel
theorem dX9_draw_6 : decode cX9_draw 6 = .ok (.sipush 25173, 3) := by decide +kernel
theorem dX9_draw_9 : decode cX9_draw 9 = .ok (.aload_n 0, 1) := by decide +kernel
theorem dX9_draw_10 : decode cX9_draw 10 = .ok (.getfield 7, 3) := by decide +kernel
theorem dX9_draw_13 : decode cX9_draw 13 = .ok (.bipush 9, 2) := by decide +kernel
theorem dX9_draw_15 : decode cX9_draw 15 = .ok (.iaload, 1) := by decide +kernel
theorem dX9_draw_16 : decode cX9_draw 16 = .ok (.imul, 1) := by decide +kernel
theorem dX9_draw_17 : decode cX9_draw 17 = .ok (.sipush 13849, 3) := by decide +kernel
theorem dX9_draw_20 : decode cX9_draw 20 = .ok (.iadd, 1) := by decide +kernel
theorem dX9_draw_21 : decode cX9_draw 21 = .ok (.ldc_w 285, 3) := by decide +kernel
theorem dX9_draw_24 : decode cX9_draw 24 = .ok (.irem, 1) := by decide +kernel
theorem dX9_draw_25 : decode cX9_draw 25 = .ok (.iastore, 1) := by decide +kernel
theorem dX9_draw_26 : decode cX9_draw 26 = .ok (.aload_n 0, 1) := by decide +kernel
theorem dX9_draw_27 : decode cX9_draw 27 = .ok (.getfield 7, 3) := by decide +kernel
theorem dX9_draw_30 : decode cX9_draw 30 = .ok (.bipush 9, 2) := by decide +kernel
theorem dX9_draw_32 : decode cX9_draw 32 = .ok (.iaload, 1) := by decide +kernel
theorem dX9_draw_33 : decode cX9_draw 33 = .ok (.ireturn, 1) := by decide +kernel
theorem dX9_lands_0 : decode cX9_lands 0 = .ok (.iconst 0, 1) := by decide +kernel
theorem dX9_lands_1 : decode cX9_lands 1 = .ok (.istore_n 1, 1) := by decide +kernel
theorem dX9_lands_2 : decode cX9_lands 2 = .ok (.iload_n 1, 1) := by decide +kernel
theorem dX9_lands_3 : decode cX9_lands 3 = .ok (.aload_n 0, 1) := by decide +kernel
theorem dX9_lands_4 : decode cX9_lands 4 = .ok (.getfield 7, 3) := by decide +kernel
theorem dX9_lands_7 : decode cX9_lands 7 = .ok (.iconst 1, 1) := by decide +kernel
theorem dX9_lands_8 : decode cX9_lands 8 = .ok (.iaload, 1) := by decide +kernel
theorem dX9_lands_9 : decode cX9_lands 9 = .ok (.if_icmp .ge 128, 3) := by decide +kernel
theorem dX9_lands_12 : decode cX9_lands 12 = .ok (.aload_n 0, 1) := by decide +kernel
theorem dX9_lands_13 : decode cX9_lands 13 = .ok (.getfield 7, 3) := by decide +kernel
theorem dX9_lands_16 : decode cX9_lands 16 = .ok (.bipush 30, 2) := by decide +kernel
theorem dX9_lands_18 : decode cX9_lands 18 = .ok (.iconst 2, 1) := by decide +kernel
theorem dX9_lands_19 : decode cX9_lands 19 = .ok (.iload_n 1, 1) := by decide +kernel
theorem dX9_lands_20 : decode cX9_lands 20 = .ok (.imul, 1) := by decide +kernel
theorem dX9_lands_21 : decode cX9_lands 21 = .ok (.iadd, 1) := by decide +kernel
theorem dX9_lands_22 : decode cX9_lands 22 = .ok (.iconst 1, 1) := by decide +kernel
theorem dX9_lands_23 : decode cX9_lands 23 = .ok (.iadd, 1) := by decide +kernel
theorem dX9_lands_24 : decode cX9_lands 24 = .ok (.iaload, 1) := by decide +kernel
theorem dX9_lands_25 : decode cX9_lands 25 = .ok (.aload_n 0, 1) := by decide +kernel
theorem dX9_lands_26 : decode cX9_lands 26 = .ok (.getfield 7, 3) := by decide +kernel
theorem dX9_lands_29 : decode cX9_lands 29 = .ok (.iconst 0, 1) := by decide +kernel
theorem dX9_lands_30 : decode cX9_lands 30 = .ok (.iaload, 1) := by decide +kernel
theorem dX9_lands_31 : decode cX9_lands 31 = .ok (.if_icmp .eq 6, 3) := by decide +kernel
theorem dX9_lands_34 : decode cX9_lands 34 = .ok (.goto 97, 3) := by decide +kernel
theorem dX9_lands_37 : decode cX9_lands 37 = .ok (.iconst 0, 1) := by decide +kernel
theorem dX9_lands_38 : decode cX9_lands 38 = .ok (.istore_n 2, 1) := by decide +kernel
theorem dX9_lands_39 : decode cX9_lands 39 = .ok (.iload_n 2, 1) := by decide +kernel
theorem dX9_lands_40 : decode cX9_lands 40 = .ok (.aload_n 0, 1) := by decide +kernel
theorem dX9_lands_41 : decode cX9_lands 41 = .ok (.getfield 7, 3) := by decide +kernel
theorem dX9_lands_44 : decode cX9_lands 44 = .ok (.iconst 2, 1) := by decide +kernel
theorem dX9_lands_45 : decode cX9_lands 45 = .ok (.iaload, 1) := by decide +kernel
theorem dX9_lands_46 : decode cX9_lands 46 = .ok (.if_icmp .ge 85, 3) := by decide +kernel
theorem dX9_lands_49 : decode cX9_lands 49 = .ok (.aload_n 0, 1) := by decide +kernel
theorem dX9_lands_50 : decode cX9_lands 50 = .ok (.iload_n 2, 1) := by decide +kernel
theorem dX9_lands_51 : decode cX9_lands 51 = .ok (.invokevirtual 66, 3) := by decide +kernel
theorem dX9_lands_54 : decode cX9_lands 54 = .ok (.istore_n 3, 1) := by decide +kernel
theorem dX9_lands_55 : decode cX9_lands 55 = .ok (.aload_n 0, 1) := by decide +kernel
theorem dX9_lands_56 : decode cX9_lands 56 = .ok (.getfield 7, 3) := by decide +kernel
theorem dX9_lands_59 : decode cX9_lands 59 = .ok (.iload_n 3, 1) := by decide +kernel
theorem dX9_lands_60 : decode cX9_lands 60 = .ok (.bipush 13, 2) := by decide +kernel
theorem dX9_lands_62 : decode cX9_lands 62 = .ok (.iadd, 1) := by decide +kernel
theorem dX9_lands_63 : decode cX9_lands 63 = .ok (.iaload, 1) := by decide +kernel
theorem dX9_lands_64 : decode cX9_lands 64 = .ok (.iload_n 1, 1) := by decide +kernel
theorem dX9_lands_65 : decode cX9_lands 65 = .ok (.if_icmp .ne 60, 3) := by decide +kernel
theorem dX9_lands_68 : decode cX9_lands 68 = .ok (.aload_n 0, 1) := by decide +kernel
theorem dX9_lands_69 : decode cX9_lands 69 = .ok (.iload_n 2, 1) := by decide +kernel
theorem dX9_lands_70 : decode cX9_lands 70 = .ok (.invokevirtual 70, 3) := by decide +kernel
theorem dX9_lands_73 : decode cX9_lands 73 = .ok (.ifCond .ne 52, 3) := by decide +kernel
theorem dX9_lands_76 : decode cX9_lands 76 = .ok (.aload_n 0, 1) := by decide +kernel
theorem dX9_lands_77 : decode cX9_lands 77 = .ok (.iload_n 2, 1) := by decide +kernel
theorem dX9_lands_78 : decode cX9_lands 78 = .ok (.invokevirtual 74, 3) := by decide +kernel
theorem dX9_lands_81 : decode cX9_lands 81 = .ok (.ifCond .ne 44, 3) := by decide +kernel
theorem dX9_lands_84 : decode cX9_lands 84 = .ok (.aload_n 0, 1) := by decide +kernel
theorem dX9_lands_85 : decode cX9_lands 85 = .ok (.getfield 7, 3) := by decide +kernel
theorem dX9_lands_88 : decode cX9_lands 88 = .ok (.iload_n 3, 1) := by decide +kernel
theorem dX9_lands_89 : decode cX9_lands 89 = .ok (.iconst 4, 1) := by decide +kernel
theorem dX9_lands_90 : decode cX9_lands 90 = .ok (.iadd, 1) := by decide +kernel
theorem dX9_lands_91 : decode cX9_lands 91 = .ok (.aload_n 0, 1) := by decide +kernel
theorem dX9_lands_92 : decode cX9_lands 92 = .ok (.getfield 7, 3) := by decide +kernel
theorem dX9_lands_95 : decode cX9_lands 95 = .ok (.bipush 30, 2) := by decide +kernel
theorem dX9_lands_97 : decode cX9_lands 97 = .ok (.iconst 2, 1) := by decide +kernel
theorem dX9_lands_98 : decode cX9_lands 98 = .ok (.iload_n 1, 1) := by decide +kernel
theorem dX9_lands_99 : decode cX9_lands 99 = .ok (.imul, 1) := by decide +kernel
theorem dX9_lands_100 : decode cX9_lands 100 = .ok (.iadd, 1) := by decide +kernel
theorem dX9_lands_101 : decode cX9_lands 101 = .ok (.iaload, 1) := by decide +kernel
theorem dX9_lands_102 : decode cX9_lands 102 = .ok (.iastore, 1) := by decide +kernel
theorem dX9_lands_103 : decode cX9_lands 103 = .ok (.aload_n 0, 1) := by decide +kernel
theorem dX9_lands_104 : decode cX9_lands 104 = .ok (.getfield 7, 3) := by decide +kernel
theorem dX9_lands_107 : decode cX9_lands 107 = .ok (.iload_n 3, 1) := by decide +kernel
theorem dX9_lands_108 : decode cX9_lands 108 = .ok (.bipush 10, 2) := by decide +kernel
theorem dX9_lands_110 : decode cX9_lands 110 = .ok (.iadd, 1) := by decide +kernel
theorem dX9_lands_111 : decode cX9_lands 111 = .ok (.aload_n 0, 1) := by decide +kernel
theorem dX9_lands_112 : decode cX9_lands 112 = .ok (.getfield 7, 3) := by decide +kernel
theorem dX9_lands_115 : decode cX9_lands 115 = .ok (.iconst 0, 1) := by decide +kernel
theorem dX9_lands_116 : decode cX9_lands 116 = .ok (.iaload, 1) := by decide +kernel
theorem dX9_lands_117 : decode cX9_lands 117 = .ok (.iastore, 1) := by decide +kernel
theorem dX9_lands_118 : decode cX9_lands 118 = .ok (.aload_n 0, 1) := by decide +kernel
theorem dX9_lands_119 : decode cX9_lands 119 = .ok (.iload_n 2, 1) := by decide +kernel
theorem dX9_lands_120 : decode cX9_lands 120 = .ok (.iconst 1, 1) := by decide +kernel
theorem dX9_lands_121 : decode cX9_lands 121 = .ok (.iconst 0, 1) := by decide +kernel
theorem dX9_lands_122 : decode cX9_lands 122 = .ok (.invokevirtual 97, 3) := by decide +kernel
theorem dX9_lands_125 : decode cX9_lands 125 = .ok (.iinc 2 1, 3) := by decide +kernel
theorem dX9_lands_128 : decode cX9_lands 128 = .ok (.goto (-89), 3) := by decide +kernel
theorem dX9_lands_131 : decode cX9_lands 131 = .ok (.iinc 1 1, 3) := by decide +kernel
theorem dX9_lands_134 : decode cX9_lands 134 = .ok (.goto (-132), 3) := by decide +kernel
theorem dX9_lands_137 : decode cX9_lands 137 = .ok (.return_, 1) := by decide +kernel
theorem dX9_eat_0 : decode cX9_eat 0 = .ok (.iconst 0, 1) := by decide +kernel
theorem dX9_eat_1 : decode cX9_eat 1 = .ok (.istore_n 1, 1) := by decide +kernel
theorem dX9_eat_2 : decode cX9_eat 2 = .ok (.iload_n 1, 1) := by decide +kernel
theorem dX9_eat_3 : decode cX9_eat 3 = .ok (.bipush 6, 2) := by decide +kernel
theorem dX9_eat_5 : decode cX9_eat 5 = .ok (.if_icmp .ge 138, 3) := by decide +kernel
theorem dX9_eat_8 : decode cX9_eat 8 = .ok (.iconst 0, 1) := by decide +kernel
theorem dX9_eat_9 : decode cX9_eat 9 = .ok (.istore_n 2, 1) := by decide +kernel
theorem dX9_eat_10 : decode cX9_eat 10 = .ok (.iconst 0, 1) := by decide +kernel
theorem dX9_eat_11 : decode cX9_eat 11 = .ok (.istore_n 3, 1) := by decide +kernel
theorem dX9_eat_12 : decode cX9_eat 12 = .ok (.iload_n 3, 1) := by decide +kernel
theorem dX9_eat_13 : decode cX9_eat 13 = .ok (.aload_n 0, 1) := by decide +kernel
theorem dX9_eat_14 : decode cX9_eat 14 = .ok (.getfield 7, 3) := by decide +kernel
theorem dX9_eat_17 : decode cX9_eat 17 = .ok (.iconst 2, 1) := by decide +kernel
theorem dX9_eat_18 : decode cX9_eat 18 = .ok (.iaload, 1) := by decide +kernel
theorem dX9_eat_19 : decode cX9_eat 19 = .ok (.if_icmp .ge 66, 3) := by decide +kernel
theorem dX9_eat_22 : decode cX9_eat 22 = .ok (.aload_n 0, 1) := by decide +kernel
theorem dX9_eat_23 : decode cX9_eat 23 = .ok (.iload_n 3, 1) := by decide +kernel
theorem dX9_eat_24 : decode cX9_eat 24 = .ok (.invokevirtual 70, 3) := by decide +kernel
theorem dX9_eat_27 : decode cX9_eat 27 = .ok (.ifCond .ne 23, 3) := by decide +kernel
theorem dX9_eat_30 : decode cX9_eat 30 = .ok (.aload_n 0, 1) := by decide +kernel
theorem dX9_eat_31 : decode cX9_eat 31 = .ok (.getfield 7, 3) := by decide +kernel
theorem dX9_eat_34 : decode cX9_eat 34 = .ok (.aload_n 0, 1) := by decide +kernel
theorem dX9_eat_35 : decode cX9_eat 35 = .ok (.iload_n 3, 1) := by decide +kernel
theorem dX9_eat_36 : decode cX9_eat 36 = .ok (.invokevirtual 66, 3) := by decide +kernel
theorem dX9_eat_39 : decode cX9_eat 39 = .ok (.iconst 4, 1) := by decide +kernel
theorem dX9_eat_40 : decode cX9_eat 40 = .ok (.iadd, 1) := by decide +kernel
theorem dX9_eat_41 : decode cX9_eat 41 = .ok (.iaload, 1) := by decide +kernel
theorem dX9_eat_42 : decode cX9_eat 42 = .ok (.iload_n 1, 1) := by decide +kernel
theorem dX9_eat_43 : decode cX9_eat 43 = .ok (.if_icmp .ne 7, 3) := by decide +kernel
theorem dX9_eat_46 : decode cX9_eat 46 = .ok (.iconst 1, 1) := by decide +kernel
theorem dX9_eat_47 : decode cX9_eat 47 = .ok (.goto 4, 3) := by decide +kernel
theorem dX9_eat_50 : decode cX9_eat 50 = .ok (.iconst 0, 1) := by decide +kernel
theorem dX9_eat_51 : decode cX9_eat 51 = .ok (.istore 4, 2) := by decide +kernel
theorem dX9_eat_53 : decode cX9_eat 53 = .ok (.iload_n 2, 1) := by decide +kernel
theorem dX9_eat_54 : decode cX9_eat 54 = .ok (.iload 4, 2) := by decide +kernel
theorem dX9_eat_56 : decode cX9_eat 56 = .ok (.ifCond .eq 20, 3) := by decide +kernel
theorem dX9_eat_59 : decode cX9_eat 59 = .ok (.aload_n 0, 1) := by decide +kernel
theorem dX9_eat_60 : decode cX9_eat 60 = .ok (.iload_n 3, 1) := by decide +kernel
theorem dX9_eat_61 : decode cX9_eat 61 = .ok (.invokevirtual 77, 3) := by decide +kernel
theorem dX9_eat_64 : decode cX9_eat 64 = .ok (.iconst 3, 1) := by decide +kernel
theorem dX9_eat_65 : decode cX9_eat 65 = .ok (.if_icmp .ne 7, 3) := by decide +kernel
theorem dX9_eat_68 : decode cX9_eat 68 = .ok (.iconst 1, 1) := by decide +kernel
theorem dX9_eat_69 : decode cX9_eat 69 = .ok (.goto 8, 3) := by decide +kernel
theorem dX9_eat_72 : decode cX9_eat 72 = .ok (.iconst 2, 1) := by decide +kernel
theorem dX9_eat_73 : decode cX9_eat 73 = .ok (.goto 4, 3) := by decide +kernel
theorem dX9_eat_76 : decode cX9_eat 76 = .ok (.iconst 0, 1) := by decide +kernel
theorem dX9_eat_77 : decode cX9_eat 77 = .ok (.iadd, 1) := by decide +kernel
theorem dX9_eat_78 : decode cX9_eat 78 = .ok (.istore_n 2, 1) := by decide +kernel
theorem dX9_eat_79 : decode cX9_eat 79 = .ok (.iinc 3 1, 3) := by decide +kernel
theorem dX9_eat_82 : decode cX9_eat 82 = .ok (.goto (-70), 3) := by decide +kernel
theorem dX9_eat_85 : decode cX9_eat 85 = .ok (.aload_n 0, 1) := by decide +kernel
theorem dX9_eat_86 : decode cX9_eat 86 = .ok (.getfield 7, 3) := by decide +kernel
theorem dX9_eat_89 : decode cX9_eat 89 = .ok (.bipush 17, 2) := by decide +kernel
theorem dX9_eat_91 : decode cX9_eat 91 = .ok (.iload_n 1, 1) := by decide +kernel
theorem dX9_eat_92 : decode cX9_eat 92 = .ok (.iadd, 1) := by decide +kernel
theorem dX9_eat_93 : decode cX9_eat 93 = .ok (.aload_n 0, 1) := by decide +kernel
theorem dX9_eat_94 : decode cX9_eat 94 = .ok (.getfield 7, 3) := by decide +kernel
theorem dX9_eat_97 : decode cX9_eat 97 = .ok (.bipush 11, 2) := by decide +kernel
theorem dX9_eat_99 : decode cX9_eat 99 = .ok (.iload_n 1, 1) := by decide +kernel
theorem dX9_eat_100 : decode cX9_eat 100 = .ok (.iadd, 1) := by decide +kernel
theorem dX9_eat_101 : decode cX9_eat 101 = .ok (.iaload, 1) := by decide +kernel
theorem dX9_eat_102 : decode cX9_eat 102 = .ok (.iload_n 2, 1) := by decide +kernel
theorem dX9_eat_103 : decode cX9_eat 103 = .ok (.if_icmp .ge 7, 3) := by decide +kernel
theorem dX9_eat_106 : decode cX9_eat 106 = .ok (.iconst 1, 1) := by decide +kernel
theorem dX9_eat_107 : decode cX9_eat 107 = .ok (.goto 4, 3) := by decide +kernel
theorem dX9_eat_110 : decode cX9_eat 110 = .ok (.iconst 0, 1) := by decide +kernel
theorem dX9_eat_111 : decode cX9_eat 111 = .ok (.iastore, 1) := by decide +kernel
theorem dX9_eat_112 : decode cX9_eat 112 = .ok (.aload_n 0, 1) := by decide +kernel
theorem dX9_eat_113 : decode cX9_eat 113 = .ok (.getfield 7, 3) := by decide +kernel
theorem dX9_eat_116 : decode cX9_eat 116 = .ok (.bipush 11, 2) := by decide +kernel
theorem dX9_eat_118 : decode cX9_eat 118 = .ok (.iload_n 1, 1) := by decide +kernel
theorem dX9_eat_119 : decode cX9_eat 119 = .ok (.iadd, 1) := by decide +kernel
theorem dX9_eat_120 : decode cX9_eat 120 = .ok (.dup2, 1) := by decide +kernel
theorem dX9_eat_121 : decode cX9_eat 121 = .ok (.iaload, 1) := by decide +kernel
theorem dX9_eat_122 : decode cX9_eat 122 = .ok (.iload_n 2, 1) := by decide +kernel
theorem dX9_eat_123 : decode cX9_eat 123 = .ok (.aload_n 0, 1) := by decide +kernel
theorem dX9_eat_124 : decode cX9_eat 124 = .ok (.getfield 7, 3) := by decide +kernel
theorem dX9_eat_127 : decode cX9_eat 127 = .ok (.bipush 11, 2) := by decide +kernel
theorem dX9_eat_129 : decode cX9_eat 129 = .ok (.iload_n 1, 1) := by decide +kernel
theorem dX9_eat_130 : decode cX9_eat 130 = .ok (.iadd, 1) := by decide +kernel
theorem dX9_eat_131 : decode cX9_eat 131 = .ok (.iaload, 1) := by decide +kernel
theorem dX9_eat_132 : decode cX9_eat 132 = .ok (.invokestatic 286, 3) := by decide +kernel
theorem dX9_eat_135 : decode cX9_eat 135 = .ok (.isub, 1) := by decide +kernel
theorem dX9_eat_136 : decode cX9_eat 136 = .ok (.iastore, 1) := by decide +kernel
theorem dX9_eat_137 : decode cX9_eat 137 = .ok (.iinc 1 1, 3) := by decide +kernel
theorem dX9_eat_140 : decode cX9_eat 140 = .ok (.goto (-138), 3) := by decide +kernel
theorem dX9_eat_143 : decode cX9_eat 143 = .ok (.return_, 1) := by decide +kernel
theorem dX9_isThere_0 : decode cX9_isThere 0 = .ok (.aload_n 0, 1) := by decide +kernel
theorem dX9_isThere_1 : decode cX9_isThere 1 = .ok (.iload_n 1, 1) := by decide +kernel
theorem dX9_isThere_2 : decode cX9_isThere 2 = .ok (.invokevirtual 70, 3) := by decide +kernel
theorem dX9_isThere_5 : decode cX9_isThere 5 = .ok (.ifCond .ne 30, 3) := by decide +kernel
theorem dX9_isThere_8 : decode cX9_isThere 8 = .ok (.aload_n 0, 1) := by decide +kernel
theorem dX9_isThere_9 : decode cX9_isThere 9 = .ok (.getfield 7, 3) := by decide +kernel
theorem dX9_isThere_12 : decode cX9_isThere 12 = .ok (.aload_n 0, 1) := by decide +kernel
theorem dX9_isThere_13 : decode cX9_isThere 13 = .ok (.iload_n 1, 1) := by decide +kernel
theorem dX9_isThere_14 : decode cX9_isThere 14 = .ok (.invokevirtual 66, 3) := by decide +kernel
theorem dX9_isThere_17 : decode cX9_isThere 17 = .ok (.iconst 4, 1) := by decide +kernel
theorem dX9_isThere_18 : decode cX9_isThere 18 = .ok (.iadd, 1) := by decide +kernel
theorem dX9_isThere_19 : decode cX9_isThere 19 = .ok (.iaload, 1) := by decide +kernel
theorem dX9_isThere_20 : decode cX9_isThere 20 = .ok (.ifCond .lt 15, 3) := by decide +kernel
theorem dX9_isThere_23 : decode cX9_isThere 23 = .ok (.aload_n 0, 1) := by decide +kernel
theorem dX9_isThere_24 : decode cX9_isThere 24 = .ok (.iload_n 1, 1) := by decide +kernel
theorem dX9_isThere_25 : decode cX9_isThere 25 = .ok (.invokevirtual 280, 3) := by decide +kernel
theorem dX9_isThere_28 : decode cX9_isThere 28 = .ok (.ifCond .eq 7, 3) := by decide +kernel
theorem dX9_isThere_31 : decode cX9_isThere 31 = .ok (.iconst 1, 1) := by decide +kernel
theorem dX9_isThere_32 : decode cX9_isThere 32 = .ok (.goto 4, 3) := by decide +kernel
theorem dX9_isThere_35 : decode cX9_isThere 35 = .ok (.iconst 0, 1) := by decide +kernel
theorem dX9_isThere_36 : decode cX9_isThere 36 = .ok (.ireturn, 1) := by decide +kernel
theorem dX9_offend_0 : decode cX9_offend 0 = .ok (.aload_n 0, 1) := by decide +kernel
theorem dX9_offend_1 : decode cX9_offend 1 = .ok (.iload_n 1, 1) := by decide +kernel
theorem dX9_offend_2 : decode cX9_offend 2 = .ok (.invokevirtual 66, 3) := by decide +kernel
theorem dX9_offend_5 : decode cX9_offend 5 = .ok (.istore_n 2, 1) := by decide +kernel
theorem dX9_offend_6 : decode cX9_offend 6 = .ok (.aload_n 0, 1) := by decide +kernel
theorem dX9_offend_7 : decode cX9_offend 7 = .ok (.invokevirtual 289, 3) := by decide +kernel
theorem dX9_offend_10 : decode cX9_offend 10 = .ok (.istore_n 3, 1) := by decide +kernel
theorem dX9_offend_11 : decode cX9_offend 11 = .ok (.iload_n 3, 1) := by decide +kernel
theorem dX9_offend_12 : decode cX9_offend 12 = .ok (.bipush 100, 2) := by decide +kernel
theorem dX9_offend_14 : decode cX9_offend 14 = .ok (.irem, 1) := by decide +kernel
theorem dX9_offend_15 : decode cX9_offend 15 = .ok (.aload_n 0, 1) := by decide +kernel
theorem dX9_offend_16 : decode cX9_offend 16 = .ok (.iconst 3, 1) := by decide +kernel
theorem dX9_offend_17 : decode cX9_offend 17 = .ok (.aload_n 0, 1) := by decide +kernel
theorem dX9_offend_18 : decode cX9_offend 18 = .ok (.iload_n 1, 1) := by decide +kernel
theorem dX9_offend_19 : decode cX9_offend 19 = .ok (.invokevirtual 77, 3) := by decide +kernel
theorem dX9_offend_22 : decode cX9_offend 22 = .ok (.aload_n 0, 1) := by decide +kernel
theorem dX9_offend_23 : decode cX9_offend 23 = .ok (.iload_n 1, 1) := by decide +kernel
theorem dX9_offend_24 : decode cX9_offend 24 = .ok (.invokevirtual 116, 3) := by decide +kernel
theorem dX9_offend_27 : decode cX9_offend 27 = .ok (.aload_n 0, 1) := by decide +kernel
theorem dX9_offend_28 : decode cX9_offend 28 = .ok (.getfield 7, 3) := by decide +kernel
theorem dX9_offend_31 : decode cX9_offend 31 = .ok (.iload_n 2, 1) := by decide +kernel
theorem dX9_offend_32 : decode cX9_offend 32 = .ok (.iconst 4, 1) := by decide +kernel
theorem dX9_offend_33 : decode cX9_offend 33 = .ok (.iadd, 1) := by decide +kernel
theorem dX9_offend_34 : decode cX9_offend 34 = .ok (.iaload, 1) := by decide +kernel
theorem dX9_offend_35 : decode cX9_offend 35 = .ok (.invokevirtual 256, 3) := by decide +kernel
theorem dX9_offend_38 : decode cX9_offend 38 = .ok (.if_icmp .lt 4, 3) := by decide +kernel
theorem dX9_offend_41 : decode cX9_offend 41 = .ok (.return_, 1) := by decide +kernel
theorem dX9_offend_42 : decode cX9_offend 42 = .ok (.iload_n 3, 1) := by decide +kernel
theorem dX9_offend_43 : decode cX9_offend 43 = .ok (.bipush 100, 2) := by decide +kernel
theorem dX9_offend_45 : decode cX9_offend 45 = .ok (.idiv, 1) := by decide +kernel
theorem dX9_offend_46 : decode cX9_offend 46 = .ok (.iconst 4, 1) := by decide +kernel
theorem dX9_offend_47 : decode cX9_offend 47 = .ok (.irem, 1) := by decide +kernel
theorem dX9_offend_48 : decode cX9_offend 48 = .ok (.istore 4, 2) := by decide +kernel
theorem dX9_offend_50 : decode cX9_offend 50 = .ok (.aload_n 0, 1) := by decide +kernel
theorem dX9_offend_51 : decode cX9_offend 51 = .ok (.iconst 2, 1) := by decide +kernel
theorem dX9_offend_52 : decode cX9_offend 52 = .ok (.iload 4, 2) := by decide +kernel
theorem dX9_offend_54 : decode cX9_offend 54 = .ok (.aload_n 0, 1) := by decide +kernel
theorem dX9_offend_55 : decode cX9_offend 55 = .ok (.iload_n 1, 1) := by decide +kernel
theorem dX9_offend_56 : decode cX9_offend 56 = .ok (.invokevirtual 116, 3) := by decide +kernel
theorem dX9_offend_59 : decode cX9_offend 59 = .ok (.iconst 1, 1) := by decide +kernel
theorem dX9_offend_60 : decode cX9_offend 60 = .ok (.iadd, 1) := by decide +kernel
theorem dX9_offend_61 : decode cX9_offend 61 = .ok (.iconst 0, 1) := by decide +kernel
theorem dX9_offend_62 : decode cX9_offend 62 = .ok (.invokevirtual 256, 3) := by decide +kernel
theorem dX9_offend_65 : decode cX9_offend 65 = .ok (.istore 5, 2) := by decide +kernel
theorem dX9_offend_67 : decode cX9_offend 67 = .ok (.aload_n 0, 1) := by decide +kernel
theorem dX9_offend_68 : decode cX9_offend 68 = .ok (.iload_n 1, 1) := by decide +kernel
theorem dX9_offend_69 : decode cX9_offend 69 = .ok (.iload 4, 2) := by decide +kernel
theorem dX9_offend_71 : decode cX9_offend 71 = .ok (.invokevirtual 265, 3) := by decide +kernel
theorem dX9_offend_74 : decode cX9_offend 74 = .ok (.iload 5, 2) := by decide +kernel
theorem dX9_offend_76 : decode cX9_offend 76 = .ok (.ifCond .le 18, 3) := by decide +kernel
theorem dX9_offend_79 : decode cX9_offend 79 = .ok (.aload_n 0, 1) := by decide +kernel
theorem dX9_offend_80 : decode cX9_offend 80 = .ok (.iload_n 1, 1) := by decide +kernel
theorem dX9_offend_81 : decode cX9_offend 81 = .ok (.iconst 3, 1) := by decide +kernel
theorem dX9_offend_82 : decode cX9_offend 82 = .ok (.aload_n 0, 1) := by decide +kernel
theorem dX9_offend_83 : decode cX9_offend 83 = .ok (.getfield 7, 3) := by decide +kernel
theorem dX9_offend_86 : decode cX9_offend 86 = .ok (.iconst 0, 1) := by decide +kernel
theorem dX9_offend_87 : decode cX9_offend 87 = .ok (.iaload, 1) := by decide +kernel
theorem dX9_offend_88 : decode cX9_offend 88 = .ok (.iload 5, 2) := by decide +kernel
theorem dX9_offend_90 : decode cX9_offend 90 = .ok (.iadd, 1) := by decide +kernel
theorem dX9_offend_91 : decode cX9_offend 91 = .ok (.invokevirtual 97, 3) := by decide +kernel
theorem dX9_offend_94 : decode cX9_offend 94 = .ok (.return_, 1) := by decide +kernel
theorem dX9_earn_0 : decode cX9_earn 0 = .ok (.aload_n 0, 1) := by decide +kernel
theorem dX9_earn_1 : decode cX9_earn 1 = .ok (.iload_n 1, 1) := by decide +kernel
theorem dX9_earn_2 : decode cX9_earn 2 = .ok (.invokevirtual 66, 3) := by decide +kernel
theorem dX9_earn_5 : decode cX9_earn 5 = .ok (.istore_n 2, 1) := by decide +kernel
theorem dX9_earn_6 : decode cX9_earn 6 = .ok (.aload_n 0, 1) := by decide +kernel
theorem dX9_earn_7 : decode cX9_earn 7 = .ok (.iload_n 1, 1) := by decide +kernel
theorem dX9_earn_8 : decode cX9_earn 8 = .ok (.invokevirtual 77, 3) := by decide +kernel
theorem dX9_earn_11 : decode cX9_earn 11 = .ok (.iconst 2, 1) := by decide +kernel
theorem dX9_earn_12 : decode cX9_earn 12 = .ok (.if_icmp .eq 13, 3) := by decide +kernel
theorem dX9_earn_15 : decode cX9_earn 15 = .ok (.aload_n 0, 1) := by decide +kernel
theorem dX9_earn_16 : decode cX9_earn 16 = .ok (.iload_n 1, 1) := by decide +kernel
theorem dX9_earn_17 : decode cX9_earn 17 = .ok (.invokevirtual 77, 3) := by decide +kernel
theorem dX9_earn_20 : decode cX9_earn 20 = .ok (.iconst 4, 1) := by decide +kernel
theorem dX9_earn_21 : decode cX9_earn 21 = .ok (.if_icmp .eq 4, 3) := by decide +kernel
theorem dX9_earn_24 : decode cX9_earn 24 = .ok (.return_, 1) := by decide +kernel
theorem dX9_earn_25 : decode cX9_earn 25 = .ok (.aload_n 0, 1) := by decide +kernel
theorem dX9_earn_26 : decode cX9_earn 26 = .ok (.iload_n 1, 1) := by decide +kernel
theorem dX9_earn_27 : decode cX9_earn 27 = .ok (.invokevirtual 77, 3) := by decide +kernel
theorem dX9_earn_30 : decode cX9_earn 30 = .ok (.iconst 4, 1) := by decide +kernel
theorem dX9_earn_31 : decode cX9_earn 31 = .ok (.if_icmp .ne 7, 3) := by decide +kernel
theorem dX9_earn_34 : decode cX9_earn 34 = .ok (.iconst 5, 1) := by decide +kernel
theorem dX9_earn_35 : decode cX9_earn 35 = .ok (.goto 23, 3) := by decide +kernel
theorem dX9_earn_38 : decode cX9_earn 38 = .ok (.aload_n 0, 1) := by decide +kernel
theorem dX9_earn_39 : decode cX9_earn 39 = .ok (.getfield 7, 3) := by decide +kernel
theorem dX9_earn_42 : decode cX9_earn 42 = .ok (.aload_n 0, 1) := by decide +kernel
theorem dX9_earn_43 : decode cX9_earn 43 = .ok (.aload_n 0, 1) := by decide +kernel
theorem dX9_earn_44 : decode cX9_earn 44 = .ok (.getfield 7, 3) := by decide +kernel
theorem dX9_earn_47 : decode cX9_earn 47 = .ok (.iload_n 2, 1) := by decide +kernel
theorem dX9_earn_48 : decode cX9_earn 48 = .ok (.bipush 6, 2) := by decide +kernel
theorem dX9_earn_50 : decode cX9_earn 50 = .ok (.iadd, 1) := by decide +kernel
theorem dX9_earn_51 : decode cX9_earn 51 = .ok (.iaload, 1) := by decide +kernel
theorem dX9_earn_52 : decode cX9_earn 52 = .ok (.invokevirtual 129, 3) := by decide +kernel
theorem dX9_earn_55 : decode cX9_earn 55 = .ok (.iconst 3, 1) := by decide +kernel
theorem dX9_earn_56 : decode cX9_earn 56 = .ok (.iadd, 1) := by decide +kernel
theorem dX9_earn_57 : decode cX9_earn 57 = .ok (.iaload, 1) := by decide +kernel
theorem dX9_earn_58 : decode cX9_earn 58 = .ok (.istore_n 3, 1) := by decide +kernel
theorem dX9_earn_59 : decode cX9_earn 59 = .ok (.aload_n 0, 1) := by decide +kernel
theorem dX9_earn_60 : decode cX9_earn 60 = .ok (.iconst 4, 1) := by decide +kernel
theorem dX9_earn_61 : decode cX9_earn 61 = .ok (.iload_n 3, 1) := by decide +kernel
theorem dX9_earn_62 : decode cX9_earn 62 = .ok (.aload_n 0, 1) := by decide +kernel
theorem dX9_earn_63 : decode cX9_earn 63 = .ok (.getfield 7, 3) := by decide +kernel
theorem dX9_earn_66 : decode cX9_earn 66 = .ok (.iload_n 2, 1) := by decide +kernel
theorem dX9_earn_67 : decode cX9_earn 67 = .ok (.iconst 0, 1) := by decide +kernel
theorem dX9_earn_68 : decode cX9_earn 68 = .ok (.iadd, 1) := by decide +kernel
theorem dX9_earn_69 : decode cX9_earn 69 = .ok (.iaload, 1) := by decide +kernel
theorem dX9_earn_70 : decode cX9_earn 70 = .ok (.iconst 0, 1) := by decide +kernel
theorem dX9_earn_71 : decode cX9_earn 71 = .ok (.invokevirtual 256, 3) := by decide +kernel
theorem dX9_earn_74 : decode cX9_earn 74 = .ok (.istore 4, 2) := by decide +kernel
theorem dX9_earn_76 : decode cX9_earn 76 = .ok (.aload_n 0, 1) := by decide +kernel
theorem dX9_earn_77 : decode cX9_earn 77 = .ok (.getfield 7, 3) := by decide +kernel
theorem dX9_earn_80 : decode cX9_earn 80 = .ok (.bipush 10, 2) := by decide +kernel
theorem dX9_earn_82 : decode cX9_earn 82 = .ok (.dup2, 1) := by decide +kernel
theorem dX9_earn_83 : decode cX9_earn 83 = .ok (.iaload, 1) := by decide +kernel
theorem dX9_earn_84 : decode cX9_earn 84 = .ok (.iload 4, 2) := by decide +kernel
theorem dX9_earn_86 : decode cX9_earn 86 = .ok (.iadd, 1) := by decide +kernel
theorem dX9_earn_87 : decode cX9_earn 87 = .ok (.iastore, 1) := by decide +kernel
theorem dX9_earn_88 : decode cX9_earn 88 = .ok (.aload_n 0, 1) := by decide +kernel
theorem dX9_earn_89 : decode cX9_earn 89 = .ok (.getfield 7, 3) := by decide +kernel
theorem dX9_earn_92 : decode cX9_earn 92 = .ok (.iload_n 2, 1) := by decide +kernel
theorem dX9_earn_93 : decode cX9_earn 93 = .ok (.bipush 9, 2) := by decide +kernel
theorem dX9_earn_95 : decode cX9_earn 95 = .ok (.iadd, 1) := by decide +kernel
theorem dX9_earn_96 : decode cX9_earn 96 = .ok (.dup2, 1) := by decide +kernel
theorem dX9_earn_97 : decode cX9_earn 97 = .ok (.iaload, 1) := by decide +kernel
theorem dX9_earn_98 : decode cX9_earn 98 = .ok (.iload_n 3, 1) := by decide +kernel
theorem dX9_earn_99 : decode cX9_earn 99 = .ok (.iload 4, 2) := by decide +kernel
theorem dX9_earn_101 : decode cX9_earn 101 = .ok (.isub, 1) := by decide +kernel
theorem dX9_earn_102 : decode cX9_earn 102 = .ok (.iadd, 1) := by decide +kernel
theorem dX9_earn_103 : decode cX9_earn 103 = .ok (.iastore, 1) := by decide +kernel
theorem dX9_earn_104 : decode cX9_earn 104 = .ok (.return_, 1) := by decide +kernel
theorem dX9_oneWeek_0 : decode cX9_oneWeek 0 = .ok (.aload_n 0, 1) := by decide +kernel
theorem dX9_oneWeek_1 : decode cX9_oneWeek 1 = .ok (.invokevirtual 292, 3) := by decide +kernel
theorem dX9_oneWeek_4 : decode cX9_oneWeek 4 = .ok (.aload_n 0, 1) := by decide +kernel
theorem dX9_oneWeek_5 : decode cX9_oneWeek 5 = .ok (.invokevirtual 295, 3) := by decide +kernel
theorem dX9_oneWeek_8 : decode cX9_oneWeek 8 = .ok (.iconst 0, 1) := by decide +kernel
theorem dX9_oneWeek_9 : decode cX9_oneWeek 9 = .ok (.istore_n 1, 1) := by decide +kernel
theorem dX9_oneWeek_10 : decode cX9_oneWeek 10 = .ok (.iload_n 1, 1) := by decide +kernel
theorem dX9_oneWeek_11 : decode cX9_oneWeek 11 = .ok (.aload_n 0, 1) := by decide +kernel
theorem dX9_oneWeek_12 : decode cX9_oneWeek 12 = .ok (.getfield 7, 3) := by decide +kernel
theorem dX9_oneWeek_15 : decode cX9_oneWeek 15 = .ok (.iconst 2, 1) := by decide +kernel
theorem dX9_oneWeek_16 : decode cX9_oneWeek 16 = .ok (.iaload, 1) := by decide +kernel
theorem dX9_oneWeek_17 : decode cX9_oneWeek 17 = .ok (.if_icmp .ge 22, 3) := by decide +kernel
theorem dX9_oneWeek_20 : decode cX9_oneWeek 20 = .ok (.aload_n 0, 1) := by decide +kernel
theorem dX9_oneWeek_21 : decode cX9_oneWeek 21 = .ok (.iload_n 1, 1) := by decide +kernel
theorem dX9_oneWeek_22 : decode cX9_oneWeek 22 = .ok (.invokevirtual 298, 3) := by decide +kernel
theorem dX9_oneWeek_25 : decode cX9_oneWeek 25 = .ok (.ifCond .eq 8, 3) := by decide +kernel
theorem dX9_oneWeek_28 : decode cX9_oneWeek 28 = .ok (.aload_n 0, 1) := by decide +kernel
theorem dX9_oneWeek_29 : decode cX9_oneWeek 29 = .ok (.iload_n 1, 1) := by decide +kernel
theorem dX9_oneWeek_30 : decode cX9_oneWeek 30 = .ok (.invokevirtual 301, 3) := by decide +kernel
theorem dX9_oneWeek_33 : decode cX9_oneWeek 33 = .ok (.iinc 1 1, 3) := by decide +kernel
theorem dX9_oneWeek_36 : decode cX9_oneWeek 36 = .ok (.goto (-26), 3) := by decide +kernel
theorem dX9_oneWeek_39 : decode cX9_oneWeek 39 = .ok (.iconst 0, 1) := by decide +kernel
theorem dX9_oneWeek_40 : decode cX9_oneWeek 40 = .ok (.istore_n 1, 1) := by decide +kernel
theorem dX9_oneWeek_41 : decode cX9_oneWeek 41 = .ok (.iload_n 1, 1) := by decide +kernel
theorem dX9_oneWeek_42 : decode cX9_oneWeek 42 = .ok (.aload_n 0, 1) := by decide +kernel
theorem dX9_oneWeek_43 : decode cX9_oneWeek 43 = .ok (.getfield 7, 3) := by decide +kernel
theorem dX9_oneWeek_46 : decode cX9_oneWeek 46 = .ok (.iconst 2, 1) := by decide +kernel
theorem dX9_oneWeek_47 : decode cX9_oneWeek 47 = .ok (.iaload, 1) := by decide +kernel
theorem dX9_oneWeek_48 : decode cX9_oneWeek 48 = .ok (.if_icmp .ge 22, 3) := by decide +kernel
theorem dX9_oneWeek_51 : decode cX9_oneWeek 51 = .ok (.aload_n 0, 1) := by decide +kernel
theorem dX9_oneWeek_52 : decode cX9_oneWeek 52 = .ok (.iload_n 1, 1) := by decide +kernel
theorem dX9_oneWeek_53 : decode cX9_oneWeek 53 = .ok (.invokevirtual 298, 3) := by decide +kernel
theorem dX9_oneWeek_56 : decode cX9_oneWeek 56 = .ok (.ifCond .eq 8, 3) := by decide +kernel
theorem dX9_oneWeek_59 : decode cX9_oneWeek 59 = .ok (.aload_n 0, 1) := by decide +kernel
theorem dX9_oneWeek_60 : decode cX9_oneWeek 60 = .ok (.iload_n 1, 1) := by decide +kernel
theorem dX9_oneWeek_61 : decode cX9_oneWeek 61 = .ok (.invokevirtual 305, 3) := by decide +kernel
theorem dX9_oneWeek_64 : decode cX9_oneWeek 64 = .ok (.iinc 1 1, 3) := by decide +kernel
theorem dX9_oneWeek_67 : decode cX9_oneWeek 67 = .ok (.goto (-26), 3) := by decide +kernel
theorem dX9_oneWeek_70 : decode cX9_oneWeek 70 = .ok (.iconst 0, 1) := by decide +kernel
theorem dX9_oneWeek_71 : decode cX9_oneWeek 71 = .ok (.istore_n 1, 1) := by decide +kernel
theorem dX9_oneWeek_72 : decode cX9_oneWeek 72 = .ok (.iload_n 1, 1) := by decide +kernel
theorem dX9_oneWeek_73 : decode cX9_oneWeek 73 = .ok (.aload_n 0, 1) := by decide +kernel
theorem dX9_oneWeek_74 : decode cX9_oneWeek 74 = .ok (.getfield 7, 3) := by decide +kernel
theorem dX9_oneWeek_77 : decode cX9_oneWeek 77 = .ok (.iconst 2, 1) := by decide +kernel
theorem dX9_oneWeek_78 : decode cX9_oneWeek 78 = .ok (.iaload, 1) := by decide +kernel
theorem dX9_oneWeek_79 : decode cX9_oneWeek 79 = .ok (.if_icmp .ge 105, 3) := by decide +kernel
theorem dX9_oneWeek_82 : decode cX9_oneWeek 82 = .ok (.aload_n 0, 1) := by decide +kernel
theorem dX9_oneWeek_83 : decode cX9_oneWeek 83 = .ok (.iload_n 1, 1) := by decide +kernel
theorem dX9_oneWeek_84 : decode cX9_oneWeek 84 = .ok (.invokevirtual 66, 3) := by decide +kernel
theorem dX9_oneWeek_87 : decode cX9_oneWeek 87 = .ok (.istore_n 2, 1) := by decide +kernel
theorem dX9_oneWeek_88 : decode cX9_oneWeek 88 = .ok (.aload_n 0, 1) := by decide +kernel
theorem dX9_oneWeek_89 : decode cX9_oneWeek 89 = .ok (.iload_n 1, 1) := by decide +kernel
theorem dX9_oneWeek_90 : decode cX9_oneWeek 90 = .ok (.invokevirtual 298, 3) := by decide +kernel
theorem dX9_oneWeek_93 : decode cX9_oneWeek 93 = .ok (.ifCond .eq 39, 3) := by decide +kernel
theorem dX9_oneWeek_96 : decode cX9_oneWeek 96 = .ok (.aload_n 0, 1) := by decide +kernel
theorem dX9_oneWeek_97 : decode cX9_oneWeek 97 = .ok (.iload_n 1, 1) := by decide +kernel
theorem dX9_oneWeek_98 : decode cX9_oneWeek 98 = .ok (.invokevirtual 77, 3) := by decide +kernel
theorem dX9_oneWeek_101 : decode cX9_oneWeek 101 = .ok (.iconst 3, 1) := by decide +kernel
theorem dX9_oneWeek_102 : decode cX9_oneWeek 102 = .ok (.if_icmp .ne 30, 3) := by decide +kernel
theorem dX9_oneWeek_105 : decode cX9_oneWeek 105 = .ok (.aload_n 0, 1) := by decide +kernel
theorem dX9_oneWeek_106 : decode cX9_oneWeek 106 = .ok (.getfield 7, 3) := by decide +kernel
theorem dX9_oneWeek_109 : decode cX9_oneWeek 109 = .ok (.iload_n 2, 1) := by decide +kernel
theorem dX9_oneWeek_110 : decode cX9_oneWeek 110 = .ok (.bipush 6, 2) := by decide +kernel
theorem dX9_oneWeek_112 : decode cX9_oneWeek 112 = .ok (.iadd, 1) := by decide +kernel
theorem dX9_oneWeek_113 : decode cX9_oneWeek 113 = .ok (.iaload, 1) := by decide +kernel
theorem dX9_oneWeek_114 : decode cX9_oneWeek 114 = .ok (.aload_n 0, 1) := by decide +kernel
theorem dX9_oneWeek_115 : decode cX9_oneWeek 115 = .ok (.getfield 7, 3) := by decide +kernel
theorem dX9_oneWeek_118 : decode cX9_oneWeek 118 = .ok (.iconst 0, 1) := by decide +kernel
theorem dX9_oneWeek_119 : decode cX9_oneWeek 119 = .ok (.iaload, 1) := by decide +kernel
theorem dX9_oneWeek_120 : decode cX9_oneWeek 120 = .ok (.iconst 1, 1) := by decide +kernel
theorem dX9_oneWeek_121 : decode cX9_oneWeek 121 = .ok (.iadd, 1) := by decide +kernel
theorem dX9_oneWeek_122 : decode cX9_oneWeek 122 = .ok (.if_icmp .ne 10, 3) := by decide +kernel
theorem dX9_oneWeek_125 : decode cX9_oneWeek 125 = .ok (.aload_n 0, 1) := by decide +kernel
theorem dX9_oneWeek_126 : decode cX9_oneWeek 126 = .ok (.iload_n 1, 1) := by decide +kernel
theorem dX9_oneWeek_127 : decode cX9_oneWeek 127 = .ok (.iconst 1, 1) := by decide +kernel
theorem dX9_oneWeek_128 : decode cX9_oneWeek 128 = .ok (.iconst 0, 1) := by decide +kernel
theorem dX9_oneWeek_129 : decode cX9_oneWeek 129 = .ok (.invokevirtual 97, 3) := by decide +kernel
theorem dX9_oneWeek_132 : decode cX9_oneWeek 132 = .ok (.aload_n 0, 1) := by decide +kernel
theorem dX9_oneWeek_133 : decode cX9_oneWeek 133 = .ok (.iload_n 1, 1) := by decide +kernel
theorem dX9_oneWeek_134 : decode cX9_oneWeek 134 = .ok (.invokevirtual 298, 3) := by decide +kernel
theorem dX9_oneWeek_137 : decode cX9_oneWeek 137 = .ok (.ifCond .eq 41, 3) := by decide +kernel
theorem dX9_oneWeek_140 : decode cX9_oneWeek 140 = .ok (.aload_n 0, 1) := by decide +kernel
theorem dX9_oneWeek_141 : decode cX9_oneWeek 141 = .ok (.getfield 7, 3) := by decide +kernel
theorem dX9_oneWeek_144 : decode cX9_oneWeek 144 = .ok (.iconst 0, 1) := by decide +kernel
theorem dX9_oneWeek_145 : decode cX9_oneWeek 145 = .ok (.iaload, 1) := by decide +kernel
theorem dX9_oneWeek_146 : decode cX9_oneWeek 146 = .ok (.iconst 1, 1) := by decide +kernel
theorem dX9_oneWeek_147 : decode cX9_oneWeek 147 = .ok (.iadd, 1) := by decide +kernel
theorem dX9_oneWeek_148 : decode cX9_oneWeek 148 = .ok (.aload_n 0, 1) := by decide +kernel
theorem dX9_oneWeek_149 : decode cX9_oneWeek 149 = .ok (.getfield 7, 3) := by decide +kernel
theorem dX9_oneWeek_152 : decode cX9_oneWeek 152 = .ok (.iload_n 2, 1) := by decide +kernel
theorem dX9_oneWeek_153 : decode cX9_oneWeek 153 = .ok (.bipush 10, 2) := by decide +kernel
theorem dX9_oneWeek_155 : decode cX9_oneWeek 155 = .ok (.iadd, 1) := by decide +kernel
theorem dX9_oneWeek_156 : decode cX9_oneWeek 156 = .ok (.iaload, 1) := by decide +kernel
theorem dX9_oneWeek_157 : decode cX9_oneWeek 157 = .ok (.isub, 1) := by decide +kernel
theorem dX9_oneWeek_158 : decode cX9_oneWeek 158 = .ok (.aload_n 0, 1) := by decide +kernel
theorem dX9_oneWeek_159 : decode cX9_oneWeek 159 = .ok (.getfield 7, 3) := by decide +kernel
theorem dX9_oneWeek_162 : decode cX9_oneWeek 162 = .ok (.iload_n 2, 1) := by decide +kernel
theorem dX9_oneWeek_163 : decode cX9_oneWeek 163 = .ok (.bipush 12, 2) := by decide +kernel
theorem dX9_oneWeek_165 : decode cX9_oneWeek 165 = .ok (.iadd, 1) := by decide +kernel
theorem dX9_oneWeek_166 : decode cX9_oneWeek 166 = .ok (.iaload, 1) := by decide +kernel
theorem dX9_oneWeek_167 : decode cX9_oneWeek 167 = .ok (.if_icmp .lt 11, 3) := by decide +kernel
theorem dX9_oneWeek_170 : decode cX9_oneWeek 170 = .ok (.aload_n 0, 1) := by decide +kernel
theorem dX9_oneWeek_171 : decode cX9_oneWeek 171 = .ok (.iload_n 1, 1) := by decide +kernel
theorem dX9_oneWeek_172 : decode cX9_oneWeek 172 = .ok (.bipush 6, 2) := by decide +kernel
theorem dX9_oneWeek_174 : decode cX9_oneWeek 174 = .ok (.iconst 0, 1) := by decide +kernel
theorem dX9_oneWeek_175 : decode cX9_oneWeek 175 = .ok (.invokevirtual 97, 3) := by decide +kernel
theorem dX9_oneWeek_178 : decode cX9_oneWeek 178 = .ok (.iinc 1 1, 3) := by decide +kernel
theorem dX9_oneWeek_181 : decode cX9_oneWeek 181 = .ok (.goto (-109), 3) := by decide +kernel
theorem dX9_oneWeek_184 : decode cX9_oneWeek 184 = .ok (.iconst 0, 1) := by decide +kernel
theorem dX9_oneWeek_185 : decode cX9_oneWeek 185 = .ok (.istore_n 1, 1) := by decide +kernel
theorem dX9_oneWeek_186 : decode cX9_oneWeek 186 = .ok (.iload_n 1, 1) := by decide +kernel
theorem dX9_oneWeek_187 : decode cX9_oneWeek 187 = .ok (.aload_n 0, 1) := by decide +kernel
theorem dX9_oneWeek_188 : decode cX9_oneWeek 188 = .ok (.getfield 7, 3) := by decide +kernel
theorem dX9_oneWeek_191 : decode cX9_oneWeek 191 = .ok (.bipush 8, 2) := by decide +kernel
theorem dX9_oneWeek_193 : decode cX9_oneWeek 193 = .ok (.iaload, 1) := by decide +kernel
theorem dX9_oneWeek_194 : decode cX9_oneWeek 194 = .ok (.if_icmp .ge 69, 3) := by decide +kernel
theorem dX9_oneWeek_197 : decode cX9_oneWeek 197 = .ok (.sipush 570, 3) := by decide +kernel
theorem dX9_oneWeek_200 : decode cX9_oneWeek 200 = .ok (.iconst 5, 1) := by decide +kernel
theorem dX9_oneWeek_201 : decode cX9_oneWeek 201 = .ok (.iload_n 1, 1) := by decide +kernel
theorem dX9_oneWeek_202 : decode cX9_oneWeek 202 = .ok (.imul, 1) := by decide +kernel
theorem dX9_oneWeek_203 : decode cX9_oneWeek 203 = .ok (.iadd, 1) := by decide +kernel
theorem dX9_oneWeek_204 : decode cX9_oneWeek 204 = .ok (.istore_n 2, 1) := by decide +kernel
theorem dX9_oneWeek_205 : decode cX9_oneWeek 205 = .ok (.aload_n 0, 1) := by decide +kernel
theorem dX9_oneWeek_206 : decode cX9_oneWeek 206 = .ok (.getfield 7, 3) := by decide +kernel
theorem dX9_oneWeek_209 : decode cX9_oneWeek 209 = .ok (.iload_n 2, 1) := by decide +kernel
theorem dX9_oneWeek_210 : decode cX9_oneWeek 210 = .ok (.iconst 2, 1) := by decide +kernel
theorem dX9_oneWeek_211 : decode cX9_oneWeek 211 = .ok (.iadd, 1) := by decide +kernel
theorem dX9_oneWeek_212 : decode cX9_oneWeek 212 = .ok (.iaload, 1) := by decide +kernel
theorem dX9_oneWeek_213 : decode cX9_oneWeek 213 = .ok (.aload_n 0, 1) := by decide +kernel
theorem dX9_oneWeek_214 : decode cX9_oneWeek 214 = .ok (.getfield 7, 3) := by decide +kernel
theorem dX9_oneWeek_217 : decode cX9_oneWeek 217 = .ok (.iconst 0, 1) := by decide +kernel
theorem dX9_oneWeek_218 : decode cX9_oneWeek 218 = .ok (.iaload, 1) := by decide +kernel
theorem dX9_oneWeek_219 : decode cX9_oneWeek 219 = .ok (.if_icmp .ne 38, 3) := by decide +kernel
theorem dX9_oneWeek_222 : decode cX9_oneWeek 222 = .ok (.aload_n 0, 1) := by decide +kernel
theorem dX9_oneWeek_223 : decode cX9_oneWeek 223 = .ok (.getfield 7, 3) := by decide +kernel
theorem dX9_oneWeek_226 : decode cX9_oneWeek 226 = .ok (.iload_n 2, 1) := by decide +kernel
theorem dX9_oneWeek_227 : decode cX9_oneWeek 227 = .ok (.iconst 3, 1) := by decide +kernel
theorem dX9_oneWeek_228 : decode cX9_oneWeek 228 = .ok (.iadd, 1) := by decide +kernel
theorem dX9_oneWeek_229 : decode cX9_oneWeek 229 = .ok (.iconst 1, 1) := by decide +kernel
theorem dX9_oneWeek_230 : decode cX9_oneWeek 230 = .ok (.iastore, 1) := by decide +kernel
theorem dX9_oneWeek_231 : decode cX9_oneWeek 231 = .ok (.aload_n 0, 1) := by decide +kernel
theorem dX9_oneWeek_232 : decode cX9_oneWeek 232 = .ok (.getfield 7, 3) := by decide +kernel
theorem dX9_oneWeek_235 : decode cX9_oneWeek 235 = .ok (.iload_n 2, 1) := by decide +kernel
theorem dX9_oneWeek_236 : decode cX9_oneWeek 236 = .ok (.iconst 4, 1) := by decide +kernel
theorem dX9_oneWeek_237 : decode cX9_oneWeek 237 = .ok (.iadd, 1) := by decide +kernel
theorem dX9_oneWeek_238 : decode cX9_oneWeek 238 = .ok (.aload_n 0, 1) := by decide +kernel
theorem dX9_oneWeek_239 : decode cX9_oneWeek 239 = .ok (.aload_n 0, 1) := by decide +kernel
theorem dX9_oneWeek_240 : decode cX9_oneWeek 240 = .ok (.getfield 7, 3) := by decide +kernel
theorem dX9_oneWeek_243 : decode cX9_oneWeek 243 = .ok (.iload_n 2, 1) := by decide +kernel
theorem dX9_oneWeek_244 : decode cX9_oneWeek 244 = .ok (.iaload, 1) := by decide +kernel
theorem dX9_oneWeek_245 : decode cX9_oneWeek 245 = .ok (.invokevirtual 70, 3) := by decide +kernel
theorem dX9_oneWeek_248 : decode cX9_oneWeek 248 = .ok (.ifCond .eq 7, 3) := by decide +kernel
theorem dX9_oneWeek_251 : decode cX9_oneWeek 251 = .ok (.iconst 1, 1) := by decide +kernel
theorem dX9_oneWeek_252 : decode cX9_oneWeek 252 = .ok (.goto 4, 3) := by decide +kernel
theorem dX9_oneWeek_255 : decode cX9_oneWeek 255 = .ok (.iconst 0, 1) := by decide +kernel
theorem dX9_oneWeek_256 : decode cX9_oneWeek 256 = .ok (.iastore, 1) := by decide +kernel
theorem dX9_oneWeek_257 : decode cX9_oneWeek 257 = .ok (.iinc 1 1, 3) := by decide +kernel
theorem dX9_oneWeek_260 : decode cX9_oneWeek 260 = .ok (.goto (-74), 3) := by decide +kernel
theorem dX9_oneWeek_263 : decode cX9_oneWeek 263 = .ok (.aload_n 0, 1) := by decide +kernel
theorem dX9_oneWeek_264 : decode cX9_oneWeek 264 = .ok (.getfield 7, 3) := by decide +kernel
theorem dX9_oneWeek_267 : decode cX9_oneWeek 267 = .ok (.iconst 0, 1) := by decide +kernel
theorem dX9_oneWeek_268 : decode cX9_oneWeek 268 = .ok (.dup2, 1) := by decide +kernel
theorem dX9_oneWeek_269 : decode cX9_oneWeek 269 = .ok (.iaload, 1) := by decide +kernel
theorem dX9_oneWeek_270 : decode cX9_oneWeek 270 = .ok (.iconst 1, 1) := by decide +kernel
theorem dX9_oneWeek_271 : decode cX9_oneWeek 271 = .ok (.iadd, 1) := by decide +kernel
theorem dX9_oneWeek_272 : decode cX9_oneWeek 272 = .ok (.iastore, 1) := by decide +kernel
theorem dX9_oneWeek_273 : decode cX9_oneWeek 273 = .ok (.return_, 1) := by decide +kernel
theorem dX9_run_0 : decode cX9_run 0 = .ok (.iload_n 1, 1) := by decide +kernel
theorem dX9_run_1 : decode cX9_run 1 = .ok (.i2l, 1) := by decide +kernel
theorem dX9_run_2 : decode cX9_run 2 = .ok (.lconst 1, 1) := by decide +kernel
theorem dX9_run_3 : decode cX9_run 3 = .ok (.ldc2_w 308, 3) := by decide +kernel
theorem dX9_run_6 : decode cX9_run 6 = .ok (.invokestatic 60, 3) := by decide +kernel
theorem dX9_run_9 : decode cX9_run 9 = .ok (.ifCond .ne 6, 3) := by decide +kernel
theorem dX9_run_12 : decode cX9_run 12 = .ok (.ldc 87, 2) := by decide +kernel
theorem dX9_run_14 : decode cX9_run 14 = .ok (.ireturn, 1) := by decide +kernel
theorem dX9_run_15 : decode cX9_run 15 = .ok (.aload_n 0, 1) := by decide +kernel
theorem dX9_run_16 : decode cX9_run 16 = .ok (.getfield 7, 3) := by decide +kernel
theorem dX9_run_19 : decode cX9_run 19 = .ok (.iconst 0, 1) := by decide +kernel
theorem dX9_run_20 : decode cX9_run 20 = .ok (.iaload, 1) := by decide +kernel
theorem dX9_run_21 : decode cX9_run 21 = .ok (.iload_n 1, 1) := by decide +kernel
theorem dX9_run_22 : decode cX9_run 22 = .ok (.iadd, 1) := by decide +kernel
theorem dX9_run_23 : decode cX9_run 23 = .ok (.sipush 1999, 3) := by decide +kernel
theorem dX9_run_26 : decode cX9_run 26 = .ok (.if_icmp .le 6, 3) := by decide +kernel
theorem dX9_run_29 : decode cX9_run 29 = .ok (.ldc 88, 2) := by decide +kernel
theorem dX9_run_31 : decode cX9_run 31 = .ok (.ireturn, 1) := by decide +kernel
theorem dX9_run_32 : decode cX9_run 32 = .ok (.iconst 0, 1) := by decide +kernel
theorem dX9_run_33 : decode cX9_run 33 = .ok (.istore_n 2, 1) := by decide +kernel
theorem dX9_run_34 : decode cX9_run 34 = .ok (.iload_n 2, 1) := by decide +kernel
theorem dX9_run_35 : decode cX9_run 35 = .ok (.iload_n 1, 1) := by decide +kernel
theorem dX9_run_36 : decode cX9_run 36 = .ok (.if_icmp .ge 13, 3) := by decide +kernel
theorem dX9_run_39 : decode cX9_run 39 = .ok (.aload_n 0, 1) := by decide +kernel
theorem dX9_run_40 : decode cX9_run 40 = .ok (.invokevirtual 310, 3) := by decide +kernel
theorem dX9_run_43 : decode cX9_run 43 = .ok (.iinc 2 1, 3) := by decide +kernel
theorem dX9_run_46 : decode cX9_run 46 = .ok (.goto (-12), 3) := by decide +kernel
theorem dX9_run_49 : decode cX9_run 49 = .ok (.aload_n 0, 1) := by decide +kernel
theorem dX9_run_50 : decode cX9_run 50 = .ok (.getfield 7, 3) := by decide +kernel
theorem dX9_run_53 : decode cX9_run 53 = .ok (.iconst 0, 1) := by decide +kernel
theorem dX9_run_54 : decode cX9_run 54 = .ok (.iaload, 1) := by decide +kernel
theorem dX9_run_55 : decode cX9_run 55 = .ok (.ireturn, 1) := by decide +kernel
theorem dX9_path_0 : decode cX9_path 0 = .ok (.iload_n 1, 1) := by decide +kernel
theorem dX9_path_1 : decode cX9_path 1 = .ok (.invokestatic 82, 3) := by decide +kernel
theorem dX9_path_4 : decode cX9_path 4 = .ok (.ifCond .eq 27, 3) := by decide +kernel
theorem dX9_path_7 : decode cX9_path 7 = .ok (.iload_n 2, 1) := by decide +kernel
theorem dX9_path_8 : decode cX9_path 8 = .ok (.invokestatic 82, 3) := by decide +kernel
theorem dX9_path_11 : decode cX9_path 11 = .ok (.ifCond .eq 20, 3) := by decide +kernel
theorem dX9_path_14 : decode cX9_path 14 = .ok (.iload_n 1, 1) := by decide +kernel
theorem dX9_path_15 : decode cX9_path 15 = .ok (.iload_n 2, 1) := by decide +kernel
theorem dX9_path_16 : decode cX9_path 16 = .ok (.if_icmp .eq 15, 3) := by decide +kernel
theorem dX9_path_19 : decode cX9_path 19 = .ok (.iload_n 3, 1) := by decide +kernel
theorem dX9_path_20 : decode cX9_path 20 = .ok (.i2l, 1) := by decide +kernel
theorem dX9_path_21 : decode cX9_path 21 = .ok (.lconst 0, 1) := by decide +kernel
theorem dX9_path_22 : decode cX9_path 22 = .ok (.ldc2_w 127, 3) := by decide +kernel
theorem dX9_path_25 : decode cX9_path 25 = .ok (.invokestatic 60, 3) := by decide +kernel
theorem dX9_path_28 : decode cX9_path 28 = .ok (.ifCond .ne 6, 3) := by decide +kernel
theorem dX9_path_31 : decode cX9_path 31 = .ok (.ldc 87, 2) := by decide +kernel
theorem dX9_path_33 : decode cX9_path 33 = .ok (.ireturn, 1) := by decide +kernel
theorem dX9_path_34 : decode cX9_path 34 = .ok (.aload_n 0, 1) := by decide +kernel
theorem dX9_path_35 : decode cX9_path 35 = .ok (.getfield 7, 3) := by decide +kernel
theorem dX9_path_38 : decode cX9_path 38 = .ok (.sipush 670, 3) := by decide +kernel
theorem dX9_path_41 : decode cX9_path 41 = .ok (.bipush 6, 2) := by decide +kernel
theorem dX9_path_43 : decode cX9_path 43 = .ok (.iload_n 2, 1) := by decide +kernel
theorem dX9_path_44 : decode cX9_path 44 = .ok (.imul, 1) := by decide +kernel
theorem dX9_path_45 : decode cX9_path 45 = .ok (.iadd, 1) := by decide +kernel
theorem dX9_path_46 : decode cX9_path 46 = .ok (.iload_n 1, 1) := by decide +kernel
theorem dX9_path_47 : decode cX9_path 47 = .ok (.iadd, 1) := by decide +kernel
theorem dX9_path_48 : decode cX9_path 48 = .ok (.iload_n 3, 1) := by decide +kernel
theorem dX9_path_49 : decode cX9_path 49 = .ok (.iastore, 1) := by decide +kernel
theorem dX9_path_50 : decode cX9_path 50 = .ok (.aload_n 0, 1) := by decide +kernel
theorem dX9_path_51 : decode cX9_path 51 = .ok (.sipush 670, 3) := by decide +kernel
theorem dX9_path_54 : decode cX9_path 54 = .ok (.bipush 6, 2) := by decide +kernel
theorem dX9_path_56 : decode cX9_path 56 = .ok (.iload_n 1, 1) := by decide +kernel
theorem dX9_path_57 : decode cX9_path 57 = .ok (.imul, 1) := by decide +kernel
theorem dX9_path_58 : decode cX9_path 58 = .ok (.iadd, 1) := by decide +kernel
theorem dX9_path_59 : decode cX9_path 59 = .ok (.iload_n 2, 1) := by decide +kernel
theorem dX9_path_60 : decode cX9_path 60 = .ok (.iadd, 1) := by decide +kernel
theorem dX9_path_61 : decode cX9_path 61 = .ok (.iload_n 3, 1) := by decide +kernel
theorem dX9_path_62 : decode cX9_path 62 = .ok (.invokevirtual 107, 3) := by decide +kernel
theorem dX9_path_65 : decode cX9_path 65 = .ok (.ireturn, 1) := by decide +kernel
theorem dX9_reach_0 : decode cX9_reach 0 = .ok (.iload_n 1, 1) := by decide +kernel
theorem dX9_reach_1 : decode cX9_reach 1 = .ok (.invokestatic 82, 3) := by decide +kernel
theorem dX9_reach_4 : decode cX9_reach 4 = .ok (.ifCond .eq 15, 3) := by decide +kernel
theorem dX9_reach_7 : decode cX9_reach 7 = .ok (.iload_n 2, 1) := by decide +kernel
theorem dX9_reach_8 : decode cX9_reach 8 = .ok (.i2l, 1) := by decide +kernel
theorem dX9_reach_9 : decode cX9_reach 9 = .ok (.lconst 0, 1) := by decide +kernel
theorem dX9_reach_10 : decode cX9_reach 10 = .ok (.ldc2_w 127, 3) := by decide +kernel
theorem dX9_reach_13 : decode cX9_reach 13 = .ok (.invokestatic 60, 3) := by decide +kernel
theorem dX9_reach_16 : decode cX9_reach 16 = .ok (.ifCond .ne 6, 3) := by decide +kernel
theorem dX9_reach_19 : decode cX9_reach 19 = .ok (.ldc 87, 2) := by decide +kernel
theorem dX9_reach_21 : decode cX9_reach 21 = .ok (.ireturn, 1) := by decide +kernel
theorem dX9_reach_22 : decode cX9_reach 22 = .ok (.iconst 0, 1) := by decide +kernel
theorem dX9_reach_23 : decode cX9_reach 23 = .ok (.istore_n 3, 1) := by decide +kernel
theorem dX9_reach_24 : decode cX9_reach 24 = .ok (.iload_n 3, 1) := by decide +kernel
theorem dX9_reach_25 : decode cX9_reach 25 = .ok (.bipush 6, 2) := by decide +kernel
theorem dX9_reach_27 : decode cX9_reach 27 = .ok (.if_icmp .ge 27, 3) := by decide +kernel
theorem dX9_reach_30 : decode cX9_reach 30 = .ok (.aload_n 0, 1) := by decide +kernel
theorem dX9_reach_31 : decode cX9_reach 31 = .ok (.getfield 37, 3) := by decide +kernel
theorem dX9_reach_34 : decode cX9_reach 34 = .ok (.iload_n 3, 1) := by decide +kernel
theorem dX9_reach_35 : decode cX9_reach 35 = .ok (.iload_n 3, 1) := by decide +kernel
theorem dX9_reach_36 : decode cX9_reach 36 = .ok (.iload_n 1, 1) := by decide +kernel
theorem dX9_reach_37 : decode cX9_reach 37 = .ok (.if_icmp .ne 7, 3) := by decide +kernel
theorem dX9_reach_40 : decode cX9_reach 40 = .ok (.iconst 0, 1) := by decide +kernel
theorem dX9_reach_41 : decode cX9_reach 41 = .ok (.goto 6, 3) := by decide +kernel
theorem dX9_reach_44 : decode cX9_reach 44 = .ok (.ldc_w 313, 3) := by decide +kernel
theorem dX9_reach_47 : decode cX9_reach 47 = .ok (.iastore, 1) := by decide +kernel
theorem dX9_reach_48 : decode cX9_reach 48 = .ok (.iinc 3 1, 3) := by decide +kernel
theorem dX9_reach_51 : decode cX9_reach 51 = .ok (.goto (-27), 3) := by decide +kernel
theorem dX9_reach_54 : decode cX9_reach 54 = .ok (.iconst 0, 1) := by decide +kernel
theorem dX9_reach_55 : decode cX9_reach 55 = .ok (.istore_n 3, 1) := by decide +kernel
theorem dX9_reach_56 : decode cX9_reach 56 = .ok (.iload_n 3, 1) := by decide +kernel
theorem dX9_reach_57 : decode cX9_reach 57 = .ok (.bipush 6, 2) := by decide +kernel
theorem dX9_reach_59 : decode cX9_reach 59 = .ok (.if_icmp .ge 102, 3) := by decide +kernel
theorem dX9_reach_62 : decode cX9_reach 62 = .ok (.iconst 0, 1) := by decide +kernel
theorem dX9_reach_63 : decode cX9_reach 63 = .ok (.istore 4, 2) := by decide +kernel
theorem dX9_reach_65 : decode cX9_reach 65 = .ok (.iload 4, 2) := by decide +kernel
theorem dX9_reach_67 : decode cX9_reach 67 = .ok (.bipush 6, 2) := by decide +kernel
theorem dX9_reach_69 : decode cX9_reach 69 = .ok (.if_icmp .ge 86, 3) := by decide +kernel
theorem dX9_reach_72 : decode cX9_reach 72 = .ok (.iconst 0, 1) := by decide +kernel
theorem dX9_reach_73 : decode cX9_reach 73 = .ok (.istore 5, 2) := by decide +kernel
theorem dX9_reach_75 : decode cX9_reach 75 = .ok (.iload 5, 2) := by decide +kernel
theorem dX9_reach_77 : decode cX9_reach 77 = .ok (.bipush 6, 2) := by decide +kernel
theorem dX9_reach_79 : decode cX9_reach 79 = .ok (.if_icmp .ge 70, 3) := by decide +kernel
theorem dX9_reach_82 : decode cX9_reach 82 = .ok (.aload_n 0, 1) := by decide +kernel
theorem dX9_reach_83 : decode cX9_reach 83 = .ok (.getfield 7, 3) := by decide +kernel
theorem dX9_reach_86 : decode cX9_reach 86 = .ok (.sipush 670, 3) := by decide +kernel
theorem dX9_reach_89 : decode cX9_reach 89 = .ok (.bipush 6, 2) := by decide +kernel
theorem dX9_reach_91 : decode cX9_reach 91 = .ok (.iload 4, 2) := by decide +kernel
theorem dX9_reach_93 : decode cX9_reach 93 = .ok (.imul, 1) := by decide +kernel
theorem dX9_reach_94 : decode cX9_reach 94 = .ok (.iadd, 1) := by decide +kernel
theorem dX9_reach_95 : decode cX9_reach 95 = .ok (.iload 5, 2) := by decide +kernel
theorem dX9_reach_97 : decode cX9_reach 97 = .ok (.iadd, 1) := by decide +kernel
theorem dX9_reach_98 : decode cX9_reach 98 = .ok (.iaload, 1) := by decide +kernel
theorem dX9_reach_99 : decode cX9_reach 99 = .ok (.istore 6, 2) := by decide +kernel
theorem dX9_reach_101 : decode cX9_reach 101 = .ok (.aload_n 0, 1) := by decide +kernel
theorem dX9_reach_102 : decode cX9_reach 102 = .ok (.getfield 37, 3) := by decide +kernel
theorem dX9_reach_105 : decode cX9_reach 105 = .ok (.iload 5, 2) := by decide +kernel
theorem dX9_reach_107 : decode cX9_reach 107 = .ok (.iload 6, 2) := by decide +kernel
theorem dX9_reach_109 : decode cX9_reach 109 = .ok (.ifCond .le 26, 3) := by decide +kernel
theorem dX9_reach_112 : decode cX9_reach 112 = .ok (.aload_n 0, 1) := by decide +kernel
theorem dX9_reach_113 : decode cX9_reach 113 = .ok (.getfield 37, 3) := by decide +kernel
theorem dX9_reach_116 : decode cX9_reach 116 = .ok (.iload 5, 2) := by decide +kernel
theorem dX9_reach_118 : decode cX9_reach 118 = .ok (.iaload, 1) := by decide +kernel
theorem dX9_reach_119 : decode cX9_reach 119 = .ok (.aload_n 0, 1) := by decide +kernel
theorem dX9_reach_120 : decode cX9_reach 120 = .ok (.getfield 37, 3) := by decide +kernel
theorem dX9_reach_123 : decode cX9_reach 123 = .ok (.iload 4, 2) := by decide +kernel
theorem dX9_reach_125 : decode cX9_reach 125 = .ok (.iaload, 1) := by decide +kernel
theorem dX9_reach_126 : decode cX9_reach 126 = .ok (.iload 6, 2) := by decide +kernel
theorem dX9_reach_128 : decode cX9_reach 128 = .ok (.iadd, 1) := by decide +kernel
theorem dX9_reach_129 : decode cX9_reach 129 = .ok (.invokestatic 286, 3) := by decide +kernel
theorem dX9_reach_132 : decode cX9_reach 132 = .ok (.goto 10, 3) := by decide +kernel
theorem dX9_reach_135 : decode cX9_reach 135 = .ok (.aload_n 0, 1) := by decide +kernel
theorem dX9_reach_136 : decode cX9_reach 136 = .ok (.getfield 37, 3) := by decide +kernel
theorem dX9_reach_139 : decode cX9_reach 139 = .ok (.iload 5, 2) := by decide +kernel
theorem dX9_reach_141 : decode cX9_reach 141 = .ok (.iaload, 1) := by decide +kernel
theorem dX9_reach_142 : decode cX9_reach 142 = .ok (.iastore, 1) := by decide +kernel
theorem dX9_reach_143 : decode cX9_reach 143 = .ok (.iinc 5 1, 3) := by decide +kernel
theorem dX9_reach_146 : decode cX9_reach 146 = .ok (.goto (-71), 3) := by decide +kernel
theorem dX9_reach_149 : decode cX9_reach 149 = .ok (.iinc 4 1, 3) := by decide +kernel
theorem dX9_reach_152 : decode cX9_reach 152 = .ok (.goto (-87), 3) := by decide +kernel
theorem dX9_reach_155 : decode cX9_reach 155 = .ok (.iinc 3 1, 3) := by decide +kernel
theorem dX9_reach_158 : decode cX9_reach 158 = .ok (.goto (-102), 3) := by decide +kernel
theorem dX9_reach_161 : decode cX9_reach 161 = .ok (.iconst 0, 1) := by decide +kernel
theorem dX9_reach_162 : decode cX9_reach 162 = .ok (.istore_n 3, 1) := by decide +kernel
theorem dX9_reach_163 : decode cX9_reach 163 = .ok (.iconst 0, 1) := by decide +kernel
theorem dX9_reach_164 : decode cX9_reach 164 = .ok (.istore 4, 2) := by decide +kernel
theorem dX9_reach_166 : decode cX9_reach 166 = .ok (.iload 4, 2) := by decide +kernel
theorem dX9_reach_168 : decode cX9_reach 168 = .ok (.bipush 6, 2) := by decide +kernel
theorem dX9_reach_170 : decode cX9_reach 170 = .ok (.if_icmp .ge 34, 3) := by decide +kernel
theorem dX9_reach_173 : decode cX9_reach 173 = .ok (.iload_n 3, 1) := by decide +kernel
theorem dX9_reach_174 : decode cX9_reach 174 = .ok (.aload_n 0, 1) := by decide +kernel
theorem dX9_reach_175 : decode cX9_reach 175 = .ok (.getfield 37, 3) := by decide +kernel
theorem dX9_reach_178 : decode cX9_reach 178 = .ok (.iload 4, 2) := by decide +kernel
theorem dX9_reach_180 : decode cX9_reach 180 = .ok (.iaload, 1) := by decide +kernel
theorem dX9_reach_181 : decode cX9_reach 181 = .ok (.bipush 7, 2) := by decide +kernel
theorem dX9_reach_183 : decode cX9_reach 183 = .ok (.iload_n 2, 1) := by decide +kernel
theorem dX9_reach_184 : decode cX9_reach 184 = .ok (.imul, 1) := by decide +kernel
theorem dX9_reach_185 : decode cX9_reach 185 = .ok (.if_icmp .gt 10, 3) := by decide +kernel
theorem dX9_reach_188 : decode cX9_reach 188 = .ok (.iconst 1, 1) := by decide +kernel
theorem dX9_reach_189 : decode cX9_reach 189 = .ok (.iload 4, 2) := by decide +kernel
theorem dX9_reach_191 : decode cX9_reach 191 = .ok (.ishl, 1) := by decide +kernel
theorem dX9_reach_192 : decode cX9_reach 192 = .ok (.goto 4, 3) := by decide +kernel
theorem dX9_reach_195 : decode cX9_reach 195 = .ok (.iconst 0, 1) := by decide +kernel
theorem dX9_reach_196 : decode cX9_reach 196 = .ok (.ior, 1) := by decide +kernel
theorem dX9_reach_197 : decode cX9_reach 197 = .ok (.istore_n 3, 1) := by decide +kernel
theorem dX9_reach_198 : decode cX9_reach 198 = .ok (.iinc 4 1, 3) := by decide +kernel
theorem dX9_reach_201 : decode cX9_reach 201 = .ok (.goto (-35), 3) := by decide +kernel
theorem dX9_reach_204 : decode cX9_reach 204 = .ok (.iload_n 3, 1) := by decide +kernel
theorem dX9_reach_205 : decode cX9_reach 205 = .ok (.ireturn, 1) := by decide +kernel
theorem dX9_ones_0 : decode cX9_ones 0 = .ok (.iconst 0, 1) := by decide +kernel
theorem dX9_ones_1 : decode cX9_ones 1 = .ok (.istore_n 1, 1) := by decide +kernel
theorem dX9_ones_2 : decode cX9_ones 2 = .ok (.iconst 0, 1) := by decide +kernel
theorem dX9_ones_3 : decode cX9_ones 3 = .ok (.istore_n 2, 1) := by decide +kernel
theorem dX9_ones_4 : decode cX9_ones 4 = .ok (.iload_n 2, 1) := by decide +kernel
theorem dX9_ones_5 : decode cX9_ones 5 = .ok (.bipush 14, 2) := by decide +kernel
theorem dX9_ones_7 : decode cX9_ones 7 = .ok (.if_icmp .ge 17, 3) := by decide +kernel
theorem dX9_ones_10 : decode cX9_ones 10 = .ok (.iload_n 1, 1) := by decide +kernel
theorem dX9_ones_11 : decode cX9_ones 11 = .ok (.iload_n 0, 1) := by decide +kernel
theorem dX9_ones_12 : decode cX9_ones 12 = .ok (.iload_n 2, 1) := by decide +kernel
theorem dX9_ones_13 : decode cX9_ones 13 = .ok (.ishr, 1) := by decide +kernel
theorem dX9_ones_14 : decode cX9_ones 14 = .ok (.iconst 1, 1) := by decide +kernel
theorem dX9_ones_15 : decode cX9_ones 15 = .ok (.iand, 1) := by decide +kernel
theorem dX9_ones_16 : decode cX9_ones 16 = .ok (.iadd, 1) := by decide +kernel
theorem dX9_ones_17 : decode cX9_ones 17 = .ok (.istore_n 1, 1) := by decide +kernel
theorem dX9_ones_18 : decode cX9_ones 18 = .ok (.iinc 2 1, 3) := by decide +kernel
theorem dX9_ones_21 : decode cX9_ones 21 = .ok (.goto (-17), 3) := by decide +kernel
theorem dX9_ones_24 : decode cX9_ones 24 = .ok (.iload_n 1, 1) := by decide +kernel
theorem dX9_ones_25 : decode cX9_ones 25 = .ok (.ireturn, 1) := by decide +kernel
theorem dX9_look_0 : decode cX9_look 0 = .ok (.iload_n 1, 1) := by decide +kernel
theorem dX9_look_1 : decode cX9_look 1 = .ok (.i2l, 1) := by decide +kernel
theorem dX9_look_2 : decode cX9_look 2 = .ok (.lconst 0, 1) := by decide +kernel
theorem dX9_look_3 : decode cX9_look 3 = .ok (.ldc2_w 314, 3) := by decide +kernel
theorem dX9_look_6 : decode cX9_look 6 = .ok (.invokestatic 60, 3) := by decide +kernel
theorem dX9_look_9 : decode cX9_look 9 = .ok (.ifCond .eq 40, 3) := by decide +kernel
theorem dX9_look_12 : decode cX9_look 12 = .ok (.iload_n 2, 1) := by decide +kernel
theorem dX9_look_13 : decode cX9_look 13 = .ok (.i2l, 1) := by decide +kernel
theorem dX9_look_14 : decode cX9_look 14 = .ok (.lconst 0, 1) := by decide +kernel
theorem dX9_look_15 : decode cX9_look 15 = .ok (.ldc2_w 316, 3) := by decide +kernel
theorem dX9_look_18 : decode cX9_look 18 = .ok (.invokestatic 60, 3) := by decide +kernel
theorem dX9_look_21 : decode cX9_look 21 = .ok (.ifCond .eq 28, 3) := by decide +kernel
theorem dX9_look_24 : decode cX9_look 24 = .ok (.iload_n 3, 1) := by decide +kernel
theorem dX9_look_25 : decode cX9_look 25 = .ok (.i2l, 1) := by decide +kernel
theorem dX9_look_26 : decode cX9_look 26 = .ok (.lconst 0, 1) := by decide +kernel
theorem dX9_look_27 : decode cX9_look 27 = .ok (.ldc2_w 93, 3) := by decide +kernel
theorem dX9_look_30 : decode cX9_look 30 = .ok (.invokestatic 60, 3) := by decide +kernel
theorem dX9_look_33 : decode cX9_look 33 = .ok (.ifCond .eq 16, 3) := by decide +kernel
theorem dX9_look_36 : decode cX9_look 36 = .ok (.iload 4, 2) := by decide +kernel
theorem dX9_look_38 : decode cX9_look 38 = .ok (.i2l, 1) := by decide +kernel
theorem dX9_look_39 : decode cX9_look 39 = .ok (.lconst 0, 1) := by decide +kernel
theorem dX9_look_40 : decode cX9_look 40 = .ok (.ldc2_w 95, 3) := by decide +kernel
theorem dX9_look_43 : decode cX9_look 43 = .ok (.invokestatic 60, 3) := by decide +kernel
theorem dX9_look_46 : decode cX9_look 46 = .ok (.ifCond .ne 6, 3) := by decide +kernel
theorem dX9_look_49 : decode cX9_look 49 = .ok (.ldc 87, 2) := by decide +kernel
theorem dX9_look_51 : decode cX9_look 51 = .ok (.ireturn, 1) := by decide +kernel
theorem dX9_look_52 : decode cX9_look 52 = .ok (.aload_n 0, 1) := by decide +kernel
theorem dX9_look_53 : decode cX9_look 53 = .ok (.getfield 7, 3) := by decide +kernel
theorem dX9_look_56 : decode cX9_look 56 = .ok (.bipush 6, 2) := by decide +kernel
theorem dX9_look_58 : decode cX9_look 58 = .ok (.iaload, 1) := by decide +kernel
theorem dX9_look_59 : decode cX9_look 59 = .ok (.bipush 10, 2) := by decide +kernel
theorem dX9_look_61 : decode cX9_look 61 = .ok (.if_icmp .ne 6, 3) := by decide +kernel
theorem dX9_look_64 : decode cX9_look 64 = .ok (.ldc 88, 2) := by decide +kernel
theorem dX9_look_66 : decode cX9_look 66 = .ok (.ireturn, 1) := by decide +kernel
theorem dX9_look_67 : decode cX9_look 67 = .ok (.sipush 440, 3) := by decide +kernel
theorem dX9_look_70 : decode cX9_look 70 = .ok (.iconst 4, 1) := by decide +kernel
theorem dX9_look_71 : decode cX9_look 71 = .ok (.aload_n 0, 1) := by decide +kernel
theorem dX9_look_72 : decode cX9_look 72 = .ok (.getfield 7, 3) := by decide +kernel
theorem dX9_look_75 : decode cX9_look 75 = .ok (.bipush 6, 2) := by decide +kernel
theorem dX9_look_77 : decode cX9_look 77 = .ok (.iaload, 1) := by decide +kernel
theorem dX9_look_78 : decode cX9_look 78 = .ok (.imul, 1) := by decide +kernel
theorem dX9_look_79 : decode cX9_look 79 = .ok (.iadd, 1) := by decide +kernel
theorem dX9_look_80 : decode cX9_look 80 = .ok (.istore 5, 2) := by decide +kernel
theorem dX9_look_82 : decode cX9_look 82 = .ok (.aload_n 0, 1) := by decide +kernel
theorem dX9_look_83 : decode cX9_look 83 = .ok (.getfield 7, 3) := by decide +kernel
theorem dX9_look_86 : decode cX9_look 86 = .ok (.iload 5, 2) := by decide +kernel
theorem dX9_look_88 : decode cX9_look 88 = .ok (.iload_n 1, 1) := by decide +kernel
theorem dX9_look_89 : decode cX9_look 89 = .ok (.iastore, 1) := by decide +kernel
theorem dX9_look_90 : decode cX9_look 90 = .ok (.aload_n 0, 1) := by decide +kernel
theorem dX9_look_91 : decode cX9_look 91 = .ok (.getfield 7, 3) := by decide +kernel
theorem dX9_look_94 : decode cX9_look 94 = .ok (.iload 5, 2) := by decide +kernel
theorem dX9_look_96 : decode cX9_look 96 = .ok (.iconst 1, 1) := by decide +kernel
theorem dX9_look_97 : decode cX9_look 97 = .ok (.iadd, 1) := by decide +kernel
theorem dX9_look_98 : decode cX9_look 98 = .ok (.iload_n 2, 1) := by decide +kernel
theorem dX9_look_99 : decode cX9_look 99 = .ok (.iastore, 1) := by decide +kernel
theorem dX9_look_100 : decode cX9_look 100 = .ok (.aload_n 0, 1) := by decide +kernel
theorem dX9_look_101 : decode cX9_look 101 = .ok (.getfield 7, 3) := by decide +kernel
theorem dX9_look_104 : decode cX9_look 104 = .ok (.iload 5, 2) := by decide +kernel
theorem dX9_look_106 : decode cX9_look 106 = .ok (.iconst 2, 1) := by decide +kernel
theorem dX9_look_107 : decode cX9_look 107 = .ok (.iadd, 1) := by decide +kernel
theorem dX9_look_108 : decode cX9_look 108 = .ok (.iload_n 3, 1) := by decide +kernel
theorem dX9_look_109 : decode cX9_look 109 = .ok (.iastore, 1) := by decide +kernel
theorem dX9_look_110 : decode cX9_look 110 = .ok (.aload_n 0, 1) := by decide +kernel
theorem dX9_look_111 : decode cX9_look 111 = .ok (.getfield 7, 3) := by decide +kernel
theorem dX9_look_114 : decode cX9_look 114 = .ok (.iload 5, 2) := by decide +kernel
theorem dX9_look_116 : decode cX9_look 116 = .ok (.iconst 3, 1) := by decide +kernel
theorem dX9_look_117 : decode cX9_look 117 = .ok (.iadd, 1) := by decide +kernel
theorem dX9_look_118 : decode cX9_look 118 = .ok (.iload 4, 2) := by decide +kernel
theorem dX9_look_120 : decode cX9_look 120 = .ok (.iastore, 1) := by decide +kernel
theorem dX9_look_121 : decode cX9_look 121 = .ok (.aload_n 0, 1) := by decide +kernel
theorem dX9_look_122 : decode cX9_look 122 = .ok (.getfield 7, 3) := by decide +kernel
theorem dX9_look_125 : decode cX9_look 125 = .ok (.bipush 6, 2) := by decide +kernel
theorem dX9_look_127 : decode cX9_look 127 = .ok (.dup2, 1) := by decide +kernel
theorem dX9_look_128 : decode cX9_look 128 = .ok (.iaload, 1) := by decide +kernel
theorem dX9_look_129 : decode cX9_look 129 = .ok (.iconst 1, 1) := by decide +kernel
theorem dX9_look_130 : decode cX9_look 130 = .ok (.iadd, 1) := by decide +kernel
theorem dX9_look_131 : decode cX9_look 131 = .ok (.iastore, 1) := by decide +kernel
theorem dX9_look_132 : decode cX9_look 132 = .ok (.aload_n 0, 1) := by decide +kernel
theorem dX9_look_133 : decode cX9_look 133 = .ok (.getfield 7, 3) := by decide +kernel
theorem dX9_look_136 : decode cX9_look 136 = .ok (.bipush 6, 2) := by decide +kernel
theorem dX9_look_138 : decode cX9_look 138 = .ok (.iaload, 1) := by decide +kernel
theorem dX9_look_139 : decode cX9_look 139 = .ok (.iconst 1, 1) := by decide +kernel
theorem dX9_look_140 : decode cX9_look 140 = .ok (.isub, 1) := by decide +kernel
theorem dX9_look_141 : decode cX9_look 141 = .ok (.ireturn, 1) := by decide +kernel
theorem dX9_mayBe_0 : decode cX9_mayBe 0 = .ok (.sipush 440, 3) := by decide +kernel
theorem dX9_mayBe_3 : decode cX9_mayBe 3 = .ok (.iconst 4, 1) := by decide +kernel
theorem dX9_mayBe_4 : decode cX9_mayBe 4 = .ok (.iload_n 1, 1) := by decide +kernel
theorem dX9_mayBe_5 : decode cX9_mayBe 5 = .ok (.imul, 1) := by decide +kernel
theorem dX9_mayBe_6 : decode cX9_mayBe 6 = .ok (.iadd, 1) := by decide +kernel
theorem dX9_mayBe_7 : decode cX9_mayBe 7 = .ok (.istore_n 3, 1) := by decide +kernel
theorem dX9_mayBe_8 : decode cX9_mayBe 8 = .ok (.aload_n 0, 1) := by decide +kernel
theorem dX9_mayBe_9 : decode cX9_mayBe 9 = .ok (.iload_n 2, 1) := by decide +kernel
theorem dX9_mayBe_10 : decode cX9_mayBe 10 = .ok (.invokevirtual 66, 3) := by decide +kernel
theorem dX9_mayBe_13 : decode cX9_mayBe 13 = .ok (.istore 4, 2) := by decide +kernel
theorem dX9_mayBe_15 : decode cX9_mayBe 15 = .ok (.aload_n 0, 1) := by decide +kernel
theorem dX9_mayBe_16 : decode cX9_mayBe 16 = .ok (.getfield 7, 3) := by decide +kernel
theorem dX9_mayBe_19 : decode cX9_mayBe 19 = .ok (.iload_n 3, 1) := by decide +kernel
theorem dX9_mayBe_20 : decode cX9_mayBe 20 = .ok (.iaload, 1) := by decide +kernel
theorem dX9_mayBe_21 : decode cX9_mayBe 21 = .ok (.bipush 8, 2) := by decide +kernel
theorem dX9_mayBe_23 : decode cX9_mayBe 23 = .ok (.if_icmp .eq 21, 3) := by decide +kernel
theorem dX9_mayBe_26 : decode cX9_mayBe 26 = .ok (.aload_n 0, 1) := by decide +kernel
theorem dX9_mayBe_27 : decode cX9_mayBe 27 = .ok (.getfield 7, 3) := by decide +kernel
theorem dX9_mayBe_30 : decode cX9_mayBe 30 = .ok (.iload_n 3, 1) := by decide +kernel
theorem dX9_mayBe_31 : decode cX9_mayBe 31 = .ok (.iaload, 1) := by decide +kernel
theorem dX9_mayBe_32 : decode cX9_mayBe 32 = .ok (.aload_n 0, 1) := by decide +kernel
theorem dX9_mayBe_33 : decode cX9_mayBe 33 = .ok (.getfield 7, 3) := by decide +kernel
theorem dX9_mayBe_36 : decode cX9_mayBe 36 = .ok (.iload 4, 2) := by decide +kernel
theorem dX9_mayBe_38 : decode cX9_mayBe 38 = .ok (.iconst 0, 1) := by decide +kernel
theorem dX9_mayBe_39 : decode cX9_mayBe 39 = .ok (.iadd, 1) := by decide +kernel
theorem dX9_mayBe_40 : decode cX9_mayBe 40 = .ok (.iaload, 1) := by decide +kernel
theorem dX9_mayBe_41 : decode cX9_mayBe 41 = .ok (.if_icmp .ne 7, 3) := by decide +kernel
theorem dX9_mayBe_44 : decode cX9_mayBe 44 = .ok (.iconst 1, 1) := by decide +kernel
theorem dX9_mayBe_45 : decode cX9_mayBe 45 = .ok (.goto 4, 3) := by decide +kernel
theorem dX9_mayBe_48 : decode cX9_mayBe 48 = .ok (.iconst 0, 1) := by decide +kernel
theorem dX9_mayBe_49 : decode cX9_mayBe 49 = .ok (.istore 5, 2) := by decide +kernel
theorem dX9_mayBe_51 : decode cX9_mayBe 51 = .ok (.aload_n 0, 1) := by decide +kernel
theorem dX9_mayBe_52 : decode cX9_mayBe 52 = .ok (.getfield 7, 3) := by decide +kernel
theorem dX9_mayBe_55 : decode cX9_mayBe 55 = .ok (.iload_n 3, 1) := by decide +kernel
theorem dX9_mayBe_56 : decode cX9_mayBe 56 = .ok (.iconst 1, 1) := by decide +kernel
theorem dX9_mayBe_57 : decode cX9_mayBe 57 = .ok (.iadd, 1) := by decide +kernel
theorem dX9_mayBe_58 : decode cX9_mayBe 58 = .ok (.iaload, 1) := by decide +kernel
theorem dX9_mayBe_59 : decode cX9_mayBe 59 = .ok (.bipush 6, 2) := by decide +kernel
theorem dX9_mayBe_61 : decode cX9_mayBe 61 = .ok (.if_icmp .eq 23, 3) := by decide +kernel
theorem dX9_mayBe_64 : decode cX9_mayBe 64 = .ok (.aload_n 0, 1) := by decide +kernel
theorem dX9_mayBe_65 : decode cX9_mayBe 65 = .ok (.getfield 7, 3) := by decide +kernel
theorem dX9_mayBe_68 : decode cX9_mayBe 68 = .ok (.iload_n 3, 1) := by decide +kernel
theorem dX9_mayBe_69 : decode cX9_mayBe 69 = .ok (.iconst 1, 1) := by decide +kernel
theorem dX9_mayBe_70 : decode cX9_mayBe 70 = .ok (.iadd, 1) := by decide +kernel
theorem dX9_mayBe_71 : decode cX9_mayBe 71 = .ok (.iaload, 1) := by decide +kernel
theorem dX9_mayBe_72 : decode cX9_mayBe 72 = .ok (.aload_n 0, 1) := by decide +kernel
theorem dX9_mayBe_73 : decode cX9_mayBe 73 = .ok (.getfield 7, 3) := by decide +kernel
theorem dX9_mayBe_76 : decode cX9_mayBe 76 = .ok (.iload 4, 2) := by decide +kernel
theorem dX9_mayBe_78 : decode cX9_mayBe 78 = .ok (.iconst 1, 1) := by decide +kernel
theorem dX9_mayBe_79 : decode cX9_mayBe 79 = .ok (.iadd, 1) := by decide +kernel
theorem dX9_mayBe_80 : decode cX9_mayBe 80 = .ok (.iaload, 1) := by decide +kernel
theorem dX9_mayBe_81 : decode cX9_mayBe 81 = .ok (.if_icmp .ne 7, 3) := by decide +kernel
theorem dX9_mayBe_84 : decode cX9_mayBe 84 = .ok (.iconst 1, 1) := by decide +kernel
theorem dX9_mayBe_85 : decode cX9_mayBe 85 = .ok (.goto 4, 3) := by decide +kernel
theorem dX9_mayBe_88 : decode cX9_mayBe 88 = .ok (.iconst 0, 1) := by decide +kernel
theorem dX9_mayBe_89 : decode cX9_mayBe 89 = .ok (.istore 6, 2) := by decide +kernel
theorem dX9_mayBe_91 : decode cX9_mayBe 91 = .ok (.aload_n 0, 1) := by decide +kernel
theorem dX9_mayBe_92 : decode cX9_mayBe 92 = .ok (.getfield 7, 3) := by decide +kernel
theorem dX9_mayBe_95 : decode cX9_mayBe 95 = .ok (.iload_n 3, 1) := by decide +kernel
theorem dX9_mayBe_96 : decode cX9_mayBe 96 = .ok (.iconst 2, 1) := by decide +kernel
theorem dX9_mayBe_97 : decode cX9_mayBe 97 = .ok (.iadd, 1) := by decide +kernel
theorem dX9_mayBe_98 : decode cX9_mayBe 98 = .ok (.iaload, 1) := by decide +kernel
theorem dX9_mayBe_99 : decode cX9_mayBe 99 = .ok (.ifCond .eq 34, 3) := by decide +kernel
theorem dX9_mayBe_102 : decode cX9_mayBe 102 = .ok (.aload_n 0, 1) := by decide +kernel
theorem dX9_mayBe_103 : decode cX9_mayBe 103 = .ok (.getfield 7, 3) := by decide +kernel
theorem dX9_mayBe_106 : decode cX9_mayBe 106 = .ok (.iload 4, 2) := by decide +kernel
theorem dX9_mayBe_108 : decode cX9_mayBe 108 = .ok (.iconst 2, 1) := by decide +kernel
theorem dX9_mayBe_109 : decode cX9_mayBe 109 = .ok (.iadd, 1) := by decide +kernel
theorem dX9_mayBe_110 : decode cX9_mayBe 110 = .ok (.iaload, 1) := by decide +kernel
theorem dX9_mayBe_111 : decode cX9_mayBe 111 = .ok (.aload_n 0, 1) := by decide +kernel
theorem dX9_mayBe_112 : decode cX9_mayBe 112 = .ok (.getfield 7, 3) := by decide +kernel
theorem dX9_mayBe_115 : decode cX9_mayBe 115 = .ok (.iload_n 3, 1) := by decide +kernel
theorem dX9_mayBe_116 : decode cX9_mayBe 116 = .ok (.iconst 2, 1) := by decide +kernel
theorem dX9_mayBe_117 : decode cX9_mayBe 117 = .ok (.iadd, 1) := by decide +kernel
theorem dX9_mayBe_118 : decode cX9_mayBe 118 = .ok (.iaload, 1) := by decide +kernel
theorem dX9_mayBe_119 : decode cX9_mayBe 119 = .ok (.isub, 1) := by decide +kernel
theorem dX9_mayBe_120 : decode cX9_mayBe 120 = .ok (.i2l, 1) := by decide +kernel
theorem dX9_mayBe_121 : decode cX9_mayBe 121 = .ok (.ldc2_w 318, 3) := by decide +kernel
theorem dX9_mayBe_124 : decode cX9_mayBe 124 = .ok (.ldc2_w 241, 3) := by decide +kernel
theorem dX9_mayBe_127 : decode cX9_mayBe 127 = .ok (.invokestatic 60, 3) := by decide +kernel
theorem dX9_mayBe_130 : decode cX9_mayBe 130 = .ok (.ifCond .eq 7, 3) := by decide +kernel
theorem dX9_mayBe_133 : decode cX9_mayBe 133 = .ok (.iconst 1, 1) := by decide +kernel
theorem dX9_mayBe_134 : decode cX9_mayBe 134 = .ok (.goto 4, 3) := by decide +kernel
theorem dX9_mayBe_137 : decode cX9_mayBe 137 = .ok (.iconst 0, 1) := by decide +kernel
theorem dX9_mayBe_138 : decode cX9_mayBe 138 = .ok (.istore 7, 2) := by decide +kernel
theorem dX9_mayBe_140 : decode cX9_mayBe 140 = .ok (.iload 5, 2) := by decide +kernel
theorem dX9_mayBe_142 : decode cX9_mayBe 142 = .ok (.ifCond .eq 40, 3) := by decide +kernel
theorem dX9_mayBe_145 : decode cX9_mayBe 145 = .ok (.iload 6, 2) := by decide +kernel
theorem dX9_mayBe_147 : decode cX9_mayBe 147 = .ok (.ifCond .eq 35, 3) := by decide +kernel
theorem dX9_mayBe_150 : decode cX9_mayBe 150 = .ok (.iload 7, 2) := by decide +kernel
theorem dX9_mayBe_152 : decode cX9_mayBe 152 = .ok (.ifCond .eq 30, 3) := by decide +kernel
theorem dX9_mayBe_155 : decode cX9_mayBe 155 = .ok (.aload_n 0, 1) := by decide +kernel
theorem dX9_mayBe_156 : decode cX9_mayBe 156 = .ok (.getfield 7, 3) := by decide +kernel
theorem dX9_mayBe_159 : decode cX9_mayBe 159 = .ok (.iload_n 3, 1) := by decide +kernel
theorem dX9_mayBe_160 : decode cX9_mayBe 160 = .ok (.iconst 3, 1) := by decide +kernel
theorem dX9_mayBe_161 : decode cX9_mayBe 161 = .ok (.iadd, 1) := by decide +kernel
theorem dX9_mayBe_162 : decode cX9_mayBe 162 = .ok (.iaload, 1) := by decide +kernel
theorem dX9_mayBe_163 : decode cX9_mayBe 163 = .ok (.aload_n 0, 1) := by decide +kernel
theorem dX9_mayBe_164 : decode cX9_mayBe 164 = .ok (.getfield 7, 3) := by decide +kernel
theorem dX9_mayBe_167 : decode cX9_mayBe 167 = .ok (.iload 4, 2) := by decide +kernel
theorem dX9_mayBe_169 : decode cX9_mayBe 169 = .ok (.iconst 3, 1) := by decide +kernel
theorem dX9_mayBe_170 : decode cX9_mayBe 170 = .ok (.iadd, 1) := by decide +kernel
theorem dX9_mayBe_171 : decode cX9_mayBe 171 = .ok (.iaload, 1) := by decide +kernel
theorem dX9_mayBe_172 : decode cX9_mayBe 172 = .ok (.iconst (-1), 1) := by decide +kernel
theorem dX9_mayBe_173 : decode cX9_mayBe 173 = .ok (.ixor, 1) := by decide +kernel
theorem dX9_mayBe_174 : decode cX9_mayBe 174 = .ok (.iand, 1) := by decide +kernel
theorem dX9_mayBe_175 : decode cX9_mayBe 175 = .ok (.ifCond .ne 7, 3) := by decide +kernel
theorem dX9_mayBe_178 : decode cX9_mayBe 178 = .ok (.iconst 1, 1) := by decide +kernel
theorem dX9_mayBe_179 : decode cX9_mayBe 179 = .ok (.goto 4, 3) := by decide +kernel
theorem dX9_mayBe_182 : decode cX9_mayBe 182 = .ok (.iconst 0, 1) := by decide +kernel
theorem dX9_mayBe_183 : decode cX9_mayBe 183 = .ok (.ireturn, 1) := by decide +kernel
theorem dX9_whoMay_0 : decode cX9_whoMay 0 = .ok (.iconst 0, 1) := by decide +kernel
theorem dX9_whoMay_1 : decode cX9_whoMay 1 = .ok (.istore_n 2, 1) := by decide +kernel
theorem dX9_whoMay_2 : decode cX9_whoMay 2 = .ok (.iconst 0, 1) := by decide +kernel
theorem dX9_whoMay_3 : decode cX9_whoMay 3 = .ok (.istore_n 3, 1) := by decide +kernel
theorem dX9_whoMay_4 : decode cX9_whoMay 4 = .ok (.iload_n 3, 1) := by decide +kernel
theorem dX9_whoMay_5 : decode cX9_whoMay 5 = .ok (.aload_n 0, 1) := by decide +kernel
theorem dX9_whoMay_6 : decode cX9_whoMay 6 = .ok (.getfield 7, 3) := by decide +kernel
theorem dX9_whoMay_9 : decode cX9_whoMay 9 = .ok (.iconst 2, 1) := by decide +kernel
theorem dX9_whoMay_10 : decode cX9_whoMay 10 = .ok (.iaload, 1) := by decide +kernel
theorem dX9_whoMay_11 : decode cX9_whoMay 11 = .ok (.if_icmp .ge 28, 3) := by decide +kernel
theorem dX9_whoMay_14 : decode cX9_whoMay 14 = .ok (.iload_n 2, 1) := by decide +kernel
theorem dX9_whoMay_15 : decode cX9_whoMay 15 = .ok (.aload_n 0, 1) := by decide +kernel
theorem dX9_whoMay_16 : decode cX9_whoMay 16 = .ok (.iload_n 1, 1) := by decide +kernel
theorem dX9_whoMay_17 : decode cX9_whoMay 17 = .ok (.iload_n 3, 1) := by decide +kernel
theorem dX9_whoMay_18 : decode cX9_whoMay 18 = .ok (.invokevirtual 320, 3) := by decide +kernel
theorem dX9_whoMay_21 : decode cX9_whoMay 21 = .ok (.ifCond .eq 9, 3) := by decide +kernel
theorem dX9_whoMay_24 : decode cX9_whoMay 24 = .ok (.iconst 1, 1) := by decide +kernel
theorem dX9_whoMay_25 : decode cX9_whoMay 25 = .ok (.iload_n 3, 1) := by decide +kernel
theorem dX9_whoMay_26 : decode cX9_whoMay 26 = .ok (.ishl, 1) := by decide +kernel
theorem dX9_whoMay_27 : decode cX9_whoMay 27 = .ok (.goto 4, 3) := by decide +kernel
theorem dX9_whoMay_30 : decode cX9_whoMay 30 = .ok (.iconst 0, 1) := by decide +kernel
theorem dX9_whoMay_31 : decode cX9_whoMay 31 = .ok (.ior, 1) := by decide +kernel
theorem dX9_whoMay_32 : decode cX9_whoMay 32 = .ok (.istore_n 2, 1) := by decide +kernel
theorem dX9_whoMay_33 : decode cX9_whoMay 33 = .ok (.iinc 3 1, 3) := by decide +kernel
theorem dX9_whoMay_36 : decode cX9_whoMay 36 = .ok (.goto (-32), 3) := by decide +kernel
theorem dX9_whoMay_39 : decode cX9_whoMay 39 = .ok (.iload_n 2, 1) := by decide +kernel
theorem dX9_whoMay_40 : decode cX9_whoMay 40 = .ok (.ireturn, 1) := by decide +kernel
theorem dX9_sure_0 : decode cX9_sure 0 = .ok (.iconst (-1), 1) := by decide +kernel
theorem dX9_sure_1 : decode cX9_sure 1 = .ok (.istore_n 2, 1) := by decide +kernel
theorem dX9_sure_2 : decode cX9_sure 2 = .ok (.iconst 0, 1) := by decide +kernel
theorem dX9_sure_3 : decode cX9_sure 3 = .ok (.istore_n 3, 1) := by decide +kernel
theorem dX9_sure_4 : decode cX9_sure 4 = .ok (.iload_n 3, 1) := by decide +kernel
theorem dX9_sure_5 : decode cX9_sure 5 = .ok (.aload_n 0, 1) := by decide +kernel
theorem dX9_sure_6 : decode cX9_sure 6 = .ok (.getfield 7, 3) := by decide +kernel
theorem dX9_sure_9 : decode cX9_sure 9 = .ok (.iconst 2, 1) := by decide +kernel
theorem dX9_sure_10 : decode cX9_sure 10 = .ok (.iaload, 1) := by decide +kernel
theorem dX9_sure_11 : decode cX9_sure 11 = .ok (.if_icmp .ge 22, 3) := by decide +kernel
theorem dX9_sure_14 : decode cX9_sure 14 = .ok (.iload_n 1, 1) := by decide +kernel
theorem dX9_sure_15 : decode cX9_sure 15 = .ok (.iconst 1, 1) := by decide +kernel
theorem dX9_sure_16 : decode cX9_sure 16 = .ok (.iload_n 3, 1) := by decide +kernel
theorem dX9_sure_17 : decode cX9_sure 17 = .ok (.ishl, 1) := by decide +kernel
theorem dX9_sure_18 : decode cX9_sure 18 = .ok (.if_icmp .ne 7, 3) := by decide +kernel
theorem dX9_sure_21 : decode cX9_sure 21 = .ok (.iload_n 3, 1) := by decide +kernel
theorem dX9_sure_22 : decode cX9_sure 22 = .ok (.goto 4, 3) := by decide +kernel
theorem dX9_sure_25 : decode cX9_sure 25 = .ok (.iload_n 2, 1) := by decide +kernel
theorem dX9_sure_26 : decode cX9_sure 26 = .ok (.istore_n 2, 1) := by decide +kernel
theorem dX9_sure_27 : decode cX9_sure 27 = .ok (.iinc 3 1, 3) := by decide +kernel
theorem dX9_sure_30 : decode cX9_sure 30 = .ok (.goto (-26), 3) := by decide +kernel
theorem dX9_sure_33 : decode cX9_sure 33 = .ok (.iload_n 2, 1) := by decide +kernel
theorem dX9_sure_34 : decode cX9_sure 34 = .ok (.ireturn, 1) := by decide +kernel
theorem dX9_partsMost_0 : decode cX9_partsMost 0 = .ok (.iconst (-1), 1) := by decide +kernel
theorem dX9_partsMost_1 : decode cX9_partsMost 1 = .ok (.istore_n 2, 1) := by decide +kernel
theorem dX9_partsMost_2 : decode cX9_partsMost 2 = .ok (.bipush 99, 2) := by decide +kernel
theorem dX9_partsMost_4 : decode cX9_partsMost 4 = .ok (.istore_n 3, 1) := by decide +kernel
theorem dX9_partsMost_5 : decode cX9_partsMost 5 = .ok (.iconst 0, 1) := by decide +kernel
theorem dX9_partsMost_6 : decode cX9_partsMost 6 = .ok (.istore 4, 2) := by decide +kernel
theorem dX9_partsMost_8 : decode cX9_partsMost 8 = .ok (.iload 4, 2) := by decide +kernel
theorem dX9_partsMost_10 : decode cX9_partsMost 10 = .ok (.bipush 8, 2) := by decide +kernel
theorem dX9_partsMost_12 : decode cX9_partsMost 12 = .ok (.if_icmp .ge 128, 3) := by decide +kernel
theorem dX9_partsMost_15 : decode cX9_partsMost 15 = .ok (.iload_n 1, 1) := by decide +kernel
theorem dX9_partsMost_16 : decode cX9_partsMost 16 = .ok (.invokestatic 323, 3) := by decide +kernel
theorem dX9_partsMost_19 : decode cX9_partsMost 19 = .ok (.iconst 1, 1) := by decide +kernel
theorem dX9_partsMost_20 : decode cX9_partsMost 20 = .ok (.if_icmp .le 120, 3) := by decide +kernel
theorem dX9_partsMost_23 : decode cX9_partsMost 23 = .ok (.iconst 0, 1) := by decide +kernel
theorem dX9_partsMost_24 : decode cX9_partsMost 24 = .ok (.istore 5, 2) := by decide +kernel
theorem dX9_partsMost_26 : decode cX9_partsMost 26 = .ok (.iconst 0, 1) := by decide +kernel
theorem dX9_partsMost_27 : decode cX9_partsMost 27 = .ok (.istore 6, 2) := by decide +kernel
theorem dX9_partsMost_29 : decode cX9_partsMost 29 = .ok (.iload 6, 2) := by decide +kernel
theorem dX9_partsMost_31 : decode cX9_partsMost 31 = .ok (.aload_n 0, 1) := by decide +kernel
theorem dX9_partsMost_32 : decode cX9_partsMost 32 = .ok (.getfield 7, 3) := by decide +kernel
theorem dX9_partsMost_35 : decode cX9_partsMost 35 = .ok (.iconst 2, 1) := by decide +kernel
theorem dX9_partsMost_36 : decode cX9_partsMost 36 = .ok (.iaload, 1) := by decide +kernel
theorem dX9_partsMost_37 : decode cX9_partsMost 37 = .ok (.if_icmp .ge 51, 3) := by decide +kernel
theorem dX9_partsMost_40 : decode cX9_partsMost 40 = .ok (.iload 5, 2) := by decide +kernel
theorem dX9_partsMost_42 : decode cX9_partsMost 42 = .ok (.iload_n 1, 1) := by decide +kernel
theorem dX9_partsMost_43 : decode cX9_partsMost 43 = .ok (.iload 6, 2) := by decide +kernel
theorem dX9_partsMost_45 : decode cX9_partsMost 45 = .ok (.ishr, 1) := by decide +kernel
theorem dX9_partsMost_46 : decode cX9_partsMost 46 = .ok (.iconst 1, 1) := by decide +kernel
theorem dX9_partsMost_47 : decode cX9_partsMost 47 = .ok (.iand, 1) := by decide +kernel
theorem dX9_partsMost_48 : decode cX9_partsMost 48 = .ok (.iconst 1, 1) := by decide +kernel
theorem dX9_partsMost_49 : decode cX9_partsMost 49 = .ok (.if_icmp .ne 29, 3) := by decide +kernel
theorem dX9_partsMost_52 : decode cX9_partsMost 52 = .ok (.aload_n 0, 1) := by decide +kernel
theorem dX9_partsMost_53 : decode cX9_partsMost 53 = .ok (.getfield 7, 3) := by decide +kernel
theorem dX9_partsMost_56 : decode cX9_partsMost 56 = .ok (.aload_n 0, 1) := by decide +kernel
theorem dX9_partsMost_57 : decode cX9_partsMost 57 = .ok (.iload 6, 2) := by decide +kernel
theorem dX9_partsMost_59 : decode cX9_partsMost 59 = .ok (.invokevirtual 66, 3) := by decide +kernel
theorem dX9_partsMost_62 : decode cX9_partsMost 62 = .ok (.iconst 3, 1) := by decide +kernel
theorem dX9_partsMost_63 : decode cX9_partsMost 63 = .ok (.iadd, 1) := by decide +kernel
theorem dX9_partsMost_64 : decode cX9_partsMost 64 = .ok (.iaload, 1) := by decide +kernel
theorem dX9_partsMost_65 : decode cX9_partsMost 65 = .ok (.iload 4, 2) := by decide +kernel
theorem dX9_partsMost_67 : decode cX9_partsMost 67 = .ok (.ishr, 1) := by decide +kernel
theorem dX9_partsMost_68 : decode cX9_partsMost 68 = .ok (.iconst 1, 1) := by decide +kernel
theorem dX9_partsMost_69 : decode cX9_partsMost 69 = .ok (.iand, 1) := by decide +kernel
theorem dX9_partsMost_70 : decode cX9_partsMost 70 = .ok (.iconst 1, 1) := by decide +kernel
theorem dX9_partsMost_71 : decode cX9_partsMost 71 = .ok (.if_icmp .ne 7, 3) := by decide +kernel
theorem dX9_partsMost_74 : decode cX9_partsMost 74 = .ok (.iconst 1, 1) := by decide +kernel
theorem dX9_partsMost_75 : decode cX9_partsMost 75 = .ok (.goto 4, 3) := by decide +kernel
theorem dX9_partsMost_78 : decode cX9_partsMost 78 = .ok (.iconst 0, 1) := by decide +kernel
theorem dX9_partsMost_79 : decode cX9_partsMost 79 = .ok (.iadd, 1) := by decide +kernel
theorem dX9_partsMost_80 : decode cX9_partsMost 80 = .ok (.istore 5, 2) := by decide +kernel
theorem dX9_partsMost_82 : decode cX9_partsMost 82 = .ok (.iinc 6 1, 3) := by decide +kernel
theorem dX9_partsMost_85 : decode cX9_partsMost 85 = .ok (.goto (-56), 3) := by decide +kernel
theorem dX9_partsMost_88 : decode cX9_partsMost 88 = .ok (.iload 5, 2) := by decide +kernel
theorem dX9_partsMost_90 : decode cX9_partsMost 90 = .ok (.iload_n 1, 1) := by decide +kernel
theorem dX9_partsMost_91 : decode cX9_partsMost 91 = .ok (.invokestatic 323, 3) := by decide +kernel
theorem dX9_partsMost_94 : decode cX9_partsMost 94 = .ok (.iload 5, 2) := by decide +kernel
theorem dX9_partsMost_96 : decode cX9_partsMost 96 = .ok (.isub, 1) := by decide +kernel
theorem dX9_partsMost_97 : decode cX9_partsMost 97 = .ok (.if_icmp .le 8, 3) := by decide +kernel
theorem dX9_partsMost_100 : decode cX9_partsMost 100 = .ok (.iload 5, 2) := by decide +kernel
theorem dX9_partsMost_102 : decode cX9_partsMost 102 = .ok (.goto 10, 3) := by decide +kernel
theorem dX9_partsMost_105 : decode cX9_partsMost 105 = .ok (.iload_n 1, 1) := by decide +kernel
theorem dX9_partsMost_106 : decode cX9_partsMost 106 = .ok (.invokestatic 323, 3) := by decide +kernel
theorem dX9_partsMost_109 : decode cX9_partsMost 109 = .ok (.iload 5, 2) := by decide +kernel
theorem dX9_partsMost_111 : decode cX9_partsMost 111 = .ok (.isub, 1) := by decide +kernel
theorem dX9_partsMost_112 : decode cX9_partsMost 112 = .ok (.istore 6, 2) := by decide +kernel
theorem dX9_partsMost_114 : decode cX9_partsMost 114 = .ok (.iload 6, 2) := by decide +kernel
theorem dX9_partsMost_116 : decode cX9_partsMost 116 = .ok (.iload_n 3, 1) := by decide +kernel
theorem dX9_partsMost_117 : decode cX9_partsMost 117 = .ok (.if_icmp .ge 8, 3) := by decide +kernel
theorem dX9_partsMost_120 : decode cX9_partsMost 120 = .ok (.iload 4, 2) := by decide +kernel
theorem dX9_partsMost_122 : decode cX9_partsMost 122 = .ok (.goto 4, 3) := by decide +kernel
theorem dX9_partsMost_125 : decode cX9_partsMost 125 = .ok (.iload_n 2, 1) := by decide +kernel
theorem dX9_partsMost_126 : decode cX9_partsMost 126 = .ok (.istore_n 2, 1) := by decide +kernel
theorem dX9_partsMost_127 : decode cX9_partsMost 127 = .ok (.iload_n 3, 1) := by decide +kernel
theorem dX9_partsMost_128 : decode cX9_partsMost 128 = .ok (.iload 6, 2) := by decide +kernel
theorem dX9_partsMost_130 : decode cX9_partsMost 130 = .ok (.invokestatic 286, 3) := by decide +kernel
theorem dX9_partsMost_133 : decode cX9_partsMost 133 = .ok (.istore_n 3, 1) := by decide +kernel
theorem dX9_partsMost_134 : decode cX9_partsMost 134 = .ok (.iinc 4 1, 3) := by decide +kernel
theorem dX9_partsMost_137 : decode cX9_partsMost 137 = .ok (.goto (-129), 3) := by decide +kernel
theorem dX9_partsMost_140 : decode cX9_partsMost 140 = .ok (.iload_n 2, 1) := by decide +kernel
theorem dX9_partsMost_141 : decode cX9_partsMost 141 = .ok (.ireturn, 1) := by decide +kernel
theorem dX9_isLook_0 : decode cX9_isLook 0 = .ok (.iload_n 1, 1) := by decide +kernel
theorem dX9_isLook_1 : decode cX9_isLook 1 = .ok (.i2l, 1) := by decide +kernel
theorem dX9_isLook_2 : decode cX9_isLook 2 = .ok (.lconst 0, 1) := by decide +kernel
theorem dX9_isLook_3 : decode cX9_isLook 3 = .ok (.aload_n 0, 1) := by decide +kernel
theorem dX9_isLook_4 : decode cX9_isLook 4 = .ok (.getfield 7, 3) := by decide +kernel
theorem dX9_isLook_7 : decode cX9_isLook 7 = .ok (.bipush 6, 2) := by decide +kernel
theorem dX9_isLook_9 : decode cX9_isLook 9 = .ok (.iaload, 1) := by decide +kernel
theorem dX9_isLook_10 : decode cX9_isLook 10 = .ok (.iconst 1, 1) := by decide +kernel
theorem dX9_isLook_11 : decode cX9_isLook 11 = .ok (.isub, 1) := by decide +kernel
theorem dX9_isLook_12 : decode cX9_isLook 12 = .ok (.i2l, 1) := by decide +kernel
theorem dX9_isLook_13 : decode cX9_isLook 13 = .ok (.invokestatic 60, 3) := by decide +kernel
theorem dX9_isLook_16 : decode cX9_isLook 16 = .ok (.ireturn, 1) := by decide +kernel
theorem dX9_may_0 : decode cX9_may 0 = .ok (.aload_n 0, 1) := by decide +kernel
theorem dX9_may_1 : decode cX9_may 1 = .ok (.iload_n 1, 1) := by decide +kernel
theorem dX9_may_2 : decode cX9_may 2 = .ok (.invokevirtual 326, 3) := by decide +kernel
theorem dX9_may_5 : decode cX9_may 5 = .ok (.ifCond .eq 15, 3) := by decide +kernel
theorem dX9_may_8 : decode cX9_may 8 = .ok (.iload_n 2, 1) := by decide +kernel
theorem dX9_may_9 : decode cX9_may 9 = .ok (.i2l, 1) := by decide +kernel
theorem dX9_may_10 : decode cX9_may 10 = .ok (.lconst 0, 1) := by decide +kernel
theorem dX9_may_11 : decode cX9_may 11 = .ok (.ldc2_w 241, 3) := by decide +kernel
theorem dX9_may_14 : decode cX9_may 14 = .ok (.invokestatic 60, 3) := by decide +kernel
theorem dX9_may_17 : decode cX9_may 17 = .ok (.ifCond .ne 6, 3) := by decide +kernel
theorem dX9_may_20 : decode cX9_may 20 = .ok (.ldc 87, 2) := by decide +kernel
theorem dX9_may_22 : decode cX9_may 22 = .ok (.ireturn, 1) := by decide +kernel
theorem dX9_may_23 : decode cX9_may 23 = .ok (.aload_n 0, 1) := by decide +kernel
theorem dX9_may_24 : decode cX9_may 24 = .ok (.iload_n 1, 1) := by decide +kernel
theorem dX9_may_25 : decode cX9_may 25 = .ok (.invokevirtual 329, 3) := by decide +kernel
theorem dX9_may_28 : decode cX9_may 28 = .ok (.istore_n 3, 1) := by decide +kernel
theorem dX9_may_29 : decode cX9_may 29 = .ok (.iload_n 2, 1) := by decide +kernel
theorem dX9_may_30 : decode cX9_may 30 = .ok (.ifCond .ne 7, 3) := by decide +kernel
theorem dX9_may_33 : decode cX9_may 33 = .ok (.iload_n 3, 1) := by decide +kernel
theorem dX9_may_34 : decode cX9_may 34 = .ok (.goto 24, 3) := by decide +kernel
theorem dX9_may_37 : decode cX9_may 37 = .ok (.iload_n 2, 1) := by decide +kernel
theorem dX9_may_38 : decode cX9_may 38 = .ok (.iconst 1, 1) := by decide +kernel
theorem dX9_may_39 : decode cX9_may 39 = .ok (.if_icmp .ne 11, 3) := by decide +kernel
theorem dX9_may_42 : decode cX9_may 42 = .ok (.aload_n 0, 1) := by decide +kernel
theorem dX9_may_43 : decode cX9_may 43 = .ok (.iload_n 3, 1) := by decide +kernel
theorem dX9_may_44 : decode cX9_may 44 = .ok (.invokevirtual 332, 3) := by decide +kernel
theorem dX9_may_47 : decode cX9_may 47 = .ok (.goto 8, 3) := by decide +kernel
theorem dX9_may_50 : decode cX9_may 50 = .ok (.aload_n 0, 1) := by decide +kernel
theorem dX9_may_51 : decode cX9_may 51 = .ok (.iload_n 3, 1) := by decide +kernel
theorem dX9_may_52 : decode cX9_may 52 = .ok (.invokevirtual 335, 3) := by decide +kernel
theorem dX9_may_55 : decode cX9_may 55 = .ok (.invokestatic 119, 3) := by decide +kernel
theorem dX9_may_58 : decode cX9_may 58 = .ok (.ireturn, 1) := by decide +kernel
theorem dX9_same_0 : decode cX9_same 0 = .ok (.aload_n 0, 1) := by decide +kernel
theorem dX9_same_1 : decode cX9_same 1 = .ok (.iload_n 1, 1) := by decide +kernel
theorem dX9_same_2 : decode cX9_same 2 = .ok (.invokevirtual 326, 3) := by decide +kernel
theorem dX9_same_5 : decode cX9_same 5 = .ok (.ifCond .eq 16, 3) := by decide +kernel
theorem dX9_same_8 : decode cX9_same 8 = .ok (.aload_n 0, 1) := by decide +kernel
theorem dX9_same_9 : decode cX9_same 9 = .ok (.iload_n 2, 1) := by decide +kernel
theorem dX9_same_10 : decode cX9_same 10 = .ok (.invokevirtual 326, 3) := by decide +kernel
theorem dX9_same_13 : decode cX9_same 13 = .ok (.ifCond .eq 8, 3) := by decide +kernel
theorem dX9_same_16 : decode cX9_same 16 = .ok (.iload_n 1, 1) := by decide +kernel
theorem dX9_same_17 : decode cX9_same 17 = .ok (.iload_n 2, 1) := by decide +kernel
theorem dX9_same_18 : decode cX9_same 18 = .ok (.if_icmp .ne 6, 3) := by decide +kernel
theorem dX9_same_21 : decode cX9_same 21 = .ok (.ldc 87, 2) := by decide +kernel
theorem dX9_same_23 : decode cX9_same 23 = .ok (.ireturn, 1) := by decide +kernel
theorem dX9_same_24 : decode cX9_same 24 = .ok (.aload_n 0, 1) := by decide +kernel
theorem dX9_same_25 : decode cX9_same 25 = .ok (.iload_n 1, 1) := by decide +kernel
theorem dX9_same_26 : decode cX9_same 26 = .ok (.invokevirtual 329, 3) := by decide +kernel
theorem dX9_same_29 : decode cX9_same 29 = .ok (.istore_n 3, 1) := by decide +kernel
theorem dX9_same_30 : decode cX9_same 30 = .ok (.aload_n 0, 1) := by decide +kernel
theorem dX9_same_31 : decode cX9_same 31 = .ok (.iload_n 2, 1) := by decide +kernel
theorem dX9_same_32 : decode cX9_same 32 = .ok (.invokevirtual 329, 3) := by decide +kernel
theorem dX9_same_35 : decode cX9_same 35 = .ok (.istore 4, 2) := by decide +kernel
theorem dX9_same_37 : decode cX9_same 37 = .ok (.aload_n 0, 1) := by decide +kernel
theorem dX9_same_38 : decode cX9_same 38 = .ok (.iload_n 3, 1) := by decide +kernel
theorem dX9_same_39 : decode cX9_same 39 = .ok (.invokevirtual 332, 3) := by decide +kernel
theorem dX9_same_42 : decode cX9_same 42 = .ok (.ifCond .lt 13, 3) := by decide +kernel
theorem dX9_same_45 : decode cX9_same 45 = .ok (.iload_n 3, 1) := by decide +kernel
theorem dX9_same_46 : decode cX9_same 46 = .ok (.iload 4, 2) := by decide +kernel
theorem dX9_same_48 : decode cX9_same 48 = .ok (.if_icmp .ne 7, 3) := by decide +kernel
theorem dX9_same_51 : decode cX9_same 51 = .ok (.iconst 2, 1) := by decide +kernel
theorem dX9_same_52 : decode cX9_same 52 = .ok (.goto 15, 3) := by decide +kernel
theorem dX9_same_55 : decode cX9_same 55 = .ok (.iload_n 3, 1) := by decide +kernel
theorem dX9_same_56 : decode cX9_same 56 = .ok (.iload 4, 2) := by decide +kernel
theorem dX9_same_58 : decode cX9_same 58 = .ok (.iand, 1) := by decide +kernel
theorem dX9_same_59 : decode cX9_same 59 = .ok (.ifCond .eq 7, 3) := by decide +kernel
theorem dX9_same_62 : decode cX9_same 62 = .ok (.iconst 1, 1) := by decide +kernel
theorem dX9_same_63 : decode cX9_same 63 = .ok (.goto 4, 3) := by decide +kernel
theorem dX9_same_66 : decode cX9_same 66 = .ok (.iconst 0, 1) := by decide +kernel
theorem dX9_same_67 : decode cX9_same 67 = .ok (.ireturn, 1) := by decide +kernel
theorem dX9_canGo_0 : decode cX9_canGo 0 = .ok (.aload_n 0, 1) := by decide +kernel
theorem dX9_canGo_1 : decode cX9_canGo 1 = .ok (.iload_n 1, 1) := by decide +kernel
theorem dX9_canGo_2 : decode cX9_canGo 2 = .ok (.invokevirtual 77, 3) := by decide +kernel
theorem dX9_canGo_5 : decode cX9_canGo 5 = .ok (.iconst 1, 1) := by decide +kernel
theorem dX9_canGo_6 : decode cX9_canGo 6 = .ok (.if_icmp .ne 24, 3) := by decide +kernel
theorem dX9_canGo_9 : decode cX9_canGo 9 = .ok (.aload_n 0, 1) := by decide +kernel
theorem dX9_canGo_10 : decode cX9_canGo 10 = .ok (.iload_n 1, 1) := by decide +kernel
theorem dX9_canGo_11 : decode cX9_canGo 11 = .ok (.invokevirtual 262, 3) := by decide +kernel
theorem dX9_canGo_14 : decode cX9_canGo 14 = .ok (.ifCond .ne 16, 3) := by decide +kernel
theorem dX9_canGo_17 : decode cX9_canGo 17 = .ok (.aload_n 0, 1) := by decide +kernel
theorem dX9_canGo_18 : decode cX9_canGo 18 = .ok (.iload_n 2, 1) := by decide +kernel
theorem dX9_canGo_19 : decode cX9_canGo 19 = .ok (.iload_n 1, 1) := by decide +kernel
theorem dX9_canGo_20 : decode cX9_canGo 20 = .ok (.invokevirtual 274, 3) := by decide +kernel
theorem dX9_canGo_23 : decode cX9_canGo 23 = .ok (.ifCond .eq 7, 3) := by decide +kernel
theorem dX9_canGo_26 : decode cX9_canGo 26 = .ok (.iconst 1, 1) := by decide +kernel
theorem dX9_canGo_27 : decode cX9_canGo 27 = .ok (.goto 4, 3) := by decide +kernel
theorem dX9_canGo_30 : decode cX9_canGo 30 = .ok (.iconst 0, 1) := by decide +kernel
theorem dX9_canGo_31 : decode cX9_canGo 31 = .ok (.ireturn, 1) := by decide +kernel
theorem dX9_goingTo_0 : decode cX9_goingTo 0 = .ok (.iconst 0, 1) := by decide +kernel
theorem dX9_goingTo_1 : decode cX9_goingTo 1 = .ok (.istore_n 2, 1) := by decide +kernel
theorem dX9_goingTo_2 : decode cX9_goingTo 2 = .ok (.iconst 0, 1) := by decide +kernel
theorem dX9_goingTo_3 : decode cX9_goingTo 3 = .ok (.istore_n 3, 1) := by decide +kernel
theorem dX9_goingTo_4 : decode cX9_goingTo 4 = .ok (.iload_n 3, 1) := by decide +kernel
theorem dX9_goingTo_5 : decode cX9_goingTo 5 = .ok (.aload_n 0, 1) := by decide +kernel
theorem dX9_goingTo_6 : decode cX9_goingTo 6 = .ok (.getfield 7, 3) := by decide +kernel
theorem dX9_goingTo_9 : decode cX9_goingTo 9 = .ok (.iconst 2, 1) := by decide +kernel
theorem dX9_goingTo_10 : decode cX9_goingTo 10 = .ok (.iaload, 1) := by decide +kernel
theorem dX9_goingTo_11 : decode cX9_goingTo 11 = .ok (.if_icmp .ge 27, 3) := by decide +kernel
theorem dX9_goingTo_14 : decode cX9_goingTo 14 = .ok (.iload_n 2, 1) := by decide +kernel
theorem dX9_goingTo_15 : decode cX9_goingTo 15 = .ok (.aload_n 0, 1) := by decide +kernel
theorem dX9_goingTo_16 : decode cX9_goingTo 16 = .ok (.getfield 40, 3) := by decide +kernel
theorem dX9_goingTo_19 : decode cX9_goingTo 19 = .ok (.iload_n 3, 1) := by decide +kernel
theorem dX9_goingTo_20 : decode cX9_goingTo 20 = .ok (.iaload, 1) := by decide +kernel
theorem dX9_goingTo_21 : decode cX9_goingTo 21 = .ok (.iload_n 1, 1) := by decide +kernel
theorem dX9_goingTo_22 : decode cX9_goingTo 22 = .ok (.if_icmp .ne 7, 3) := by decide +kernel
theorem dX9_goingTo_25 : decode cX9_goingTo 25 = .ok (.iconst 1, 1) := by decide +kernel
theorem dX9_goingTo_26 : decode cX9_goingTo 26 = .ok (.goto 4, 3) := by decide +kernel
theorem dX9_goingTo_29 : decode cX9_goingTo 29 = .ok (.iconst 0, 1) := by decide +kernel
theorem dX9_goingTo_30 : decode cX9_goingTo 30 = .ok (.iadd, 1) := by decide +kernel
theorem dX9_goingTo_31 : decode cX9_goingTo 31 = .ok (.istore_n 2, 1) := by decide +kernel
theorem dX9_goingTo_32 : decode cX9_goingTo 32 = .ok (.iinc 3 1, 3) := by decide +kernel
theorem dX9_goingTo_35 : decode cX9_goingTo 35 = .ok (.goto (-31), 3) := by decide +kernel
theorem dX9_goingTo_38 : decode cX9_goingTo 38 = .ok (.iload_n 2, 1) := by decide +kernel
theorem dX9_goingTo_39 : decode cX9_goingTo 39 = .ok (.ireturn, 1) := by decide +kernel
theorem dX9_comes_0 : decode cX9_comes 0 = .ok (.iconst 0, 1) := by decide +kernel
theorem dX9_comes_1 : decode cX9_comes 1 = .ok (.istore_n 2, 1) := by decide +kernel
theorem dX9_comes_2 : decode cX9_comes 2 = .ok (.iload_n 2, 1) := by decide +kernel
theorem dX9_comes_3 : decode cX9_comes 3 = .ok (.aload_n 0, 1) := by decide +kernel
theorem dX9_comes_4 : decode cX9_comes 4 = .ok (.getfield 7, 3) := by decide +kernel
theorem dX9_comes_7 : decode cX9_comes 7 = .ok (.iconst 3, 1) := by decide +kernel
theorem dX9_comes_8 : decode cX9_comes 8 = .ok (.iaload, 1) := by decide +kernel
theorem dX9_comes_9 : decode cX9_comes 9 = .ok (.if_icmp .ge 140, 3) := by decide +kernel
theorem dX9_comes_12 : decode cX9_comes 12 = .ok (.aload_n 0, 1) := by decide +kernel
theorem dX9_comes_13 : decode cX9_comes 13 = .ok (.getfield 47, 3) := by decide +kernel
theorem dX9_comes_16 : decode cX9_comes 16 = .ok (.iload_n 2, 1) := by decide +kernel
theorem dX9_comes_17 : decode cX9_comes 17 = .ok (.baload, 1) := by decide +kernel
theorem dX9_comes_18 : decode cX9_comes 18 = .ok (.ifCond .ne 125, 3) := by decide +kernel
theorem dX9_comes_21 : decode cX9_comes 21 = .ok (.aload_n 0, 1) := by decide +kernel
theorem dX9_comes_22 : decode cX9_comes 22 = .ok (.iload_n 1, 1) := by decide +kernel
theorem dX9_comes_23 : decode cX9_comes 23 = .ok (.iload_n 2, 1) := by decide +kernel
theorem dX9_comes_24 : decode cX9_comes 24 = .ok (.invokevirtual 338, 3) := by decide +kernel
theorem dX9_comes_27 : decode cX9_comes 27 = .ok (.ifCond .ne 6, 3) := by decide +kernel
theorem dX9_comes_30 : decode cX9_comes 30 = .ok (.goto 113, 3) := by decide +kernel
theorem dX9_comes_33 : decode cX9_comes 33 = .ok (.aload_n 0, 1) := by decide +kernel
theorem dX9_comes_34 : decode cX9_comes 34 = .ok (.getfield 47, 3) := by decide +kernel
theorem dX9_comes_37 : decode cX9_comes 37 = .ok (.iload_n 2, 1) := by decide +kernel
theorem dX9_comes_38 : decode cX9_comes 38 = .ok (.iconst 1, 1) := by decide +kernel
theorem dX9_comes_39 : decode cX9_comes 39 = .ok (.bastore, 1) := by decide +kernel
theorem dX9_comes_40 : decode cX9_comes 40 = .ok (.aload_n 0, 1) := by decide +kernel
theorem dX9_comes_41 : decode cX9_comes 41 = .ok (.iload_n 2, 1) := by decide +kernel
theorem dX9_comes_42 : decode cX9_comes 42 = .ok (.invokevirtual 341, 3) := by decide +kernel
theorem dX9_comes_45 : decode cX9_comes 45 = .ok (.aload_n 0, 1) := by decide +kernel
theorem dX9_comes_46 : decode cX9_comes 46 = .ok (.getfield 7, 3) := by decide +kernel
theorem dX9_comes_49 : decode cX9_comes 49 = .ok (.aload_n 0, 1) := by decide +kernel
theorem dX9_comes_50 : decode cX9_comes 50 = .ok (.iload_n 2, 1) := by decide +kernel
theorem dX9_comes_51 : decode cX9_comes 51 = .ok (.invokevirtual 129, 3) := by decide +kernel
theorem dX9_comes_54 : decode cX9_comes 54 = .ok (.iconst 2, 1) := by decide +kernel
theorem dX9_comes_55 : decode cX9_comes 55 = .ok (.iadd, 1) := by decide +kernel
theorem dX9_comes_56 : decode cX9_comes 56 = .ok (.iaload, 1) := by decide +kernel
theorem dX9_comes_57 : decode cX9_comes 57 = .ok (.aload_n 0, 1) := by decide +kernel
theorem dX9_comes_58 : decode cX9_comes 58 = .ok (.iload_n 2, 1) := by decide +kernel
theorem dX9_comes_59 : decode cX9_comes 59 = .ok (.invokevirtual 135, 3) := by decide +kernel
theorem dX9_comes_62 : decode cX9_comes 62 = .ok (.isub, 1) := by decide +kernel
theorem dX9_comes_63 : decode cX9_comes 63 = .ok (.if_icmp .ge 12, 3) := by decide +kernel
theorem dX9_comes_66 : decode cX9_comes 66 = .ok (.aload_n 0, 1) := by decide +kernel
theorem dX9_comes_67 : decode cX9_comes 67 = .ok (.getfield 40, 3) := by decide +kernel
theorem dX9_comes_70 : decode cX9_comes 70 = .ok (.iload_n 1, 1) := by decide +kernel
theorem dX9_comes_71 : decode cX9_comes 71 = .ok (.iload_n 2, 1) := by decide +kernel
theorem dX9_comes_72 : decode cX9_comes 72 = .ok (.iastore, 1) := by decide +kernel
theorem dX9_comes_73 : decode cX9_comes 73 = .ok (.iconst 1, 1) := by decide +kernel
theorem dX9_comes_74 : decode cX9_comes 74 = .ok (.ireturn, 1) := by decide +kernel
theorem dX9_comes_75 : decode cX9_comes 75 = .ok (.iconst 0, 1) := by decide +kernel
theorem dX9_comes_76 : decode cX9_comes 76 = .ok (.istore_n 3, 1) := by decide +kernel
theorem dX9_comes_77 : decode cX9_comes 77 = .ok (.iload_n 3, 1) := by decide +kernel
theorem dX9_comes_78 : decode cX9_comes 78 = .ok (.aload_n 0, 1) := by decide +kernel
theorem dX9_comes_79 : decode cX9_comes 79 = .ok (.getfield 7, 3) := by decide +kernel
theorem dX9_comes_82 : decode cX9_comes 82 = .ok (.iconst 2, 1) := by decide +kernel
theorem dX9_comes_83 : decode cX9_comes 83 = .ok (.iaload, 1) := by decide +kernel
theorem dX9_comes_84 : decode cX9_comes 84 = .ok (.if_icmp .ge 59, 3) := by decide +kernel
theorem dX9_comes_87 : decode cX9_comes 87 = .ok (.aload_n 0, 1) := by decide +kernel
theorem dX9_comes_88 : decode cX9_comes 88 = .ok (.getfield 40, 3) := by decide +kernel
theorem dX9_comes_91 : decode cX9_comes 91 = .ok (.iload_n 3, 1) := by decide +kernel
theorem dX9_comes_92 : decode cX9_comes 92 = .ok (.iaload, 1) := by decide +kernel
theorem dX9_comes_93 : decode cX9_comes 93 = .ok (.iload_n 2, 1) := by decide +kernel
theorem dX9_comes_94 : decode cX9_comes 94 = .ok (.if_icmp .ne 43, 3) := by decide +kernel
theorem dX9_comes_97 : decode cX9_comes 97 = .ok (.aload_n 0, 1) := by decide +kernel
theorem dX9_comes_98 : decode cX9_comes 98 = .ok (.getfield 43, 3) := by decide +kernel
theorem dX9_comes_101 : decode cX9_comes 101 = .ok (.iload_n 3, 1) := by decide +kernel
theorem dX9_comes_102 : decode cX9_comes 102 = .ok (.baload, 1) := by decide +kernel
theorem dX9_comes_103 : decode cX9_comes 103 = .ok (.ifCond .ne 34, 3) := by decide +kernel
theorem dX9_comes_106 : decode cX9_comes 106 = .ok (.aload_n 0, 1) := by decide +kernel
theorem dX9_comes_107 : decode cX9_comes 107 = .ok (.getfield 40, 3) := by decide +kernel
theorem dX9_comes_110 : decode cX9_comes 110 = .ok (.iload_n 3, 1) := by decide +kernel
theorem dX9_comes_111 : decode cX9_comes 111 = .ok (.iconst (-1), 1) := by decide +kernel
theorem dX9_comes_112 : decode cX9_comes 112 = .ok (.iastore, 1) := by decide +kernel
theorem dX9_comes_113 : decode cX9_comes 113 = .ok (.aload_n 0, 1) := by decide +kernel
theorem dX9_comes_114 : decode cX9_comes 114 = .ok (.iload_n 3, 1) := by decide +kernel
theorem dX9_comes_115 : decode cX9_comes 115 = .ok (.invokevirtual 344, 3) := by decide +kernel
theorem dX9_comes_118 : decode cX9_comes 118 = .ok (.ifCond .eq 12, 3) := by decide +kernel
theorem dX9_comes_121 : decode cX9_comes 121 = .ok (.aload_n 0, 1) := by decide +kernel
theorem dX9_comes_122 : decode cX9_comes 122 = .ok (.getfield 40, 3) := by decide +kernel
theorem dX9_comes_125 : decode cX9_comes 125 = .ok (.iload_n 1, 1) := by decide +kernel
theorem dX9_comes_126 : decode cX9_comes 126 = .ok (.iload_n 2, 1) := by decide +kernel
theorem dX9_comes_127 : decode cX9_comes 127 = .ok (.iastore, 1) := by decide +kernel
theorem dX9_comes_128 : decode cX9_comes 128 = .ok (.iconst 1, 1) := by decide +kernel
theorem dX9_comes_129 : decode cX9_comes 129 = .ok (.ireturn, 1) := by decide +kernel
theorem dX9_comes_130 : decode cX9_comes 130 = .ok (.aload_n 0, 1) := by decide +kernel
theorem dX9_comes_131 : decode cX9_comes 131 = .ok (.getfield 40, 3) := by decide +kernel
theorem dX9_comes_134 : decode cX9_comes 134 = .ok (.iload_n 3, 1) := by decide +kernel
theorem dX9_comes_135 : decode cX9_comes 135 = .ok (.iload_n 2, 1) := by decide +kernel
theorem dX9_comes_136 : decode cX9_comes 136 = .ok (.iastore, 1) := by decide +kernel
theorem dX9_comes_137 : decode cX9_comes 137 = .ok (.iinc 3 1, 3) := by decide +kernel
theorem dX9_comes_140 : decode cX9_comes 140 = .ok (.goto (-63), 3) := by decide +kernel
theorem dX9_comes_143 : decode cX9_comes 143 = .ok (.iinc 2 1, 3) := by decide +kernel
theorem dX9_comes_146 : decode cX9_comes 146 = .ok (.goto (-144), 3) := by decide +kernel
theorem dX9_comes_149 : decode cX9_comes 149 = .ok (.iconst 0, 1) := by decide +kernel
theorem dX9_comes_150 : decode cX9_comes 150 = .ok (.ireturn, 1) := by decide +kernel
theorem dX9_fill_0 : decode cX9_fill 0 = .ok (.iconst 0, 1) := by decide +kernel
theorem dX9_fill_1 : decode cX9_fill 1 = .ok (.istore_n 1, 1) := by decide +kernel
theorem dX9_fill_2 : decode cX9_fill 2 = .ok (.iconst 0, 1) := by decide +kernel
theorem dX9_fill_3 : decode cX9_fill 3 = .ok (.istore_n 2, 1) := by decide +kernel
theorem dX9_fill_4 : decode cX9_fill 4 = .ok (.iload_n 2, 1) := by decide +kernel
theorem dX9_fill_5 : decode cX9_fill 5 = .ok (.aload_n 0, 1) := by decide +kernel
theorem dX9_fill_6 : decode cX9_fill 6 = .ok (.getfield 7, 3) := by decide +kernel
theorem dX9_fill_9 : decode cX9_fill 9 = .ok (.iconst 2, 1) := by decide +kernel
theorem dX9_fill_10 : decode cX9_fill 10 = .ok (.iaload, 1) := by decide +kernel
theorem dX9_fill_11 : decode cX9_fill 11 = .ok (.if_icmp .ge 34, 3) := by decide +kernel
theorem dX9_fill_14 : decode cX9_fill 14 = .ok (.aload_n 0, 1) := by decide +kernel
theorem dX9_fill_15 : decode cX9_fill 15 = .ok (.getfield 40, 3) := by decide +kernel
theorem dX9_fill_18 : decode cX9_fill 18 = .ok (.iload_n 2, 1) := by decide +kernel
theorem dX9_fill_19 : decode cX9_fill 19 = .ok (.aload_n 0, 1) := by decide +kernel
theorem dX9_fill_20 : decode cX9_fill 20 = .ok (.getfield 43, 3) := by decide +kernel
theorem dX9_fill_23 : decode cX9_fill 23 = .ok (.iload_n 2, 1) := by decide +kernel
theorem dX9_fill_24 : decode cX9_fill 24 = .ok (.baload, 1) := by decide +kernel
theorem dX9_fill_25 : decode cX9_fill 25 = .ok (.ifCond .eq 12, 3) := by decide +kernel
theorem dX9_fill_28 : decode cX9_fill 28 = .ok (.aload_n 0, 1) := by decide +kernel
theorem dX9_fill_29 : decode cX9_fill 29 = .ok (.getfield 40, 3) := by decide +kernel
theorem dX9_fill_32 : decode cX9_fill 32 = .ok (.iload_n 2, 1) := by decide +kernel
theorem dX9_fill_33 : decode cX9_fill 33 = .ok (.iaload, 1) := by decide +kernel
theorem dX9_fill_34 : decode cX9_fill 34 = .ok (.goto 4, 3) := by decide +kernel
theorem dX9_fill_37 : decode cX9_fill 37 = .ok (.iconst (-1), 1) := by decide +kernel
theorem dX9_fill_38 : decode cX9_fill 38 = .ok (.iastore, 1) := by decide +kernel
theorem dX9_fill_39 : decode cX9_fill 39 = .ok (.iinc 2 1, 3) := by decide +kernel
theorem dX9_fill_42 : decode cX9_fill 42 = .ok (.goto (-38), 3) := by decide +kernel
theorem dX9_fill_45 : decode cX9_fill 45 = .ok (.iconst 0, 1) := by decide +kernel
theorem dX9_fill_46 : decode cX9_fill 46 = .ok (.istore_n 2, 1) := by decide +kernel
theorem dX9_fill_47 : decode cX9_fill 47 = .ok (.iload_n 2, 1) := by decide +kernel
theorem dX9_fill_48 : decode cX9_fill 48 = .ok (.aload_n 0, 1) := by decide +kernel
theorem dX9_fill_49 : decode cX9_fill 49 = .ok (.getfield 7, 3) := by decide +kernel
theorem dX9_fill_52 : decode cX9_fill 52 = .ok (.iconst 2, 1) := by decide +kernel
theorem dX9_fill_53 : decode cX9_fill 53 = .ok (.iaload, 1) := by decide +kernel
theorem dX9_fill_54 : decode cX9_fill 54 = .ok (.if_icmp .ge 45, 3) := by decide +kernel
theorem dX9_fill_57 : decode cX9_fill 57 = .ok (.aload_n 0, 1) := by decide +kernel
theorem dX9_fill_58 : decode cX9_fill 58 = .ok (.getfield 43, 3) := by decide +kernel
theorem dX9_fill_61 : decode cX9_fill 61 = .ok (.iload_n 2, 1) := by decide +kernel
theorem dX9_fill_62 : decode cX9_fill 62 = .ok (.baload, 1) := by decide +kernel
theorem dX9_fill_63 : decode cX9_fill 63 = .ok (.ifCond .ne 30, 3) := by decide +kernel
theorem dX9_fill_66 : decode cX9_fill 66 = .ok (.iconst 0, 1) := by decide +kernel
theorem dX9_fill_67 : decode cX9_fill 67 = .ok (.istore_n 3, 1) := by decide +kernel
theorem dX9_fill_68 : decode cX9_fill 68 = .ok (.iload_n 3, 1) := by decide +kernel
theorem dX9_fill_69 : decode cX9_fill 69 = .ok (.bipush 6, 2) := by decide +kernel
theorem dX9_fill_71 : decode cX9_fill 71 = .ok (.if_icmp .ge 16, 3) := by decide +kernel
theorem dX9_fill_74 : decode cX9_fill 74 = .ok (.aload_n 0, 1) := by decide +kernel
theorem dX9_fill_75 : decode cX9_fill 75 = .ok (.getfield 47, 3) := by decide +kernel
theorem dX9_fill_78 : decode cX9_fill 78 = .ok (.iload_n 3, 1) := by decide +kernel
theorem dX9_fill_79 : decode cX9_fill 79 = .ok (.iconst 0, 1) := by decide +kernel
theorem dX9_fill_80 : decode cX9_fill 80 = .ok (.bastore, 1) := by decide +kernel
theorem dX9_fill_81 : decode cX9_fill 81 = .ok (.iinc 3 1, 3) := by decide +kernel
theorem dX9_fill_84 : decode cX9_fill 84 = .ok (.goto (-16), 3) := by decide +kernel
theorem dX9_fill_87 : decode cX9_fill 87 = .ok (.aload_n 0, 1) := by decide +kernel
theorem dX9_fill_88 : decode cX9_fill 88 = .ok (.iload_n 2, 1) := by decide +kernel
theorem dX9_fill_89 : decode cX9_fill 89 = .ok (.invokevirtual 344, 3) := by decide +kernel
theorem dX9_fill_92 : decode cX9_fill 92 = .ok (.istore_n 3, 1) := by decide +kernel
theorem dX9_fill_93 : decode cX9_fill 93 = .ok (.iinc 2 1, 3) := by decide +kernel
theorem dX9_fill_96 : decode cX9_fill 96 = .ok (.goto (-49), 3) := by decide +kernel
theorem dX9_fill_99 : decode cX9_fill 99 = .ok (.iconst 0, 1) := by decide +kernel
theorem dX9_fill_100 : decode cX9_fill 100 = .ok (.istore_n 2, 1) := by decide +kernel
theorem dX9_fill_101 : decode cX9_fill 101 = .ok (.iload_n 2, 1) := by decide +kernel
theorem dX9_fill_102 : decode cX9_fill 102 = .ok (.aload_n 0, 1) := by decide +kernel
theorem dX9_fill_103 : decode cX9_fill 103 = .ok (.getfield 7, 3) := by decide +kernel
theorem dX9_fill_106 : decode cX9_fill 106 = .ok (.iconst 2, 1) := by decide +kernel
theorem dX9_fill_107 : decode cX9_fill 107 = .ok (.iaload, 1) := by decide +kernel
theorem dX9_fill_108 : decode cX9_fill 108 = .ok (.if_icmp .ge 26, 3) := by decide +kernel
theorem dX9_fill_111 : decode cX9_fill 111 = .ok (.iload_n 1, 1) := by decide +kernel
theorem dX9_fill_112 : decode cX9_fill 112 = .ok (.aload_n 0, 1) := by decide +kernel
theorem dX9_fill_113 : decode cX9_fill 113 = .ok (.getfield 40, 3) := by decide +kernel
theorem dX9_fill_116 : decode cX9_fill 116 = .ok (.iload_n 2, 1) := by decide +kernel
theorem dX9_fill_117 : decode cX9_fill 117 = .ok (.iaload, 1) := by decide +kernel
theorem dX9_fill_118 : decode cX9_fill 118 = .ok (.ifCond .lt 7, 3) := by decide +kernel
theorem dX9_fill_121 : decode cX9_fill 121 = .ok (.iconst 1, 1) := by decide +kernel
theorem dX9_fill_122 : decode cX9_fill 122 = .ok (.goto 4, 3) := by decide +kernel
theorem dX9_fill_125 : decode cX9_fill 125 = .ok (.iconst 0, 1) := by decide +kernel
theorem dX9_fill_126 : decode cX9_fill 126 = .ok (.iadd, 1) := by decide +kernel
theorem dX9_fill_127 : decode cX9_fill 127 = .ok (.istore_n 1, 1) := by decide +kernel
theorem dX9_fill_128 : decode cX9_fill 128 = .ok (.iinc 2 1, 3) := by decide +kernel
theorem dX9_fill_131 : decode cX9_fill 131 = .ok (.goto (-30), 3) := by decide +kernel
theorem dX9_fill_134 : decode cX9_fill 134 = .ok (.iload_n 1, 1) := by decide +kernel
theorem dX9_fill_135 : decode cX9_fill 135 = .ok (.ireturn, 1) := by decide +kernel
theorem dX9_mostGo_0 : decode cX9_mostGo 0 = .ok (.iconst 0, 1) := by decide +kernel
theorem dX9_mostGo_1 : decode cX9_mostGo 1 = .ok (.istore_n 1, 1) := by decide +kernel
theorem dX9_mostGo_2 : decode cX9_mostGo 2 = .ok (.iload_n 1, 1) := by decide +kernel
theorem dX9_mostGo_3 : decode cX9_mostGo 3 = .ok (.bipush 14, 2) := by decide +kernel
theorem dX9_mostGo_5 : decode cX9_mostGo 5 = .ok (.if_icmp .ge 16, 3) := by decide +kernel
theorem dX9_mostGo_8 : decode cX9_mostGo 8 = .ok (.aload_n 0, 1) := by decide +kernel
theorem dX9_mostGo_9 : decode cX9_mostGo 9 = .ok (.getfield 43, 3) := by decide +kernel
theorem dX9_mostGo_12 : decode cX9_mostGo 12 = .ok (.iload_n 1, 1) := by decide +kernel
theorem dX9_mostGo_13 : decode cX9_mostGo 13 = .ok (.iconst 0, 1) := by decide +kernel
theorem dX9_mostGo_14 : decode cX9_mostGo 14 = .ok (.bastore, 1) := by decide +kernel
theorem dX9_mostGo_15 : decode cX9_mostGo 15 = .ok (.iinc 1 1, 3) := by decide +kernel
theorem dX9_mostGo_18 : decode cX9_mostGo 18 = .ok (.goto (-16), 3) := by decide +kernel
theorem dX9_mostGo_21 : decode cX9_mostGo 21 = .ok (.aload_n 0, 1) := by decide +kernel
theorem dX9_mostGo_22 : decode cX9_mostGo 22 = .ok (.invokevirtual 347, 3) := by decide +kernel
theorem dX9_mostGo_25 : decode cX9_mostGo 25 = .ok (.ireturn, 1) := by decide +kernel
theorem dX9_assignAll_0 : decode cX9_assignAll 0 = .ok (.aload_n 0, 1) := by decide +kernel
theorem dX9_assignAll_1 : decode cX9_assignAll 1 = .ok (.invokevirtual 350, 3) := by decide +kernel
theorem dX9_assignAll_4 : decode cX9_assignAll 4 = .ok (.istore_n 1, 1) := by decide +kernel
theorem dX9_assignAll_5 : decode cX9_assignAll 5 = .ok (.iconst 0, 1) := by decide +kernel
theorem dX9_assignAll_6 : decode cX9_assignAll 6 = .ok (.istore_n 2, 1) := by decide +kernel
theorem dX9_assignAll_7 : decode cX9_assignAll 7 = .ok (.iload_n 2, 1) := by decide +kernel
theorem dX9_assignAll_8 : decode cX9_assignAll 8 = .ok (.aload_n 0, 1) := by decide +kernel
theorem dX9_assignAll_9 : decode cX9_assignAll 9 = .ok (.getfield 7, 3) := by decide +kernel
theorem dX9_assignAll_12 : decode cX9_assignAll 12 = .ok (.iconst 2, 1) := by decide +kernel
theorem dX9_assignAll_13 : decode cX9_assignAll 13 = .ok (.iaload, 1) := by decide +kernel
theorem dX9_assignAll_14 : decode cX9_assignAll 14 = .ok (.if_icmp .ge 154, 3) := by decide +kernel
theorem dX9_assignAll_17 : decode cX9_assignAll 17 = .ok (.iconst 0, 1) := by decide +kernel
theorem dX9_assignAll_18 : decode cX9_assignAll 18 = .ok (.istore_n 3, 1) := by decide +kernel
theorem dX9_assignAll_19 : decode cX9_assignAll 19 = .ok (.iconst 0, 1) := by decide +kernel
theorem dX9_assignAll_20 : decode cX9_assignAll 20 = .ok (.istore 4, 2) := by decide +kernel
theorem dX9_assignAll_22 : decode cX9_assignAll 22 = .ok (.iload 4, 2) := by decide +kernel
theorem dX9_assignAll_24 : decode cX9_assignAll 24 = .ok (.aload_n 0, 1) := by decide +kernel
theorem dX9_assignAll_25 : decode cX9_assignAll 25 = .ok (.getfield 7, 3) := by decide +kernel
theorem dX9_assignAll_28 : decode cX9_assignAll 28 = .ok (.iconst 3, 1) := by decide +kernel
theorem dX9_assignAll_29 : decode cX9_assignAll 29 = .ok (.iaload, 1) := by decide +kernel
theorem dX9_assignAll_30 : decode cX9_assignAll 30 = .ok (.if_icmp .gt 132, 3) := by decide +kernel
theorem dX9_assignAll_33 : decode cX9_assignAll 33 = .ok (.iload_n 3, 1) := by decide +kernel
theorem dX9_assignAll_34 : decode cX9_assignAll 34 = .ok (.ifCond .ne 128, 3) := by decide +kernel
theorem dX9_assignAll_37 : decode cX9_assignAll 37 = .ok (.iload 4, 2) := by decide +kernel
theorem dX9_assignAll_39 : decode cX9_assignAll 39 = .ok (.aload_n 0, 1) := by decide +kernel
theorem dX9_assignAll_40 : decode cX9_assignAll 40 = .ok (.getfield 7, 3) := by decide +kernel
theorem dX9_assignAll_43 : decode cX9_assignAll 43 = .ok (.iconst 3, 1) := by decide +kernel
theorem dX9_assignAll_44 : decode cX9_assignAll 44 = .ok (.iaload, 1) := by decide +kernel
theorem dX9_assignAll_45 : decode cX9_assignAll 45 = .ok (.if_icmp .ne 7, 3) := by decide +kernel
theorem dX9_assignAll_48 : decode cX9_assignAll 48 = .ok (.iconst 1, 1) := by decide +kernel
theorem dX9_assignAll_49 : decode cX9_assignAll 49 = .ok (.goto 4, 3) := by decide +kernel
theorem dX9_assignAll_52 : decode cX9_assignAll 52 = .ok (.iconst 0, 1) := by decide +kernel
theorem dX9_assignAll_53 : decode cX9_assignAll 53 = .ok (.istore 5, 2) := by decide +kernel
theorem dX9_assignAll_55 : decode cX9_assignAll 55 = .ok (.aload_n 0, 1) := by decide +kernel
theorem dX9_assignAll_56 : decode cX9_assignAll 56 = .ok (.getfield 40, 3) := by decide +kernel
theorem dX9_assignAll_59 : decode cX9_assignAll 59 = .ok (.iload_n 2, 1) := by decide +kernel
theorem dX9_assignAll_60 : decode cX9_assignAll 60 = .ok (.iconst (-1), 1) := by decide +kernel
theorem dX9_assignAll_61 : decode cX9_assignAll 61 = .ok (.iastore, 1) := by decide +kernel
theorem dX9_assignAll_62 : decode cX9_assignAll 62 = .ok (.aload_n 0, 1) := by decide +kernel
theorem dX9_assignAll_63 : decode cX9_assignAll 63 = .ok (.getfield 43, 3) := by decide +kernel
theorem dX9_assignAll_66 : decode cX9_assignAll 66 = .ok (.iload_n 2, 1) := by decide +kernel
theorem dX9_assignAll_67 : decode cX9_assignAll 67 = .ok (.iconst 0, 1) := by decide +kernel
theorem dX9_assignAll_68 : decode cX9_assignAll 68 = .ok (.bastore, 1) := by decide +kernel
theorem dX9_assignAll_69 : decode cX9_assignAll 69 = .ok (.iload 5, 2) := by decide +kernel
theorem dX9_assignAll_71 : decode cX9_assignAll 71 = .ok (.ifCond .ne 42, 3) := by decide +kernel
theorem dX9_assignAll_74 : decode cX9_assignAll 74 = .ok (.aload_n 0, 1) := by decide +kernel
theorem dX9_assignAll_75 : decode cX9_assignAll 75 = .ok (.iload_n 2, 1) := by decide +kernel
theorem dX9_assignAll_76 : decode cX9_assignAll 76 = .ok (.iload 4, 2) := by decide +kernel
theorem dX9_assignAll_78 : decode cX9_assignAll 78 = .ok (.invokevirtual 338, 3) := by decide +kernel
theorem dX9_assignAll_81 : decode cX9_assignAll 81 = .ok (.ifCond .eq 75, 3) := by decide +kernel
theorem dX9_assignAll_84 : decode cX9_assignAll 84 = .ok (.aload_n 0, 1) := by decide +kernel
theorem dX9_assignAll_85 : decode cX9_assignAll 85 = .ok (.iload 4, 2) := by decide +kernel
theorem dX9_assignAll_87 : decode cX9_assignAll 87 = .ok (.invokevirtual 353, 3) := by decide +kernel
theorem dX9_assignAll_90 : decode cX9_assignAll 90 = .ok (.aload_n 0, 1) := by decide +kernel
theorem dX9_assignAll_91 : decode cX9_assignAll 91 = .ok (.getfield 7, 3) := by decide +kernel
theorem dX9_assignAll_94 : decode cX9_assignAll 94 = .ok (.aload_n 0, 1) := by decide +kernel
theorem dX9_assignAll_95 : decode cX9_assignAll 95 = .ok (.iload 4, 2) := by decide +kernel
theorem dX9_assignAll_97 : decode cX9_assignAll 97 = .ok (.invokevirtual 129, 3) := by decide +kernel
theorem dX9_assignAll_100 : decode cX9_assignAll 100 = .ok (.iconst 2, 1) := by decide +kernel
theorem dX9_assignAll_101 : decode cX9_assignAll 101 = .ok (.iadd, 1) := by decide +kernel
theorem dX9_assignAll_102 : decode cX9_assignAll 102 = .ok (.iaload, 1) := by decide +kernel
theorem dX9_assignAll_103 : decode cX9_assignAll 103 = .ok (.aload_n 0, 1) := by decide +kernel
theorem dX9_assignAll_104 : decode cX9_assignAll 104 = .ok (.iload 4, 2) := by decide +kernel
theorem dX9_assignAll_106 : decode cX9_assignAll 106 = .ok (.invokevirtual 135, 3) := by decide +kernel
theorem dX9_assignAll_109 : decode cX9_assignAll 109 = .ok (.isub, 1) := by decide +kernel
theorem dX9_assignAll_110 : decode cX9_assignAll 110 = .ok (.if_icmp .ge 46, 3) := by decide +kernel
theorem dX9_assignAll_113 : decode cX9_assignAll 113 = .ok (.aload_n 0, 1) := by decide +kernel
theorem dX9_assignAll_114 : decode cX9_assignAll 114 = .ok (.getfield 40, 3) := by decide +kernel
theorem dX9_assignAll_117 : decode cX9_assignAll 117 = .ok (.iload_n 2, 1) := by decide +kernel
theorem dX9_assignAll_118 : decode cX9_assignAll 118 = .ok (.iload 5, 2) := by decide +kernel
theorem dX9_assignAll_120 : decode cX9_assignAll 120 = .ok (.ifCond .eq 7, 3) := by decide +kernel
theorem dX9_assignAll_123 : decode cX9_assignAll 123 = .ok (.iconst (-1), 1) := by decide +kernel
theorem dX9_assignAll_124 : decode cX9_assignAll 124 = .ok (.goto 5, 3) := by decide +kernel
theorem dX9_assignAll_127 : decode cX9_assignAll 127 = .ok (.iload 4, 2) := by decide +kernel
theorem dX9_assignAll_129 : decode cX9_assignAll 129 = .ok (.iastore, 1) := by decide +kernel
theorem dX9_assignAll_130 : decode cX9_assignAll 130 = .ok (.aload_n 0, 1) := by decide +kernel
theorem dX9_assignAll_131 : decode cX9_assignAll 131 = .ok (.getfield 43, 3) := by decide +kernel
theorem dX9_assignAll_134 : decode cX9_assignAll 134 = .ok (.iload_n 2, 1) := by decide +kernel
theorem dX9_assignAll_135 : decode cX9_assignAll 135 = .ok (.iconst 1, 1) := by decide +kernel
theorem dX9_assignAll_136 : decode cX9_assignAll 136 = .ok (.bastore, 1) := by decide +kernel
theorem dX9_assignAll_137 : decode cX9_assignAll 137 = .ok (.iload 5, 2) := by decide +kernel
theorem dX9_assignAll_139 : decode cX9_assignAll 139 = .ok (.ifCond .ne 11, 3) := by decide +kernel
theorem dX9_assignAll_142 : decode cX9_assignAll 142 = .ok (.aload_n 0, 1) := by decide +kernel
theorem dX9_assignAll_143 : decode cX9_assignAll 143 = .ok (.invokevirtual 347, 3) := by decide +kernel
theorem dX9_assignAll_146 : decode cX9_assignAll 146 = .ok (.iload_n 1, 1) := by decide +kernel
theorem dX9_assignAll_147 : decode cX9_assignAll 147 = .ok (.if_icmp .ne 7, 3) := by decide +kernel
theorem dX9_assignAll_150 : decode cX9_assignAll 150 = .ok (.iconst 1, 1) := by decide +kernel
theorem dX9_assignAll_151 : decode cX9_assignAll 151 = .ok (.goto 4, 3) := by decide +kernel
theorem dX9_assignAll_154 : decode cX9_assignAll 154 = .ok (.iconst 0, 1) := by decide +kernel
theorem dX9_assignAll_155 : decode cX9_assignAll 155 = .ok (.istore_n 3, 1) := by decide +kernel
theorem dX9_assignAll_156 : decode cX9_assignAll 156 = .ok (.iinc 4 1, 3) := by decide +kernel
theorem dX9_assignAll_159 : decode cX9_assignAll 159 = .ok (.goto (-137), 3) := by decide +kernel
theorem dX9_assignAll_162 : decode cX9_assignAll 162 = .ok (.iinc 2 1, 3) := by decide +kernel
theorem dX9_assignAll_165 : decode cX9_assignAll 165 = .ok (.goto (-158), 3) := by decide +kernel
theorem dX9_assignAll_168 : decode cX9_assignAll 168 = .ok (.return_, 1) := by decide +kernel
theorem dX9_settledTo_0 : decode cX9_settledTo 0 = .ok (.iconst 0, 1) := by decide +kernel
theorem dX9_settledTo_1 : decode cX9_settledTo 1 = .ok (.istore_n 2, 1) := by decide +kernel
theorem dX9_settledTo_2 : decode cX9_settledTo 2 = .ok (.iconst 0, 1) := by decide +kernel
theorem dX9_settledTo_3 : decode cX9_settledTo 3 = .ok (.istore_n 3, 1) := by decide +kernel
theorem dX9_settledTo_4 : decode cX9_settledTo 4 = .ok (.iload_n 3, 1) := by decide +kernel
theorem dX9_settledTo_5 : decode cX9_settledTo 5 = .ok (.aload_n 0, 1) := by decide +kernel
theorem dX9_settledTo_6 : decode cX9_settledTo 6 = .ok (.getfield 7, 3) := by decide +kernel
theorem dX9_settledTo_9 : decode cX9_settledTo 9 = .ok (.iconst 2, 1) := by decide +kernel
theorem dX9_settledTo_10 : decode cX9_settledTo 10 = .ok (.iaload, 1) := by decide +kernel
theorem dX9_settledTo_11 : decode cX9_settledTo 11 = .ok (.if_icmp .ge 36, 3) := by decide +kernel
theorem dX9_settledTo_14 : decode cX9_settledTo 14 = .ok (.iload_n 2, 1) := by decide +kernel
theorem dX9_settledTo_15 : decode cX9_settledTo 15 = .ok (.aload_n 0, 1) := by decide +kernel
theorem dX9_settledTo_16 : decode cX9_settledTo 16 = .ok (.getfield 43, 3) := by decide +kernel
theorem dX9_settledTo_19 : decode cX9_settledTo 19 = .ok (.iload_n 3, 1) := by decide +kernel
theorem dX9_settledTo_20 : decode cX9_settledTo 20 = .ok (.baload, 1) := by decide +kernel
theorem dX9_settledTo_21 : decode cX9_settledTo 21 = .ok (.ifCond .eq 17, 3) := by decide +kernel
theorem dX9_settledTo_24 : decode cX9_settledTo 24 = .ok (.aload_n 0, 1) := by decide +kernel
theorem dX9_settledTo_25 : decode cX9_settledTo 25 = .ok (.getfield 40, 3) := by decide +kernel
theorem dX9_settledTo_28 : decode cX9_settledTo 28 = .ok (.iload_n 3, 1) := by decide +kernel
theorem dX9_settledTo_29 : decode cX9_settledTo 29 = .ok (.iaload, 1) := by decide +kernel
theorem dX9_settledTo_30 : decode cX9_settledTo 30 = .ok (.iload_n 1, 1) := by decide +kernel
theorem dX9_settledTo_31 : decode cX9_settledTo 31 = .ok (.if_icmp .ne 7, 3) := by decide +kernel
theorem dX9_settledTo_34 : decode cX9_settledTo 34 = .ok (.iconst 1, 1) := by decide +kernel
theorem dX9_settledTo_35 : decode cX9_settledTo 35 = .ok (.goto 4, 3) := by decide +kernel
theorem dX9_settledTo_38 : decode cX9_settledTo 38 = .ok (.iconst 0, 1) := by decide +kernel
theorem dX9_settledTo_39 : decode cX9_settledTo 39 = .ok (.iadd, 1) := by decide +kernel
theorem dX9_settledTo_40 : decode cX9_settledTo 40 = .ok (.istore_n 2, 1) := by decide +kernel
theorem dX9_settledTo_41 : decode cX9_settledTo 41 = .ok (.iinc 3 1, 3) := by decide +kernel
theorem dX9_settledTo_44 : decode cX9_settledTo 44 = .ok (.goto (-40), 3) := by decide +kernel
theorem dX9_settledTo_47 : decode cX9_settledTo 47 = .ok (.iload_n 2, 1) := by decide +kernel
theorem dX9_settledTo_48 : decode cX9_settledTo 48 = .ok (.ireturn, 1) := by decide +kernel
theorem dX9_goes_0 : decode cX9_goes 0 = .ok (.aload_n 0, 1) := by decide +kernel
theorem dX9_goes_1 : decode cX9_goes 1 = .ok (.iload_n 1, 1) := by decide +kernel
theorem dX9_goes_2 : decode cX9_goes 2 = .ok (.invokevirtual 101, 3) := by decide +kernel
theorem dX9_goes_5 : decode cX9_goes 5 = .ok (.ifCond .ne 6, 3) := by decide +kernel
theorem dX9_goes_8 : decode cX9_goes 8 = .ok (.ldc 87, 2) := by decide +kernel
theorem dX9_goes_10 : decode cX9_goes 10 = .ok (.ireturn, 1) := by decide +kernel
theorem dX9_goes_11 : decode cX9_goes 11 = .ok (.aload_n 0, 1) := by decide +kernel
theorem dX9_goes_12 : decode cX9_goes 12 = .ok (.invokevirtual 356, 3) := by decide +kernel
theorem dX9_goes_15 : decode cX9_goes 15 = .ok (.aload_n 0, 1) := by decide +kernel
theorem dX9_goes_16 : decode cX9_goes 16 = .ok (.getfield 40, 3) := by decide +kernel
theorem dX9_goes_19 : decode cX9_goes 19 = .ok (.iload_n 1, 1) := by decide +kernel
theorem dX9_goes_20 : decode cX9_goes 20 = .ok (.iaload, 1) := by decide +kernel
theorem dX9_goes_21 : decode cX9_goes 21 = .ok (.invokestatic 119, 3) := by decide +kernel
theorem dX9_goes_24 : decode cX9_goes 24 = .ok (.ireturn, 1) := by decide +kernel
theorem dX9_most_0 : decode cX9_most 0 = .ok (.aload_n 0, 1) := by decide +kernel
theorem dX9_most_1 : decode cX9_most 1 = .ok (.invokevirtual 350, 3) := by decide +kernel
theorem dX9_most_4 : decode cX9_most 4 = .ok (.ireturn, 1) := by decide +kernel
theorem dX9_sentence_0 : decode cX9_sentence 0 = .ok (.iload_n 1, 1) := by decide +kernel
theorem dX9_sentence_1 : decode cX9_sentence 1 = .ok (.i2l, 1) := by decide +kernel
theorem dX9_sentence_2 : decode cX9_sentence 2 = .ok (.lconst 0, 1) := by decide +kernel
theorem dX9_sentence_3 : decode cX9_sentence 3 = .ok (.ldc2_w 260, 3) := by decide +kernel
theorem dX9_sentence_6 : decode cX9_sentence 6 = .ok (.invokestatic 60, 3) := by decide +kernel
theorem dX9_sentence_9 : decode cX9_sentence 9 = .ok (.ifCond .eq 27, 3) := by decide +kernel
theorem dX9_sentence_12 : decode cX9_sentence 12 = .ok (.iload_n 2, 1) := by decide +kernel
theorem dX9_sentence_13 : decode cX9_sentence 13 = .ok (.i2l, 1) := by decide +kernel
theorem dX9_sentence_14 : decode cX9_sentence 14 = .ok (.lconst 0, 1) := by decide +kernel
theorem dX9_sentence_15 : decode cX9_sentence 15 = .ok (.ldc2_w 89, 3) := by decide +kernel
theorem dX9_sentence_18 : decode cX9_sentence 18 = .ok (.invokestatic 60, 3) := by decide +kernel
theorem dX9_sentence_21 : decode cX9_sentence 21 = .ok (.ifCond .eq 15, 3) := by decide +kernel
theorem dX9_sentence_24 : decode cX9_sentence 24 = .ok (.iload_n 3, 1) := by decide +kernel
theorem dX9_sentence_25 : decode cX9_sentence 25 = .ok (.i2l, 1) := by decide +kernel
theorem dX9_sentence_26 : decode cX9_sentence 26 = .ok (.lconst 0, 1) := by decide +kernel
theorem dX9_sentence_27 : decode cX9_sentence 27 = .ok (.ldc2_w 359, 3) := by decide +kernel
theorem dX9_sentence_30 : decode cX9_sentence 30 = .ok (.invokestatic 60, 3) := by decide +kernel
theorem dX9_sentence_33 : decode cX9_sentence 33 = .ok (.ifCond .ne 6, 3) := by decide +kernel
theorem dX9_sentence_36 : decode cX9_sentence 36 = .ok (.ldc 87, 2) := by decide +kernel
theorem dX9_sentence_38 : decode cX9_sentence 38 = .ok (.ireturn, 1) := by decide +kernel
theorem dX9_sentence_39 : decode cX9_sentence 39 = .ok (.aload_n 0, 1) := by decide +kernel
theorem dX9_sentence_40 : decode cX9_sentence 40 = .ok (.getfield 7, 3) := by decide +kernel
theorem dX9_sentence_43 : decode cX9_sentence 43 = .ok (.bipush 7, 2) := by decide +kernel
theorem dX9_sentence_45 : decode cX9_sentence 45 = .ok (.iaload, 1) := by decide +kernel
theorem dX9_sentence_46 : decode cX9_sentence 46 = .ok (.bipush 30, 2) := by decide +kernel
theorem dX9_sentence_48 : decode cX9_sentence 48 = .ok (.if_icmp .ne 6, 3) := by decide +kernel
theorem dX9_sentence_51 : decode cX9_sentence 51 = .ok (.ldc 88, 2) := by decide +kernel
theorem dX9_sentence_53 : decode cX9_sentence 53 = .ok (.ireturn, 1) := by decide +kernel
theorem dX9_sentence_54 : decode cX9_sentence 54 = .ok (.sipush 480, 3) := by decide +kernel
theorem dX9_sentence_57 : decode cX9_sentence 57 = .ok (.iconst 3, 1) := by decide +kernel
theorem dX9_sentence_58 : decode cX9_sentence 58 = .ok (.aload_n 0, 1) := by decide +kernel
theorem dX9_sentence_59 : decode cX9_sentence 59 = .ok (.getfield 7, 3) := by decide +kernel
theorem dX9_sentence_62 : decode cX9_sentence 62 = .ok (.bipush 7, 2) := by decide +kernel
theorem dX9_sentence_64 : decode cX9_sentence 64 = .ok (.iaload, 1) := by decide +kernel
theorem dX9_sentence_65 : decode cX9_sentence 65 = .ok (.imul, 1) := by decide +kernel
theorem dX9_sentence_66 : decode cX9_sentence 66 = .ok (.iadd, 1) := by decide +kernel
theorem dX9_sentence_67 : decode cX9_sentence 67 = .ok (.istore 4, 2) := by decide +kernel
theorem dX9_sentence_69 : decode cX9_sentence 69 = .ok (.aload_n 0, 1) := by decide +kernel
theorem dX9_sentence_70 : decode cX9_sentence 70 = .ok (.getfield 7, 3) := by decide +kernel
theorem dX9_sentence_73 : decode cX9_sentence 73 = .ok (.iload 4, 2) := by decide +kernel
theorem dX9_sentence_75 : decode cX9_sentence 75 = .ok (.iload_n 1, 1) := by decide +kernel
theorem dX9_sentence_76 : decode cX9_sentence 76 = .ok (.iastore, 1) := by decide +kernel
theorem dX9_sentence_77 : decode cX9_sentence 77 = .ok (.aload_n 0, 1) := by decide +kernel
theorem dX9_sentence_78 : decode cX9_sentence 78 = .ok (.getfield 7, 3) := by decide +kernel
theorem dX9_sentence_81 : decode cX9_sentence 81 = .ok (.iload 4, 2) := by decide +kernel
theorem dX9_sentence_83 : decode cX9_sentence 83 = .ok (.iconst 1, 1) := by decide +kernel
theorem dX9_sentence_84 : decode cX9_sentence 84 = .ok (.iadd, 1) := by decide +kernel
theorem dX9_sentence_85 : decode cX9_sentence 85 = .ok (.iload_n 2, 1) := by decide +kernel
theorem dX9_sentence_86 : decode cX9_sentence 86 = .ok (.iastore, 1) := by decide +kernel
theorem dX9_sentence_87 : decode cX9_sentence 87 = .ok (.aload_n 0, 1) := by decide +kernel
theorem dX9_sentence_88 : decode cX9_sentence 88 = .ok (.getfield 7, 3) := by decide +kernel
theorem dX9_sentence_91 : decode cX9_sentence 91 = .ok (.iload 4, 2) := by decide +kernel
theorem dX9_sentence_93 : decode cX9_sentence 93 = .ok (.iconst 2, 1) := by decide +kernel
theorem dX9_sentence_94 : decode cX9_sentence 94 = .ok (.iadd, 1) := by decide +kernel
theorem dX9_sentence_95 : decode cX9_sentence 95 = .ok (.iload_n 3, 1) := by decide +kernel
theorem dX9_sentence_96 : decode cX9_sentence 96 = .ok (.iastore, 1) := by decide +kernel
theorem dX9_sentence_97 : decode cX9_sentence 97 = .ok (.aload_n 0, 1) := by decide +kernel
theorem dX9_sentence_98 : decode cX9_sentence 98 = .ok (.getfield 7, 3) := by decide +kernel
theorem dX9_sentence_101 : decode cX9_sentence 101 = .ok (.bipush 7, 2) := by decide +kernel
theorem dX9_sentence_103 : decode cX9_sentence 103 = .ok (.dup2, 1) := by decide +kernel
theorem dX9_sentence_104 : decode cX9_sentence 104 = .ok (.iaload, 1) := by decide +kernel
theorem dX9_sentence_105 : decode cX9_sentence 105 = .ok (.iconst 1, 1) := by decide +kernel
theorem dX9_sentence_106 : decode cX9_sentence 106 = .ok (.iadd, 1) := by decide +kernel
theorem dX9_sentence_107 : decode cX9_sentence 107 = .ok (.iastore, 1) := by decide +kernel
theorem dX9_sentence_108 : decode cX9_sentence 108 = .ok (.aload_n 0, 1) := by decide +kernel
theorem dX9_sentence_109 : decode cX9_sentence 109 = .ok (.getfield 7, 3) := by decide +kernel
theorem dX9_sentence_112 : decode cX9_sentence 112 = .ok (.bipush 7, 2) := by decide +kernel
theorem dX9_sentence_114 : decode cX9_sentence 114 = .ok (.iaload, 1) := by decide +kernel
theorem dX9_sentence_115 : decode cX9_sentence 115 = .ok (.iconst 1, 1) := by decide +kernel
theorem dX9_sentence_116 : decode cX9_sentence 116 = .ok (.isub, 1) := by decide +kernel
theorem dX9_sentence_117 : decode cX9_sentence 117 = .ok (.ireturn, 1) := by decide +kernel
theorem dX9_meanOf_0 : decode cX9_meanOf 0 = .ok (.iconst 0, 1) := by decide +kernel
theorem dX9_meanOf_1 : decode cX9_meanOf 1 = .ok (.istore 4, 2) := by decide +kernel
theorem dX9_meanOf_3 : decode cX9_meanOf 3 = .ok (.iconst 0, 1) := by decide +kernel
theorem dX9_meanOf_4 : decode cX9_meanOf 4 = .ok (.istore 5, 2) := by decide +kernel
theorem dX9_meanOf_6 : decode cX9_meanOf 6 = .ok (.iconst 0, 1) := by decide +kernel
theorem dX9_meanOf_7 : decode cX9_meanOf 7 = .ok (.istore 6, 2) := by decide +kernel
theorem dX9_meanOf_9 : decode cX9_meanOf 9 = .ok (.iload 6, 2) := by decide +kernel
theorem dX9_meanOf_11 : decode cX9_meanOf 11 = .ok (.aload_n 0, 1) := by decide +kernel
theorem dX9_meanOf_12 : decode cX9_meanOf 12 = .ok (.getfield 7, 3) := by decide +kernel
theorem dX9_meanOf_15 : decode cX9_meanOf 15 = .ok (.bipush 7, 2) := by decide +kernel
theorem dX9_meanOf_17 : decode cX9_meanOf 17 = .ok (.iaload, 1) := by decide +kernel
theorem dX9_meanOf_18 : decode cX9_meanOf 18 = .ok (.if_icmp .ge 69, 3) := by decide +kernel
theorem dX9_meanOf_21 : decode cX9_meanOf 21 = .ok (.sipush 480, 3) := by decide +kernel
theorem dX9_meanOf_24 : decode cX9_meanOf 24 = .ok (.iconst 3, 1) := by decide +kernel
theorem dX9_meanOf_25 : decode cX9_meanOf 25 = .ok (.iload 6, 2) := by decide +kernel
theorem dX9_meanOf_27 : decode cX9_meanOf 27 = .ok (.imul, 1) := by decide +kernel
theorem dX9_meanOf_28 : decode cX9_meanOf 28 = .ok (.iadd, 1) := by decide +kernel
theorem dX9_meanOf_29 : decode cX9_meanOf 29 = .ok (.istore 7, 2) := by decide +kernel
theorem dX9_meanOf_31 : decode cX9_meanOf 31 = .ok (.aload_n 0, 1) := by decide +kernel
theorem dX9_meanOf_32 : decode cX9_meanOf 32 = .ok (.getfield 7, 3) := by decide +kernel
theorem dX9_meanOf_35 : decode cX9_meanOf 35 = .ok (.iload 7, 2) := by decide +kernel
theorem dX9_meanOf_37 : decode cX9_meanOf 37 = .ok (.iconst 1, 1) := by decide +kernel
theorem dX9_meanOf_38 : decode cX9_meanOf 38 = .ok (.iadd, 1) := by decide +kernel
theorem dX9_meanOf_39 : decode cX9_meanOf 39 = .ok (.iaload, 1) := by decide +kernel
theorem dX9_meanOf_40 : decode cX9_meanOf 40 = .ok (.iload_n 2, 1) := by decide +kernel
theorem dX9_meanOf_41 : decode cX9_meanOf 41 = .ok (.if_icmp .ne 40, 3) := by decide +kernel
theorem dX9_meanOf_44 : decode cX9_meanOf 44 = .ok (.aload_n 0, 1) := by decide +kernel
theorem dX9_meanOf_45 : decode cX9_meanOf 45 = .ok (.getfield 7, 3) := by decide +kernel
theorem dX9_meanOf_48 : decode cX9_meanOf 48 = .ok (.iload 7, 2) := by decide +kernel
theorem dX9_meanOf_50 : decode cX9_meanOf 50 = .ok (.iaload, 1) := by decide +kernel
theorem dX9_meanOf_51 : decode cX9_meanOf 51 = .ok (.iload_n 1, 1) := by decide +kernel
theorem dX9_meanOf_52 : decode cX9_meanOf 52 = .ok (.if_icmp .ne 7, 3) := by decide +kernel
theorem dX9_meanOf_55 : decode cX9_meanOf 55 = .ok (.iconst 1, 1) := by decide +kernel
theorem dX9_meanOf_56 : decode cX9_meanOf 56 = .ok (.goto 4, 3) := by decide +kernel
theorem dX9_meanOf_59 : decode cX9_meanOf 59 = .ok (.iconst 0, 1) := by decide +kernel
theorem dX9_meanOf_60 : decode cX9_meanOf 60 = .ok (.iload_n 3, 1) := by decide +kernel
theorem dX9_meanOf_61 : decode cX9_meanOf 61 = .ok (.if_icmp .eq 20, 3) := by decide +kernel
theorem dX9_meanOf_64 : decode cX9_meanOf 64 = .ok (.iload 4, 2) := by decide +kernel
theorem dX9_meanOf_66 : decode cX9_meanOf 66 = .ok (.aload_n 0, 1) := by decide +kernel
theorem dX9_meanOf_67 : decode cX9_meanOf 67 = .ok (.getfield 7, 3) := by decide +kernel
theorem dX9_meanOf_70 : decode cX9_meanOf 70 = .ok (.iload 7, 2) := by decide +kernel
theorem dX9_meanOf_72 : decode cX9_meanOf 72 = .ok (.iconst 2, 1) := by decide +kernel
theorem dX9_meanOf_73 : decode cX9_meanOf 73 = .ok (.iadd, 1) := by decide +kernel
theorem dX9_meanOf_74 : decode cX9_meanOf 74 = .ok (.iaload, 1) := by decide +kernel
theorem dX9_meanOf_75 : decode cX9_meanOf 75 = .ok (.iadd, 1) := by decide +kernel
theorem dX9_meanOf_76 : decode cX9_meanOf 76 = .ok (.istore 4, 2) := by decide +kernel
theorem dX9_meanOf_78 : decode cX9_meanOf 78 = .ok (.iinc 5 1, 3) := by decide +kernel
theorem dX9_meanOf_81 : decode cX9_meanOf 81 = .ok (.iinc 6 1, 3) := by decide +kernel
theorem dX9_meanOf_84 : decode cX9_meanOf 84 = .ok (.goto (-75), 3) := by decide +kernel
theorem dX9_meanOf_87 : decode cX9_meanOf 87 = .ok (.iload 5, 2) := by decide +kernel
theorem dX9_meanOf_89 : decode cX9_meanOf 89 = .ok (.ifCond .ne 7, 3) := by decide +kernel
theorem dX9_meanOf_92 : decode cX9_meanOf 92 = .ok (.iconst (-1), 1) := by decide +kernel
theorem dX9_meanOf_93 : decode cX9_meanOf 93 = .ok (.goto 8, 3) := by decide +kernel
theorem dX9_meanOf_96 : decode cX9_meanOf 96 = .ok (.iload 4, 2) := by decide +kernel
theorem dX9_meanOf_98 : decode cX9_meanOf 98 = .ok (.iload 5, 2) := by decide +kernel
theorem dX9_meanOf_100 : decode cX9_meanOf 100 = .ok (.idiv, 1) := by decide +kernel
theorem dX9_meanOf_101 : decode cX9_meanOf 101 = .ok (.ireturn, 1) := by decide +kernel
theorem dX9_mean_0 : decode cX9_mean 0 = .ok (.iload_n 1, 1) := by decide +kernel
theorem dX9_mean_1 : decode cX9_mean 1 = .ok (.i2l, 1) := by decide +kernel
theorem dX9_mean_2 : decode cX9_mean 2 = .ok (.lconst 0, 1) := by decide +kernel
theorem dX9_mean_3 : decode cX9_mean 3 = .ok (.ldc2_w 260, 3) := by decide +kernel
theorem dX9_mean_6 : decode cX9_mean 6 = .ok (.invokestatic 60, 3) := by decide +kernel
theorem dX9_mean_9 : decode cX9_mean 9 = .ok (.ifCond .eq 28, 3) := by decide +kernel
theorem dX9_mean_12 : decode cX9_mean 12 = .ok (.iload_n 2, 1) := by decide +kernel
theorem dX9_mean_13 : decode cX9_mean 13 = .ok (.i2l, 1) := by decide +kernel
theorem dX9_mean_14 : decode cX9_mean 14 = .ok (.lconst 0, 1) := by decide +kernel
theorem dX9_mean_15 : decode cX9_mean 15 = .ok (.ldc2_w 89, 3) := by decide +kernel
theorem dX9_mean_18 : decode cX9_mean 18 = .ok (.invokestatic 60, 3) := by decide +kernel
theorem dX9_mean_21 : decode cX9_mean 21 = .ok (.ifCond .eq 16, 3) := by decide +kernel
theorem dX9_mean_24 : decode cX9_mean 24 = .ok (.aload_n 0, 1) := by decide +kernel
theorem dX9_mean_25 : decode cX9_mean 25 = .ok (.iload_n 1, 1) := by decide +kernel
theorem dX9_mean_26 : decode cX9_mean 26 = .ok (.iload_n 2, 1) := by decide +kernel
theorem dX9_mean_27 : decode cX9_mean 27 = .ok (.iconst 0, 1) := by decide +kernel
theorem dX9_mean_28 : decode cX9_mean 28 = .ok (.invokevirtual 361, 3) := by decide +kernel
theorem dX9_mean_31 : decode cX9_mean 31 = .ok (.invokestatic 119, 3) := by decide +kernel
theorem dX9_mean_34 : decode cX9_mean 34 = .ok (.goto 5, 3) := by decide +kernel
theorem dX9_mean_37 : decode cX9_mean 37 = .ok (.ldc 87, 2) := by decide +kernel
theorem dX9_mean_39 : decode cX9_mean 39 = .ok (.ireturn, 1) := by decide +kernel
theorem dX9_harsh_0 : decode cX9_harsh 0 = .ok (.iload_n 1, 1) := by decide +kernel
theorem dX9_harsh_1 : decode cX9_harsh 1 = .ok (.i2l, 1) := by decide +kernel
theorem dX9_harsh_2 : decode cX9_harsh 2 = .ok (.lconst 0, 1) := by decide +kernel
theorem dX9_harsh_3 : decode cX9_harsh 3 = .ok (.ldc2_w 89, 3) := by decide +kernel
theorem dX9_harsh_6 : decode cX9_harsh 6 = .ok (.invokestatic 60, 3) := by decide +kernel
theorem dX9_harsh_9 : decode cX9_harsh 9 = .ok (.ifCond .ne 6, 3) := by decide +kernel
theorem dX9_harsh_12 : decode cX9_harsh 12 = .ok (.ldc 87, 2) := by decide +kernel
theorem dX9_harsh_14 : decode cX9_harsh 14 = .ok (.ireturn, 1) := by decide +kernel
theorem dX9_harsh_15 : decode cX9_harsh 15 = .ok (.iconst 0, 1) := by decide +kernel
theorem dX9_harsh_16 : decode cX9_harsh 16 = .ok (.istore_n 2, 1) := by decide +kernel
theorem dX9_harsh_17 : decode cX9_harsh 17 = .ok (.iconst 0, 1) := by decide +kernel
theorem dX9_harsh_18 : decode cX9_harsh 18 = .ok (.istore_n 3, 1) := by decide +kernel
theorem dX9_harsh_19 : decode cX9_harsh 19 = .ok (.iload_n 3, 1) := by decide +kernel
theorem dX9_harsh_20 : decode cX9_harsh 20 = .ok (.iconst 4, 1) := by decide +kernel
theorem dX9_harsh_21 : decode cX9_harsh 21 = .ok (.if_icmp .ge 56, 3) := by decide +kernel
theorem dX9_harsh_24 : decode cX9_harsh 24 = .ok (.aload_n 0, 1) := by decide +kernel
theorem dX9_harsh_25 : decode cX9_harsh 25 = .ok (.iload_n 3, 1) := by decide +kernel
theorem dX9_harsh_26 : decode cX9_harsh 26 = .ok (.iload_n 1, 1) := by decide +kernel
theorem dX9_harsh_27 : decode cX9_harsh 27 = .ok (.iconst 0, 1) := by decide +kernel
theorem dX9_harsh_28 : decode cX9_harsh 28 = .ok (.invokevirtual 361, 3) := by decide +kernel
theorem dX9_harsh_31 : decode cX9_harsh 31 = .ok (.istore 4, 2) := by decide +kernel
theorem dX9_harsh_33 : decode cX9_harsh 33 = .ok (.aload_n 0, 1) := by decide +kernel
theorem dX9_harsh_34 : decode cX9_harsh 34 = .ok (.iload_n 3, 1) := by decide +kernel
theorem dX9_harsh_35 : decode cX9_harsh 35 = .ok (.iload_n 1, 1) := by decide +kernel
theorem dX9_harsh_36 : decode cX9_harsh 36 = .ok (.iconst 1, 1) := by decide +kernel
theorem dX9_harsh_37 : decode cX9_harsh 37 = .ok (.invokevirtual 361, 3) := by decide +kernel
theorem dX9_harsh_40 : decode cX9_harsh 40 = .ok (.istore 5, 2) := by decide +kernel
theorem dX9_harsh_42 : decode cX9_harsh 42 = .ok (.iload_n 2, 1) := by decide +kernel
theorem dX9_harsh_43 : decode cX9_harsh 43 = .ok (.iload 4, 2) := by decide +kernel
theorem dX9_harsh_45 : decode cX9_harsh 45 = .ok (.ifCond .lt 23, 3) := by decide +kernel
theorem dX9_harsh_48 : decode cX9_harsh 48 = .ok (.iload 5, 2) := by decide +kernel
theorem dX9_harsh_50 : decode cX9_harsh 50 = .ok (.ifCond .lt 18, 3) := by decide +kernel
theorem dX9_harsh_53 : decode cX9_harsh 53 = .ok (.iload 4, 2) := by decide +kernel
theorem dX9_harsh_55 : decode cX9_harsh 55 = .ok (.iconst 2, 1) := by decide +kernel
theorem dX9_harsh_56 : decode cX9_harsh 56 = .ok (.iload 5, 2) := by decide +kernel
theorem dX9_harsh_58 : decode cX9_harsh 58 = .ok (.imul, 1) := by decide +kernel
theorem dX9_harsh_59 : decode cX9_harsh 59 = .ok (.if_icmp .le 9, 3) := by decide +kernel
theorem dX9_harsh_62 : decode cX9_harsh 62 = .ok (.iconst 1, 1) := by decide +kernel
theorem dX9_harsh_63 : decode cX9_harsh 63 = .ok (.iload_n 3, 1) := by decide +kernel
theorem dX9_harsh_64 : decode cX9_harsh 64 = .ok (.ishl, 1) := by decide +kernel
theorem dX9_harsh_65 : decode cX9_harsh 65 = .ok (.goto 4, 3) := by decide +kernel
theorem dX9_harsh_68 : decode cX9_harsh 68 = .ok (.iconst 0, 1) := by decide +kernel
theorem dX9_harsh_69 : decode cX9_harsh 69 = .ok (.ior, 1) := by decide +kernel
theorem dX9_harsh_70 : decode cX9_harsh 70 = .ok (.istore_n 2, 1) := by decide +kernel
theorem dX9_harsh_71 : decode cX9_harsh 71 = .ok (.iinc 3 1, 3) := by decide +kernel
theorem dX9_harsh_74 : decode cX9_harsh 74 = .ok (.goto (-55), 3) := by decide +kernel
theorem dX9_harsh_77 : decode cX9_harsh 77 = .ok (.iload_n 2, 1) := by decide +kernel
theorem dX9_harsh_78 : decode cX9_harsh 78 = .ok (.ireturn, 1) := by decide +kernel
theorem dX9_letter_0 : decode cX9_letter 0 = .ok (.aload_n 0, 1) := by decide +kernel
theorem dX9_letter_1 : decode cX9_letter 1 = .ok (.iload_n 1, 1) := by decide +kernel
theorem dX9_letter_2 : decode cX9_letter 2 = .ok (.invokevirtual 101, 3) := by decide +kernel
theorem dX9_letter_5 : decode cX9_letter 5 = .ok (.ifCond .eq 25, 3) := by decide +kernel
theorem dX9_letter_8 : decode cX9_letter 8 = .ok (.iload_n 2, 1) := by decide +kernel
theorem dX9_letter_9 : decode cX9_letter 9 = .ok (.i2l, 1) := by decide +kernel
theorem dX9_letter_10 : decode cX9_letter 10 = .ok (.lconst 0, 1) := by decide +kernel
theorem dX9_letter_11 : decode cX9_letter 11 = .ok (.lconst 1, 1) := by decide +kernel
theorem dX9_letter_12 : decode cX9_letter 12 = .ok (.invokestatic 60, 3) := by decide +kernel
theorem dX9_letter_15 : decode cX9_letter 15 = .ok (.ifCond .eq 15, 3) := by decide +kernel
theorem dX9_letter_18 : decode cX9_letter 18 = .ok (.iload_n 3, 1) := by decide +kernel
theorem dX9_letter_19 : decode cX9_letter 19 = .ok (.i2l, 1) := by decide +kernel
theorem dX9_letter_20 : decode cX9_letter 20 = .ok (.lconst 1, 1) := by decide +kernel
theorem dX9_letter_21 : decode cX9_letter 21 = .ok (.ldc2_w 127, 3) := by decide +kernel
theorem dX9_letter_24 : decode cX9_letter 24 = .ok (.invokestatic 60, 3) := by decide +kernel
theorem dX9_letter_27 : decode cX9_letter 27 = .ok (.ifCond .ne 6, 3) := by decide +kernel
theorem dX9_letter_30 : decode cX9_letter 30 = .ok (.ldc 87, 2) := by decide +kernel
theorem dX9_letter_32 : decode cX9_letter 32 = .ok (.ireturn, 1) := by decide +kernel
theorem dX9_letter_33 : decode cX9_letter 33 = .ok (.iload_n 2, 1) := by decide +kernel
theorem dX9_letter_34 : decode cX9_letter 34 = .ok (.iconst 1, 1) := by decide +kernel
theorem dX9_letter_35 : decode cX9_letter 35 = .ok (.if_icmp .ne 14, 3) := by decide +kernel
theorem dX9_letter_38 : decode cX9_letter 38 = .ok (.aload_n 0, 1) := by decide +kernel
theorem dX9_letter_39 : decode cX9_letter 39 = .ok (.iload_n 1, 1) := by decide +kernel
theorem dX9_letter_40 : decode cX9_letter 40 = .ok (.invokevirtual 70, 3) := by decide +kernel
theorem dX9_letter_43 : decode cX9_letter 43 = .ok (.ifCond .eq 6, 3) := by decide +kernel
theorem dX9_letter_46 : decode cX9_letter 46 = .ok (.ldc 106, 2) := by decide +kernel
theorem dX9_letter_48 : decode cX9_letter 48 = .ok (.ireturn, 1) := by decide +kernel
theorem dX9_letter_49 : decode cX9_letter 49 = .ok (.aload_n 0, 1) := by decide +kernel
theorem dX9_letter_50 : decode cX9_letter 50 = .ok (.getfield 7, 3) := by decide +kernel
theorem dX9_letter_53 : decode cX9_letter 53 = .ok (.bipush 8, 2) := by decide +kernel
theorem dX9_letter_55 : decode cX9_letter 55 = .ok (.iaload, 1) := by decide +kernel
theorem dX9_letter_56 : decode cX9_letter 56 = .ok (.bipush 20, 2) := by decide +kernel
theorem dX9_letter_58 : decode cX9_letter 58 = .ok (.if_icmp .ne 6, 3) := by decide +kernel
theorem dX9_letter_61 : decode cX9_letter 61 = .ok (.ldc 88, 2) := by decide +kernel
theorem dX9_letter_63 : decode cX9_letter 63 = .ok (.ireturn, 1) := by decide +kernel
theorem dX9_letter_64 : decode cX9_letter 64 = .ok (.sipush 570, 3) := by decide +kernel
theorem dX9_letter_67 : decode cX9_letter 67 = .ok (.iconst 5, 1) := by decide +kernel
theorem dX9_letter_68 : decode cX9_letter 68 = .ok (.aload_n 0, 1) := by decide +kernel
theorem dX9_letter_69 : decode cX9_letter 69 = .ok (.getfield 7, 3) := by decide +kernel
theorem dX9_letter_72 : decode cX9_letter 72 = .ok (.bipush 8, 2) := by decide +kernel
theorem dX9_letter_74 : decode cX9_letter 74 = .ok (.iaload, 1) := by decide +kernel
theorem dX9_letter_75 : decode cX9_letter 75 = .ok (.imul, 1) := by decide +kernel
theorem dX9_letter_76 : decode cX9_letter 76 = .ok (.iadd, 1) := by decide +kernel
theorem dX9_letter_77 : decode cX9_letter 77 = .ok (.istore 4, 2) := by decide +kernel
theorem dX9_letter_79 : decode cX9_letter 79 = .ok (.aload_n 0, 1) := by decide +kernel
theorem dX9_letter_80 : decode cX9_letter 80 = .ok (.getfield 7, 3) := by decide +kernel
theorem dX9_letter_83 : decode cX9_letter 83 = .ok (.iload 4, 2) := by decide +kernel
theorem dX9_letter_85 : decode cX9_letter 85 = .ok (.iload_n 1, 1) := by decide +kernel
theorem dX9_letter_86 : decode cX9_letter 86 = .ok (.iastore, 1) := by decide +kernel
theorem dX9_letter_87 : decode cX9_letter 87 = .ok (.aload_n 0, 1) := by decide +kernel
theorem dX9_letter_88 : decode cX9_letter 88 = .ok (.getfield 7, 3) := by decide +kernel
theorem dX9_letter_91 : decode cX9_letter 91 = .ok (.iload 4, 2) := by decide +kernel
theorem dX9_letter_93 : decode cX9_letter 93 = .ok (.iconst 1, 1) := by decide +kernel
theorem dX9_letter_94 : decode cX9_letter 94 = .ok (.iadd, 1) := by decide +kernel
theorem dX9_letter_95 : decode cX9_letter 95 = .ok (.iload_n 2, 1) := by decide +kernel
theorem dX9_letter_96 : decode cX9_letter 96 = .ok (.iastore, 1) := by decide +kernel
theorem dX9_letter_97 : decode cX9_letter 97 = .ok (.aload_n 0, 1) := by decide +kernel
theorem dX9_letter_98 : decode cX9_letter 98 = .ok (.getfield 7, 3) := by decide +kernel
theorem dX9_letter_101 : decode cX9_letter 101 = .ok (.iload 4, 2) := by decide +kernel
theorem dX9_letter_103 : decode cX9_letter 103 = .ok (.iconst 2, 1) := by decide +kernel
theorem dX9_letter_104 : decode cX9_letter 104 = .ok (.iadd, 1) := by decide +kernel
theorem dX9_letter_105 : decode cX9_letter 105 = .ok (.aload_n 0, 1) := by decide +kernel
theorem dX9_letter_106 : decode cX9_letter 106 = .ok (.getfield 7, 3) := by decide +kernel
theorem dX9_letter_109 : decode cX9_letter 109 = .ok (.iconst 0, 1) := by decide +kernel
theorem dX9_letter_110 : decode cX9_letter 110 = .ok (.iaload, 1) := by decide +kernel
theorem dX9_letter_111 : decode cX9_letter 111 = .ok (.iload_n 3, 1) := by decide +kernel
theorem dX9_letter_112 : decode cX9_letter 112 = .ok (.iadd, 1) := by decide +kernel
theorem dX9_letter_113 : decode cX9_letter 113 = .ok (.iastore, 1) := by decide +kernel
theorem dX9_letter_114 : decode cX9_letter 114 = .ok (.aload_n 0, 1) := by decide +kernel
theorem dX9_letter_115 : decode cX9_letter 115 = .ok (.getfield 7, 3) := by decide +kernel
theorem dX9_letter_118 : decode cX9_letter 118 = .ok (.iload 4, 2) := by decide +kernel
theorem dX9_letter_120 : decode cX9_letter 120 = .ok (.iconst 3, 1) := by decide +kernel
theorem dX9_letter_121 : decode cX9_letter 121 = .ok (.iadd, 1) := by decide +kernel
theorem dX9_letter_122 : decode cX9_letter 122 = .ok (.iconst 0, 1) := by decide +kernel
theorem dX9_letter_123 : decode cX9_letter 123 = .ok (.iastore, 1) := by decide +kernel
theorem dX9_letter_124 : decode cX9_letter 124 = .ok (.aload_n 0, 1) := by decide +kernel
theorem dX9_letter_125 : decode cX9_letter 125 = .ok (.getfield 7, 3) := by decide +kernel
theorem dX9_letter_128 : decode cX9_letter 128 = .ok (.iload 4, 2) := by decide +kernel
theorem dX9_letter_130 : decode cX9_letter 130 = .ok (.iconst 4, 1) := by decide +kernel
theorem dX9_letter_131 : decode cX9_letter 131 = .ok (.iadd, 1) := by decide +kernel
theorem dX9_letter_132 : decode cX9_letter 132 = .ok (.iconst 0, 1) := by decide +kernel
theorem dX9_letter_133 : decode cX9_letter 133 = .ok (.iastore, 1) := by decide +kernel
theorem dX9_letter_134 : decode cX9_letter 134 = .ok (.aload_n 0, 1) := by decide +kernel
theorem dX9_letter_135 : decode cX9_letter 135 = .ok (.getfield 7, 3) := by decide +kernel
theorem dX9_letter_138 : decode cX9_letter 138 = .ok (.bipush 8, 2) := by decide +kernel
theorem dX9_letter_140 : decode cX9_letter 140 = .ok (.dup2, 1) := by decide +kernel
theorem dX9_letter_141 : decode cX9_letter 141 = .ok (.iaload, 1) := by decide +kernel
theorem dX9_letter_142 : decode cX9_letter 142 = .ok (.iconst 1, 1) := by decide +kernel
theorem dX9_letter_143 : decode cX9_letter 143 = .ok (.iadd, 1) := by decide +kernel
theorem dX9_letter_144 : decode cX9_letter 144 = .ok (.iastore, 1) := by decide +kernel
theorem dX9_letter_145 : decode cX9_letter 145 = .ok (.aload_n 0, 1) := by decide +kernel
theorem dX9_letter_146 : decode cX9_letter 146 = .ok (.getfield 7, 3) := by decide +kernel
theorem dX9_letter_149 : decode cX9_letter 149 = .ok (.bipush 8, 2) := by decide +kernel
theorem dX9_letter_151 : decode cX9_letter 151 = .ok (.iaload, 1) := by decide +kernel
theorem dX9_letter_152 : decode cX9_letter 152 = .ok (.iconst 1, 1) := by decide +kernel
theorem dX9_letter_153 : decode cX9_letter 153 = .ok (.isub, 1) := by decide +kernel
theorem dX9_letter_154 : decode cX9_letter 154 = .ok (.ireturn, 1) := by decide +kernel
theorem dX9_letterTold_0 : decode cX9_letterTold 0 = .ok (.iload_n 1, 1) := by decide +kernel
theorem dX9_letterTold_1 : decode cX9_letterTold 1 = .ok (.i2l, 1) := by decide +kernel
theorem dX9_letterTold_2 : decode cX9_letterTold 2 = .ok (.lconst 0, 1) := by decide +kernel
theorem dX9_letterTold_3 : decode cX9_letterTold 3 = .ok (.aload_n 0, 1) := by decide +kernel
theorem dX9_letterTold_4 : decode cX9_letterTold 4 = .ok (.getfield 7, 3) := by decide +kernel
theorem dX9_letterTold_7 : decode cX9_letterTold 7 = .ok (.bipush 8, 2) := by decide +kernel
theorem dX9_letterTold_9 : decode cX9_letterTold 9 = .ok (.iaload, 1) := by decide +kernel
theorem dX9_letterTold_10 : decode cX9_letterTold 10 = .ok (.iconst 1, 1) := by decide +kernel
theorem dX9_letterTold_11 : decode cX9_letterTold 11 = .ok (.isub, 1) := by decide +kernel
theorem dX9_letterTold_12 : decode cX9_letterTold 12 = .ok (.i2l, 1) := by decide +kernel
theorem dX9_letterTold_13 : decode cX9_letterTold 13 = .ok (.invokestatic 60, 3) := by decide +kernel
theorem dX9_letterTold_16 : decode cX9_letterTold 16 = .ok (.ifCond .eq 32, 3) := by decide +kernel
theorem dX9_letterTold_19 : decode cX9_letterTold 19 = .ok (.iload_n 2, 1) := by decide +kernel
theorem dX9_letterTold_20 : decode cX9_letterTold 20 = .ok (.i2l, 1) := by decide +kernel
theorem dX9_letterTold_21 : decode cX9_letterTold 21 = .ok (.lconst 0, 1) := by decide +kernel
theorem dX9_letterTold_22 : decode cX9_letterTold 22 = .ok (.ldc2_w 80, 3) := by decide +kernel
theorem dX9_letterTold_25 : decode cX9_letterTold 25 = .ok (.invokestatic 60, 3) := by decide +kernel
theorem dX9_letterTold_28 : decode cX9_letterTold 28 = .ok (.ifCond .eq 20, 3) := by decide +kernel
theorem dX9_letterTold_31 : decode cX9_letterTold 31 = .ok (.aload_n 0, 1) := by decide +kernel
theorem dX9_letterTold_32 : decode cX9_letterTold 32 = .ok (.getfield 7, 3) := by decide +kernel
theorem dX9_letterTold_35 : decode cX9_letterTold 35 = .ok (.sipush 570, 3) := by decide +kernel
theorem dX9_letterTold_38 : decode cX9_letterTold 38 = .ok (.iconst 5, 1) := by decide +kernel
theorem dX9_letterTold_39 : decode cX9_letterTold 39 = .ok (.iload_n 1, 1) := by decide +kernel
theorem dX9_letterTold_40 : decode cX9_letterTold 40 = .ok (.imul, 1) := by decide +kernel
theorem dX9_letterTold_41 : decode cX9_letterTold 41 = .ok (.iadd, 1) := by decide +kernel
theorem dX9_letterTold_42 : decode cX9_letterTold 42 = .ok (.iload_n 2, 1) := by decide +kernel
theorem dX9_letterTold_43 : decode cX9_letterTold 43 = .ok (.iadd, 1) := by decide +kernel
theorem dX9_letterTold_44 : decode cX9_letterTold 44 = .ok (.iaload, 1) := by decide +kernel
theorem dX9_letterTold_45 : decode cX9_letterTold 45 = .ok (.goto 5, 3) := by decide +kernel
theorem dX9_letterTold_48 : decode cX9_letterTold 48 = .ok (.ldc 87, 2) := by decide +kernel
theorem dX9_letterTold_50 : decode cX9_letterTold 50 = .ok (.ireturn, 1) := by decide +kernel
theorem dX9_party_0 : decode cX9_party 0 = .ok (.iload_n 1, 1) := by decide +kernel
theorem dX9_party_1 : decode cX9_party 1 = .ok (.i2l, 1) := by decide +kernel
theorem dX9_party_2 : decode cX9_party 2 = .ok (.lconst 0, 1) := by decide +kernel
theorem dX9_party_3 : decode cX9_party 3 = .ok (.ldc2_w 316, 3) := by decide +kernel
theorem dX9_party_6 : decode cX9_party 6 = .ok (.invokestatic 60, 3) := by decide +kernel
theorem dX9_party_9 : decode cX9_party 9 = .ok (.ifCond .eq 37, 3) := by decide +kernel
theorem dX9_party_12 : decode cX9_party 12 = .ok (.iload_n 2, 1) := by decide +kernel
theorem dX9_party_13 : decode cX9_party 13 = .ok (.i2l, 1) := by decide +kernel
theorem dX9_party_14 : decode cX9_party 14 = .ok (.lconst 0, 1) := by decide +kernel
theorem dX9_party_15 : decode cX9_party 15 = .ok (.ldc2_w 241, 3) := by decide +kernel
theorem dX9_party_18 : decode cX9_party 18 = .ok (.invokestatic 60, 3) := by decide +kernel
theorem dX9_party_21 : decode cX9_party 21 = .ok (.ifCond .eq 25, 3) := by decide +kernel
theorem dX9_party_24 : decode cX9_party 24 = .ok (.iload_n 3, 1) := by decide +kernel
theorem dX9_party_25 : decode cX9_party 25 = .ok (.i2l, 1) := by decide +kernel
theorem dX9_party_26 : decode cX9_party 26 = .ok (.lconst 0, 1) := by decide +kernel
theorem dX9_party_27 : decode cX9_party 27 = .ok (.iload_n 2, 1) := by decide +kernel
theorem dX9_party_28 : decode cX9_party 28 = .ok (.ifCond .ne 9, 3) := by decide +kernel
theorem dX9_party_31 : decode cX9_party 31 = .ok (.ldc2_w 127, 3) := by decide +kernel
theorem dX9_party_34 : decode cX9_party 34 = .ok (.goto 6, 3) := by decide +kernel
theorem dX9_party_37 : decode cX9_party 37 = .ok (.ldc2_w 95, 3) := by decide +kernel
theorem dX9_party_40 : decode cX9_party 40 = .ok (.invokestatic 60, 3) := by decide +kernel
theorem dX9_party_43 : decode cX9_party 43 = .ok (.ifCond .ne 6, 3) := by decide +kernel
theorem dX9_party_46 : decode cX9_party 46 = .ok (.ldc 87, 2) := by decide +kernel
theorem dX9_party_48 : decode cX9_party 48 = .ok (.ireturn, 1) := by decide +kernel
theorem dX9_party_49 : decode cX9_party 49 = .ok (.aload_n 0, 1) := by decide +kernel
theorem dX9_party_50 : decode cX9_party 50 = .ok (.sipush 710, 3) := by decide +kernel
theorem dX9_party_53 : decode cX9_party 53 = .ok (.iconst 3, 1) := by decide +kernel
theorem dX9_party_54 : decode cX9_party 54 = .ok (.iload_n 1, 1) := by decide +kernel
theorem dX9_party_55 : decode cX9_party 55 = .ok (.imul, 1) := by decide +kernel
theorem dX9_party_56 : decode cX9_party 56 = .ok (.iadd, 1) := by decide +kernel
theorem dX9_party_57 : decode cX9_party 57 = .ok (.iload_n 2, 1) := by decide +kernel
theorem dX9_party_58 : decode cX9_party 58 = .ok (.iadd, 1) := by decide +kernel
theorem dX9_party_59 : decode cX9_party 59 = .ok (.iload_n 3, 1) := by decide +kernel
theorem dX9_party_60 : decode cX9_party 60 = .ok (.invokevirtual 107, 3) := by decide +kernel
theorem dX9_party_63 : decode cX9_party 63 = .ok (.ireturn, 1) := by decide +kernel
theorem dX9_votesFor_0 : decode cX9_votesFor 0 = .ok (.iconst 0, 1) := by decide +kernel
theorem dX9_votesFor_1 : decode cX9_votesFor 1 = .ok (.istore_n 2, 1) := by decide +kernel
theorem dX9_votesFor_2 : decode cX9_votesFor 2 = .ok (.iconst 0, 1) := by decide +kernel
theorem dX9_votesFor_3 : decode cX9_votesFor 3 = .ok (.istore_n 3, 1) := by decide +kernel
theorem dX9_votesFor_4 : decode cX9_votesFor 4 = .ok (.iload_n 3, 1) := by decide +kernel
theorem dX9_votesFor_5 : decode cX9_votesFor 5 = .ok (.bipush 7, 2) := by decide +kernel
theorem dX9_votesFor_7 : decode cX9_votesFor 7 = .ok (.if_icmp .ge 62, 3) := by decide +kernel
theorem dX9_votesFor_10 : decode cX9_votesFor 10 = .ok (.sipush 710, 3) := by decide +kernel
theorem dX9_votesFor_13 : decode cX9_votesFor 13 = .ok (.iconst 3, 1) := by decide +kernel
theorem dX9_votesFor_14 : decode cX9_votesFor 14 = .ok (.iload_n 3, 1) := by decide +kernel
theorem dX9_votesFor_15 : decode cX9_votesFor 15 = .ok (.imul, 1) := by decide +kernel
theorem dX9_votesFor_16 : decode cX9_votesFor 16 = .ok (.iadd, 1) := by decide +kernel
theorem dX9_votesFor_17 : decode cX9_votesFor 17 = .ok (.istore 4, 2) := by decide +kernel
theorem dX9_votesFor_19 : decode cX9_votesFor 19 = .ok (.iload_n 2, 1) := by decide +kernel
theorem dX9_votesFor_20 : decode cX9_votesFor 20 = .ok (.aload_n 0, 1) := by decide +kernel
theorem dX9_votesFor_21 : decode cX9_votesFor 21 = .ok (.getfield 7, 3) := by decide +kernel
theorem dX9_votesFor_24 : decode cX9_votesFor 24 = .ok (.iload 4, 2) := by decide +kernel
theorem dX9_votesFor_26 : decode cX9_votesFor 26 = .ok (.iconst 1, 1) := by decide +kernel
theorem dX9_votesFor_27 : decode cX9_votesFor 27 = .ok (.iadd, 1) := by decide +kernel
theorem dX9_votesFor_28 : decode cX9_votesFor 28 = .ok (.iaload, 1) := by decide +kernel
theorem dX9_votesFor_29 : decode cX9_votesFor 29 = .ok (.iload_n 1, 1) := by decide +kernel
theorem dX9_votesFor_30 : decode cX9_votesFor 30 = .ok (.iconst (-1), 1) := by decide +kernel
theorem dX9_votesFor_31 : decode cX9_votesFor 31 = .ok (.ixor, 1) := by decide +kernel
theorem dX9_votesFor_32 : decode cX9_votesFor 32 = .ok (.iand, 1) := by decide +kernel
theorem dX9_votesFor_33 : decode cX9_votesFor 33 = .ok (.ifCond .ne 27, 3) := by decide +kernel
theorem dX9_votesFor_36 : decode cX9_votesFor 36 = .ok (.aload_n 0, 1) := by decide +kernel
theorem dX9_votesFor_37 : decode cX9_votesFor 37 = .ok (.getfield 7, 3) := by decide +kernel
theorem dX9_votesFor_40 : decode cX9_votesFor 40 = .ok (.iload 4, 2) := by decide +kernel
theorem dX9_votesFor_42 : decode cX9_votesFor 42 = .ok (.iconst 2, 1) := by decide +kernel
theorem dX9_votesFor_43 : decode cX9_votesFor 43 = .ok (.iadd, 1) := by decide +kernel
theorem dX9_votesFor_44 : decode cX9_votesFor 44 = .ok (.iaload, 1) := by decide +kernel
theorem dX9_votesFor_45 : decode cX9_votesFor 45 = .ok (.iload_n 1, 1) := by decide +kernel
theorem dX9_votesFor_46 : decode cX9_votesFor 46 = .ok (.iand, 1) := by decide +kernel
theorem dX9_votesFor_47 : decode cX9_votesFor 47 = .ok (.ifCond .ne 13, 3) := by decide +kernel
theorem dX9_votesFor_50 : decode cX9_votesFor 50 = .ok (.aload_n 0, 1) := by decide +kernel
theorem dX9_votesFor_51 : decode cX9_votesFor 51 = .ok (.getfield 7, 3) := by decide +kernel
theorem dX9_votesFor_54 : decode cX9_votesFor 54 = .ok (.iload 4, 2) := by decide +kernel
theorem dX9_votesFor_56 : decode cX9_votesFor 56 = .ok (.iaload, 1) := by decide +kernel
theorem dX9_votesFor_57 : decode cX9_votesFor 57 = .ok (.goto 4, 3) := by decide +kernel
theorem dX9_votesFor_60 : decode cX9_votesFor 60 = .ok (.iconst 0, 1) := by decide +kernel
theorem dX9_votesFor_61 : decode cX9_votesFor 61 = .ok (.iadd, 1) := by decide +kernel
theorem dX9_votesFor_62 : decode cX9_votesFor 62 = .ok (.istore_n 2, 1) := by decide +kernel
theorem dX9_votesFor_63 : decode cX9_votesFor 63 = .ok (.iinc 3 1, 3) := by decide +kernel
theorem dX9_votesFor_66 : decode cX9_votesFor 66 = .ok (.goto (-62), 3) := by decide +kernel
theorem dX9_votesFor_69 : decode cX9_votesFor 69 = .ok (.iload_n 2, 1) := by decide +kernel
theorem dX9_votesFor_70 : decode cX9_votesFor 70 = .ok (.ireturn, 1) := by decide +kernel
theorem dX9_carries_0 : decode cX9_carries 0 = .ok (.iload_n 1, 1) := by decide +kernel
theorem dX9_carries_1 : decode cX9_carries 1 = .ok (.i2l, 1) := by decide +kernel
theorem dX9_carries_2 : decode cX9_carries 2 = .ok (.lconst 1, 1) := by decide +kernel
theorem dX9_carries_3 : decode cX9_carries 3 = .ok (.ldc2_w 104, 3) := by decide +kernel
theorem dX9_carries_6 : decode cX9_carries 6 = .ok (.invokestatic 60, 3) := by decide +kernel
theorem dX9_carries_9 : decode cX9_carries 9 = .ok (.ifCond .ne 6, 3) := by decide +kernel
theorem dX9_carries_12 : decode cX9_carries 12 = .ok (.ldc 87, 2) := by decide +kernel
theorem dX9_carries_14 : decode cX9_carries 14 = .ok (.ireturn, 1) := by decide +kernel
theorem dX9_carries_15 : decode cX9_carries 15 = .ok (.iconst (-1), 1) := by decide +kernel
theorem dX9_carries_16 : decode cX9_carries 16 = .ok (.istore_n 2, 1) := by decide +kernel
theorem dX9_carries_17 : decode cX9_carries 17 = .ok (.iconst 0, 1) := by decide +kernel
theorem dX9_carries_18 : decode cX9_carries 18 = .ok (.istore_n 3, 1) := by decide +kernel
theorem dX9_carries_19 : decode cX9_carries 19 = .ok (.iload_n 3, 1) := by decide +kernel
theorem dX9_carries_20 : decode cX9_carries 20 = .ok (.sipush 256, 3) := by decide +kernel
theorem dX9_carries_23 : decode cX9_carries 23 = .ok (.if_icmp .ge 39, 3) := by decide +kernel
theorem dX9_carries_26 : decode cX9_carries 26 = .ok (.aload_n 0, 1) := by decide +kernel
theorem dX9_carries_27 : decode cX9_carries 27 = .ok (.iload_n 3, 1) := by decide +kernel
theorem dX9_carries_28 : decode cX9_carries 28 = .ok (.invokevirtual 365, 3) := by decide +kernel
theorem dX9_carries_31 : decode cX9_carries 31 = .ok (.iload_n 1, 1) := by decide +kernel
theorem dX9_carries_32 : decode cX9_carries 32 = .ok (.if_icmp .lt 22, 3) := by decide +kernel
theorem dX9_carries_35 : decode cX9_carries 35 = .ok (.iload_n 2, 1) := by decide +kernel
theorem dX9_carries_36 : decode cX9_carries 36 = .ok (.ifCond .lt 14, 3) := by decide +kernel
theorem dX9_carries_39 : decode cX9_carries 39 = .ok (.iload_n 3, 1) := by decide +kernel
theorem dX9_carries_40 : decode cX9_carries 40 = .ok (.invokestatic 323, 3) := by decide +kernel
theorem dX9_carries_43 : decode cX9_carries 43 = .ok (.iload_n 2, 1) := by decide +kernel
theorem dX9_carries_44 : decode cX9_carries 44 = .ok (.invokestatic 323, 3) := by decide +kernel
theorem dX9_carries_47 : decode cX9_carries 47 = .ok (.if_icmp .ge 7, 3) := by decide +kernel
theorem dX9_carries_50 : decode cX9_carries 50 = .ok (.iload_n 3, 1) := by decide +kernel
theorem dX9_carries_51 : decode cX9_carries 51 = .ok (.goto 4, 3) := by decide +kernel
theorem dX9_carries_54 : decode cX9_carries 54 = .ok (.iload_n 2, 1) := by decide +kernel
theorem dX9_carries_55 : decode cX9_carries 55 = .ok (.istore_n 2, 1) := by decide +kernel
theorem dX9_carries_56 : decode cX9_carries 56 = .ok (.iinc 3 1, 3) := by decide +kernel
theorem dX9_carries_59 : decode cX9_carries 59 = .ok (.goto (-40), 3) := by decide +kernel
theorem dX9_carries_62 : decode cX9_carries 62 = .ok (.iload_n 2, 1) := by decide +kernel
theorem dX9_carries_63 : decode cX9_carries 63 = .ok (.invokestatic 119, 3) := by decide +kernel
theorem dX9_carries_66 : decode cX9_carries 66 = .ok (.ireturn, 1) := by decide +kernel
theorem dX9_wayAt_0 : decode cX9_wayAt 0 = .ok (.sipush 740, 3) := by decide +kernel
theorem dX9_wayAt_3 : decode cX9_wayAt 3 = .ok (.bipush 6, 2) := by decide +kernel
theorem dX9_wayAt_5 : decode cX9_wayAt 5 = .ok (.iload_n 0, 1) := by decide +kernel
theorem dX9_wayAt_6 : decode cX9_wayAt 6 = .ok (.imul, 1) := by decide +kernel
theorem dX9_wayAt_7 : decode cX9_wayAt 7 = .ok (.iadd, 1) := by decide +kernel
theorem dX9_wayAt_8 : decode cX9_wayAt 8 = .ok (.iconst 2, 1) := by decide +kernel
theorem dX9_wayAt_9 : decode cX9_wayAt 9 = .ok (.iload_n 1, 1) := by decide +kernel
theorem dX9_wayAt_10 : decode cX9_wayAt 10 = .ok (.imul, 1) := by decide +kernel
theorem dX9_wayAt_11 : decode cX9_wayAt 11 = .ok (.iadd, 1) := by decide +kernel
theorem dX9_wayAt_12 : decode cX9_wayAt 12 = .ok (.ireturn, 1) := by decide +kernel
theorem dX9_way_0 : decode cX9_way 0 = .ok (.iload_n 1, 1) := by decide +kernel
theorem dX9_way_1 : decode cX9_way 1 = .ok (.i2l, 1) := by decide +kernel
theorem dX9_way_2 : decode cX9_way 2 = .ok (.lconst 0, 1) := by decide +kernel
theorem dX9_way_3 : decode cX9_way 3 = .ok (.ldc2_w 64, 3) := by decide +kernel
theorem dX9_way_6 : decode cX9_way 6 = .ok (.invokestatic 60, 3) := by decide +kernel
theorem dX9_way_9 : decode cX9_way 9 = .ok (.ifCond .eq 54, 3) := by decide +kernel
theorem dX9_way_12 : decode cX9_way 12 = .ok (.iload_n 2, 1) := by decide +kernel
theorem dX9_way_13 : decode cX9_way 13 = .ok (.i2l, 1) := by decide +kernel
theorem dX9_way_14 : decode cX9_way 14 = .ok (.lconst 0, 1) := by decide +kernel
theorem dX9_way_15 : decode cX9_way 15 = .ok (.ldc2_w 241, 3) := by decide +kernel
theorem dX9_way_18 : decode cX9_way 18 = .ok (.invokestatic 60, 3) := by decide +kernel
theorem dX9_way_21 : decode cX9_way 21 = .ok (.ifCond .eq 42, 3) := by decide +kernel
theorem dX9_way_24 : decode cX9_way 24 = .ok (.iload_n 3, 1) := by decide +kernel
theorem dX9_way_25 : decode cX9_way 25 = .ok (.i2l, 1) := by decide +kernel
theorem dX9_way_26 : decode cX9_way 26 = .ok (.lconst 0, 1) := by decide +kernel
theorem dX9_way_27 : decode cX9_way 27 = .ok (.lconst 1, 1) := by decide +kernel
theorem dX9_way_28 : decode cX9_way 28 = .ok (.invokestatic 60, 3) := by decide +kernel
theorem dX9_way_31 : decode cX9_way 31 = .ok (.ifCond .eq 32, 3) := by decide +kernel
theorem dX9_way_34 : decode cX9_way 34 = .ok (.iload 4, 2) := by decide +kernel
theorem dX9_way_36 : decode cX9_way 36 = .ok (.i2l, 1) := by decide +kernel
theorem dX9_way_37 : decode cX9_way 37 = .ok (.lconst 0, 1) := by decide +kernel
theorem dX9_way_38 : decode cX9_way 38 = .ok (.ldc2_w 127, 3) := by decide +kernel
theorem dX9_way_41 : decode cX9_way 41 = .ok (.invokestatic 60, 3) := by decide +kernel
theorem dX9_way_44 : decode cX9_way 44 = .ok (.ifCond .eq 19, 3) := by decide +kernel
theorem dX9_way_47 : decode cX9_way 47 = .ok (.aload_n 0, 1) := by decide +kernel
theorem dX9_way_48 : decode cX9_way 48 = .ok (.iload_n 1, 1) := by decide +kernel
theorem dX9_way_49 : decode cX9_way 49 = .ok (.iload_n 2, 1) := by decide +kernel
theorem dX9_way_50 : decode cX9_way 50 = .ok (.invokestatic 368, 3) := by decide +kernel
theorem dX9_way_53 : decode cX9_way 53 = .ok (.iload_n 3, 1) := by decide +kernel
theorem dX9_way_54 : decode cX9_way 54 = .ok (.iadd, 1) := by decide +kernel
theorem dX9_way_55 : decode cX9_way 55 = .ok (.iload 4, 2) := by decide +kernel
theorem dX9_way_57 : decode cX9_way 57 = .ok (.invokevirtual 107, 3) := by decide +kernel
theorem dX9_way_60 : decode cX9_way 60 = .ok (.goto 5, 3) := by decide +kernel
theorem dX9_way_63 : decode cX9_way 63 = .ok (.ldc 87, 2) := by decide +kernel
theorem dX9_way_65 : decode cX9_way 65 = .ok (.ireturn, 1) := by decide +kernel
theorem dX9_sumOf_0 : decode cX9_sumOf 0 = .ok (.iconst 0, 1) := by decide +kernel
theorem dX9_sumOf_1 : decode cX9_sumOf 1 = .ok (.istore 4, 2) := by decide +kernel
theorem dX9_sumOf_3 : decode cX9_sumOf 3 = .ok (.iload_n 1, 1) := by decide +kernel
theorem dX9_sumOf_4 : decode cX9_sumOf 4 = .ok (.istore 5, 2) := by decide +kernel
theorem dX9_sumOf_6 : decode cX9_sumOf 6 = .ok (.iload_n 2, 1) := by decide +kernel
theorem dX9_sumOf_7 : decode cX9_sumOf 7 = .ok (.iconst 1, 1) := by decide +kernel
theorem dX9_sumOf_8 : decode cX9_sumOf 8 = .ok (.isub, 1) := by decide +kernel
theorem dX9_sumOf_9 : decode cX9_sumOf 9 = .ok (.istore 6, 2) := by decide +kernel
theorem dX9_sumOf_11 : decode cX9_sumOf 11 = .ok (.iload 6, 2) := by decide +kernel
theorem dX9_sumOf_13 : decode cX9_sumOf 13 = .ok (.ifCond .lt 36, 3) := by decide +kernel
theorem dX9_sumOf_16 : decode cX9_sumOf 16 = .ok (.iload 4, 2) := by decide +kernel
theorem dX9_sumOf_18 : decode cX9_sumOf 18 = .ok (.aload_n 0, 1) := by decide +kernel
theorem dX9_sumOf_19 : decode cX9_sumOf 19 = .ok (.getfield 7, 3) := by decide +kernel
theorem dX9_sumOf_22 : decode cX9_sumOf 22 = .ok (.iload 6, 2) := by decide +kernel
theorem dX9_sumOf_24 : decode cX9_sumOf 24 = .ok (.iload 5, 2) := by decide +kernel
theorem dX9_sumOf_26 : decode cX9_sumOf 26 = .ok (.iconst 3, 1) := by decide +kernel
theorem dX9_sumOf_27 : decode cX9_sumOf 27 = .ok (.irem, 1) := by decide +kernel
theorem dX9_sumOf_28 : decode cX9_sumOf 28 = .ok (.invokestatic 368, 3) := by decide +kernel
theorem dX9_sumOf_31 : decode cX9_sumOf 31 = .ok (.iload_n 3, 1) := by decide +kernel
theorem dX9_sumOf_32 : decode cX9_sumOf 32 = .ok (.iadd, 1) := by decide +kernel
theorem dX9_sumOf_33 : decode cX9_sumOf 33 = .ok (.iaload, 1) := by decide +kernel
theorem dX9_sumOf_34 : decode cX9_sumOf 34 = .ok (.iadd, 1) := by decide +kernel
theorem dX9_sumOf_35 : decode cX9_sumOf 35 = .ok (.istore 4, 2) := by decide +kernel
theorem dX9_sumOf_37 : decode cX9_sumOf 37 = .ok (.iload 5, 2) := by decide +kernel
theorem dX9_sumOf_39 : decode cX9_sumOf 39 = .ok (.iconst 3, 1) := by decide +kernel
theorem dX9_sumOf_40 : decode cX9_sumOf 40 = .ok (.idiv, 1) := by decide +kernel
theorem dX9_sumOf_41 : decode cX9_sumOf 41 = .ok (.istore 5, 2) := by decide +kernel
theorem dX9_sumOf_43 : decode cX9_sumOf 43 = .ok (.iinc 6 (-1), 3) := by decide +kernel
theorem dX9_sumOf_46 : decode cX9_sumOf 46 = .ok (.goto (-35), 3) := by decide +kernel
theorem dX9_sumOf_49 : decode cX9_sumOf 49 = .ok (.iload 4, 2) := by decide +kernel
theorem dX9_sumOf_51 : decode cX9_sumOf 51 = .ok (.ireturn, 1) := by decide +kernel
theorem dX9_plan_0 : decode cX9_plan 0 = .ok (.iload_n 1, 1) := by decide +kernel
theorem dX9_plan_1 : decode cX9_plan 1 = .ok (.i2l, 1) := by decide +kernel
theorem dX9_plan_2 : decode cX9_plan 2 = .ok (.lconst 1, 1) := by decide +kernel
theorem dX9_plan_3 : decode cX9_plan 3 = .ok (.ldc2_w 316, 3) := by decide +kernel
theorem dX9_plan_6 : decode cX9_plan 6 = .ok (.invokestatic 60, 3) := by decide +kernel
theorem dX9_plan_9 : decode cX9_plan 9 = .ok (.ifCond .eq 27, 3) := by decide +kernel
theorem dX9_plan_12 : decode cX9_plan 12 = .ok (.iload_n 2, 1) := by decide +kernel
theorem dX9_plan_13 : decode cX9_plan 13 = .ok (.i2l, 1) := by decide +kernel
theorem dX9_plan_14 : decode cX9_plan 14 = .ok (.lconst 0, 1) := by decide +kernel
theorem dX9_plan_15 : decode cX9_plan 15 = .ok (.ldc2_w 104, 3) := by decide +kernel
theorem dX9_plan_18 : decode cX9_plan 18 = .ok (.invokestatic 60, 3) := by decide +kernel
theorem dX9_plan_21 : decode cX9_plan 21 = .ok (.ifCond .eq 15, 3) := by decide +kernel
theorem dX9_plan_24 : decode cX9_plan 24 = .ok (.iload_n 3, 1) := by decide +kernel
theorem dX9_plan_25 : decode cX9_plan 25 = .ok (.i2l, 1) := by decide +kernel
theorem dX9_plan_26 : decode cX9_plan 26 = .ok (.lconst 0, 1) := by decide +kernel
theorem dX9_plan_27 : decode cX9_plan 27 = .ok (.ldc2_w 241, 3) := by decide +kernel
theorem dX9_plan_30 : decode cX9_plan 30 = .ok (.invokestatic 60, 3) := by decide +kernel
theorem dX9_plan_33 : decode cX9_plan 33 = .ok (.ifCond .ne 6, 3) := by decide +kernel
theorem dX9_plan_36 : decode cX9_plan 36 = .ok (.ldc 87, 2) := by decide +kernel
theorem dX9_plan_38 : decode cX9_plan 38 = .ok (.ireturn, 1) := by decide +kernel
theorem dX9_plan_39 : decode cX9_plan 39 = .ok (.iconst 1, 1) := by decide +kernel
theorem dX9_plan_40 : decode cX9_plan 40 = .ok (.istore 4, 2) := by decide +kernel
theorem dX9_plan_42 : decode cX9_plan 42 = .ok (.iconst 0, 1) := by decide +kernel
theorem dX9_plan_43 : decode cX9_plan 43 = .ok (.istore 5, 2) := by decide +kernel
theorem dX9_plan_45 : decode cX9_plan 45 = .ok (.iload 5, 2) := by decide +kernel
theorem dX9_plan_47 : decode cX9_plan 47 = .ok (.iload_n 1, 1) := by decide +kernel
theorem dX9_plan_48 : decode cX9_plan 48 = .ok (.if_icmp .ge 15, 3) := by decide +kernel
theorem dX9_plan_51 : decode cX9_plan 51 = .ok (.iload 4, 2) := by decide +kernel
theorem dX9_plan_53 : decode cX9_plan 53 = .ok (.iconst 3, 1) := by decide +kernel
theorem dX9_plan_54 : decode cX9_plan 54 = .ok (.imul, 1) := by decide +kernel
theorem dX9_plan_55 : decode cX9_plan 55 = .ok (.istore 4, 2) := by decide +kernel
theorem dX9_plan_57 : decode cX9_plan 57 = .ok (.iinc 5 1, 3) := by decide +kernel
theorem dX9_plan_60 : decode cX9_plan 60 = .ok (.goto (-15), 3) := by decide +kernel
theorem dX9_plan_63 : decode cX9_plan 63 = .ok (.iconst (-1), 1) := by decide +kernel
theorem dX9_plan_64 : decode cX9_plan 64 = .ok (.istore 5, 2) := by decide +kernel
theorem dX9_plan_66 : decode cX9_plan 66 = .ok (.iconst 0, 1) := by decide +kernel
theorem dX9_plan_67 : decode cX9_plan 67 = .ok (.istore 6, 2) := by decide +kernel
theorem dX9_plan_69 : decode cX9_plan 69 = .ok (.iload 6, 2) := by decide +kernel
theorem dX9_plan_71 : decode cX9_plan 71 = .ok (.iload 4, 2) := by decide +kernel
theorem dX9_plan_73 : decode cX9_plan 73 = .ok (.if_icmp .ge 49, 3) := by decide +kernel
theorem dX9_plan_76 : decode cX9_plan 76 = .ok (.aload_n 0, 1) := by decide +kernel
theorem dX9_plan_77 : decode cX9_plan 77 = .ok (.iload 6, 2) := by decide +kernel
theorem dX9_plan_79 : decode cX9_plan 79 = .ok (.iload_n 1, 1) := by decide +kernel
theorem dX9_plan_80 : decode cX9_plan 80 = .ok (.iconst 1, 1) := by decide +kernel
theorem dX9_plan_81 : decode cX9_plan 81 = .ok (.invokevirtual 371, 3) := by decide +kernel
theorem dX9_plan_84 : decode cX9_plan 84 = .ok (.iload_n 2, 1) := by decide +kernel
theorem dX9_plan_85 : decode cX9_plan 85 = .ok (.if_icmp .gt 31, 3) := by decide +kernel
theorem dX9_plan_88 : decode cX9_plan 88 = .ok (.iload 5, 2) := by decide +kernel
theorem dX9_plan_90 : decode cX9_plan 90 = .ok (.ifCond .lt 22, 3) := by decide +kernel
theorem dX9_plan_93 : decode cX9_plan 93 = .ok (.aload_n 0, 1) := by decide +kernel
theorem dX9_plan_94 : decode cX9_plan 94 = .ok (.iload 6, 2) := by decide +kernel
theorem dX9_plan_96 : decode cX9_plan 96 = .ok (.iload_n 1, 1) := by decide +kernel
theorem dX9_plan_97 : decode cX9_plan 97 = .ok (.iconst 0, 1) := by decide +kernel
theorem dX9_plan_98 : decode cX9_plan 98 = .ok (.invokevirtual 371, 3) := by decide +kernel
theorem dX9_plan_101 : decode cX9_plan 101 = .ok (.aload_n 0, 1) := by decide +kernel
theorem dX9_plan_102 : decode cX9_plan 102 = .ok (.iload 5, 2) := by decide +kernel
theorem dX9_plan_104 : decode cX9_plan 104 = .ok (.iload_n 1, 1) := by decide +kernel
theorem dX9_plan_105 : decode cX9_plan 105 = .ok (.iconst 0, 1) := by decide +kernel
theorem dX9_plan_106 : decode cX9_plan 106 = .ok (.invokevirtual 371, 3) := by decide +kernel
theorem dX9_plan_109 : decode cX9_plan 109 = .ok (.if_icmp .ge 7, 3) := by decide +kernel
theorem dX9_plan_112 : decode cX9_plan 112 = .ok (.iload 6, 2) := by decide +kernel
theorem dX9_plan_114 : decode cX9_plan 114 = .ok (.istore 5, 2) := by decide +kernel
theorem dX9_plan_116 : decode cX9_plan 116 = .ok (.iinc 6 1, 3) := by decide +kernel
theorem dX9_plan_119 : decode cX9_plan 119 = .ok (.goto (-50), 3) := by decide +kernel
theorem dX9_plan_122 : decode cX9_plan 122 = .ok (.iload 5, 2) := by decide +kernel
theorem dX9_plan_124 : decode cX9_plan 124 = .ok (.ifCond .ge 8, 3) := by decide +kernel
theorem dX9_plan_127 : decode cX9_plan 127 = .ok (.ldc 59, 2) := by decide +kernel
theorem dX9_plan_129 : decode cX9_plan 129 = .ok (.goto 21, 3) := by decide +kernel
theorem dX9_plan_132 : decode cX9_plan 132 = .ok (.iload_n 3, 1) := by decide +kernel
theorem dX9_plan_133 : decode cX9_plan 133 = .ok (.iconst 2, 1) := by decide +kernel
theorem dX9_plan_134 : decode cX9_plan 134 = .ok (.if_icmp .ne 8, 3) := by decide +kernel
theorem dX9_plan_137 : decode cX9_plan 137 = .ok (.iload 5, 2) := by decide +kernel
theorem dX9_plan_139 : decode cX9_plan 139 = .ok (.goto 11, 3) := by decide +kernel
theorem dX9_plan_142 : decode cX9_plan 142 = .ok (.aload_n 0, 1) := by decide +kernel
theorem dX9_plan_143 : decode cX9_plan 143 = .ok (.iload 5, 2) := by decide +kernel
theorem dX9_plan_145 : decode cX9_plan 145 = .ok (.iload_n 1, 1) := by decide +kernel
theorem dX9_plan_146 : decode cX9_plan 146 = .ok (.iload_n 3, 1) := by decide +kernel
theorem dX9_plan_147 : decode cX9_plan 147 = .ok (.invokevirtual 371, 3) := by decide +kernel
theorem dX9_plan_150 : decode cX9_plan 150 = .ok (.ireturn, 1) := by decide +kernel
theorem dX9_isMuster_0 : decode cX9_isMuster 0 = .ok (.iload_n 0, 1) := by decide +kernel
theorem dX9_isMuster_1 : decode cX9_isMuster 1 = .ok (.i2l, 1) := by decide +kernel
theorem dX9_isMuster_2 : decode cX9_isMuster 2 = .ok (.lconst 0, 1) := by decide +kernel
theorem dX9_isMuster_3 : decode cX9_isMuster 3 = .ok (.ldc2_w 260, 3) := by decide +kernel
theorem dX9_isMuster_6 : decode cX9_isMuster 6 = .ok (.invokestatic 60, 3) := by decide +kernel
theorem dX9_isMuster_9 : decode cX9_isMuster 9 = .ok (.ireturn, 1) := by decide +kernel
theorem dX9_muster_0 : decode cX9_muster 0 = .ok (.iload_n 1, 1) := by decide +kernel
theorem dX9_muster_1 : decode cX9_muster 1 = .ok (.invokestatic 374, 3) := by decide +kernel
theorem dX9_muster_4 : decode cX9_muster 4 = .ok (.ifCond .eq 25, 3) := by decide +kernel
theorem dX9_muster_7 : decode cX9_muster 7 = .ok (.iload_n 2, 1) := by decide +kernel
theorem dX9_muster_8 : decode cX9_muster 8 = .ok (.i2l, 1) := by decide +kernel
theorem dX9_muster_9 : decode cX9_muster 9 = .ok (.ldc2_w 377, 3) := by decide +kernel
theorem dX9_muster_12 : decode cX9_muster 12 = .ok (.lconst 1, 1) := by decide +kernel
theorem dX9_muster_13 : decode cX9_muster 13 = .ok (.invokestatic 60, 3) := by decide +kernel
theorem dX9_muster_16 : decode cX9_muster 16 = .ok (.ifCond .eq 13, 3) := by decide +kernel
theorem dX9_muster_19 : decode cX9_muster 19 = .ok (.iload_n 2, 1) := by decide +kernel
theorem dX9_muster_20 : decode cX9_muster 20 = .ok (.ifCond .lt 12, 3) := by decide +kernel
theorem dX9_muster_23 : decode cX9_muster 23 = .ok (.iload_n 3, 1) := by decide +kernel
theorem dX9_muster_24 : decode cX9_muster 24 = .ok (.bipush 24, 2) := by decide +kernel
theorem dX9_muster_26 : decode cX9_muster 26 = .ok (.if_icmp .le 6, 3) := by decide +kernel
theorem dX9_muster_29 : decode cX9_muster 29 = .ok (.ldc 87, 2) := by decide +kernel
theorem dX9_muster_31 : decode cX9_muster 31 = .ok (.ireturn, 1) := by decide +kernel
theorem dX9_muster_32 : decode cX9_muster 32 = .ok (.iload_n 2, 1) := by decide +kernel
theorem dX9_muster_33 : decode cX9_muster 33 = .ok (.ifCond .lt 11, 3) := by decide +kernel
theorem dX9_muster_36 : decode cX9_muster 36 = .ok (.iload_n 3, 1) := by decide +kernel
theorem dX9_muster_37 : decode cX9_muster 37 = .ok (.ifCond .ge 7, 3) := by decide +kernel
theorem dX9_muster_40 : decode cX9_muster 40 = .ok (.ldc_w 379, 3) := by decide +kernel
theorem dX9_muster_43 : decode cX9_muster 43 = .ok (.ireturn, 1) := by decide +kernel
theorem dX9_muster_44 : decode cX9_muster 44 = .ok (.aload_n 0, 1) := by decide +kernel
theorem dX9_muster_45 : decode cX9_muster 45 = .ok (.getfield 19, 3) := by decide +kernel
theorem dX9_muster_48 : decode cX9_muster 48 = .ok (.iload_n 1, 1) := by decide +kernel
theorem dX9_muster_49 : decode cX9_muster 49 = .ok (.iload_n 2, 1) := by decide +kernel
theorem dX9_muster_50 : decode cX9_muster 50 = .ok (.iastore, 1) := by decide +kernel
theorem dX9_muster_51 : decode cX9_muster 51 = .ok (.aload_n 0, 1) := by decide +kernel
theorem dX9_muster_52 : decode cX9_muster 52 = .ok (.getfield 22, 3) := by decide +kernel
theorem dX9_muster_55 : decode cX9_muster 55 = .ok (.iload_n 1, 1) := by decide +kernel
theorem dX9_muster_56 : decode cX9_muster 56 = .ok (.iload_n 2, 1) := by decide +kernel
theorem dX9_muster_57 : decode cX9_muster 57 = .ok (.ifCond .ge 7, 3) := by decide +kernel
theorem dX9_muster_60 : decode cX9_muster 60 = .ok (.iconst 0, 1) := by decide +kernel
theorem dX9_muster_61 : decode cX9_muster 61 = .ok (.goto 4, 3) := by decide +kernel
theorem dX9_muster_64 : decode cX9_muster 64 = .ok (.iload_n 3, 1) := by decide +kernel
theorem dX9_muster_65 : decode cX9_muster 65 = .ok (.iastore, 1) := by decide +kernel
theorem dX9_muster_66 : decode cX9_muster 66 = .ok (.iconst 0, 1) := by decide +kernel
theorem dX9_muster_67 : decode cX9_muster 67 = .ok (.istore 4, 2) := by decide +kernel
theorem dX9_muster_69 : decode cX9_muster 69 = .ok (.iload 4, 2) := by decide +kernel
theorem dX9_muster_71 : decode cX9_muster 71 = .ok (.bipush 24, 2) := by decide +kernel
theorem dX9_muster_73 : decode cX9_muster 73 = .ok (.if_icmp .ge 22, 3) := by decide +kernel
theorem dX9_muster_76 : decode cX9_muster 76 = .ok (.aload_n 0, 1) := by decide +kernel
theorem dX9_muster_77 : decode cX9_muster 77 = .ok (.getfield 25, 3) := by decide +kernel
theorem dX9_muster_80 : decode cX9_muster 80 = .ok (.bipush 24, 2) := by decide +kernel
theorem dX9_muster_82 : decode cX9_muster 82 = .ok (.iload_n 1, 1) := by decide +kernel
theorem dX9_muster_83 : decode cX9_muster 83 = .ok (.imul, 1) := by decide +kernel
theorem dX9_muster_84 : decode cX9_muster 84 = .ok (.iload 4, 2) := by decide +kernel
theorem dX9_muster_86 : decode cX9_muster 86 = .ok (.iadd, 1) := by decide +kernel
theorem dX9_muster_87 : decode cX9_muster 87 = .ok (.iconst 0, 1) := by decide +kernel
theorem dX9_muster_88 : decode cX9_muster 88 = .ok (.iastore, 1) := by decide +kernel
theorem dX9_muster_89 : decode cX9_muster 89 = .ok (.iinc 4 1, 3) := by decide +kernel
theorem dX9_muster_92 : decode cX9_muster 92 = .ok (.goto (-23), 3) := by decide +kernel
theorem dX9_muster_95 : decode cX9_muster 95 = .ok (.aload_n 0, 1) := by decide +kernel
theorem dX9_muster_96 : decode cX9_muster 96 = .ok (.getfield 22, 3) := by decide +kernel
theorem dX9_muster_99 : decode cX9_muster 99 = .ok (.iload_n 1, 1) := by decide +kernel
theorem dX9_muster_100 : decode cX9_muster 100 = .ok (.iaload, 1) := by decide +kernel
theorem dX9_muster_101 : decode cX9_muster 101 = .ok (.ireturn, 1) := by decide +kernel
theorem dX9_lacks_0 : decode cX9_lacks 0 = .ok (.iload_n 1, 1) := by decide +kernel
theorem dX9_lacks_1 : decode cX9_lacks 1 = .ok (.invokestatic 374, 3) := by decide +kernel
theorem dX9_lacks_4 : decode cX9_lacks 4 = .ok (.ifCond .ne 6, 3) := by decide +kernel
theorem dX9_lacks_7 : decode cX9_lacks 7 = .ok (.ldc 87, 2) := by decide +kernel
theorem dX9_lacks_9 : decode cX9_lacks 9 = .ok (.ireturn, 1) := by decide +kernel
theorem dX9_lacks_10 : decode cX9_lacks 10 = .ok (.aload_n 0, 1) := by decide +kernel
theorem dX9_lacks_11 : decode cX9_lacks 11 = .ok (.getfield 19, 3) := by decide +kernel
theorem dX9_lacks_14 : decode cX9_lacks 14 = .ok (.iload_n 1, 1) := by decide +kernel
theorem dX9_lacks_15 : decode cX9_lacks 15 = .ok (.iaload, 1) := by decide +kernel
theorem dX9_lacks_16 : decode cX9_lacks 16 = .ok (.ifCond .ge 9, 3) := by decide +kernel
theorem dX9_lacks_19 : decode cX9_lacks 19 = .ok (.ldc_w 380, 3) := by decide +kernel
theorem dX9_lacks_22 : decode cX9_lacks 22 = .ok (.goto 28, 3) := by decide +kernel
theorem dX9_lacks_25 : decode cX9_lacks 25 = .ok (.iload_n 2, 1) := by decide +kernel
theorem dX9_lacks_26 : decode cX9_lacks 26 = .ok (.i2l, 1) := by decide +kernel
theorem dX9_lacks_27 : decode cX9_lacks 27 = .ok (.lconst 0, 1) := by decide +kernel
theorem dX9_lacks_28 : decode cX9_lacks 28 = .ok (.aload_n 0, 1) := by decide +kernel
theorem dX9_lacks_29 : decode cX9_lacks 29 = .ok (.getfield 22, 3) := by decide +kernel
theorem dX9_lacks_32 : decode cX9_lacks 32 = .ok (.iload_n 1, 1) := by decide +kernel
theorem dX9_lacks_33 : decode cX9_lacks 33 = .ok (.iaload, 1) := by decide +kernel
theorem dX9_lacks_34 : decode cX9_lacks 34 = .ok (.iconst 1, 1) := by decide +kernel
theorem dX9_lacks_35 : decode cX9_lacks 35 = .ok (.isub, 1) := by decide +kernel
theorem dX9_lacks_36 : decode cX9_lacks 36 = .ok (.i2l, 1) := by decide +kernel
theorem dX9_lacks_37 : decode cX9_lacks 37 = .ok (.invokestatic 60, 3) := by decide +kernel
theorem dX9_lacks_40 : decode cX9_lacks 40 = .ok (.ifCond .eq 7, 3) := by decide +kernel
theorem dX9_lacks_43 : decode cX9_lacks 43 = .ok (.iconst 0, 1) := by decide +kernel
theorem dX9_lacks_44 : decode cX9_lacks 44 = .ok (.goto 6, 3) := by decide +kernel
theorem dX9_lacks_47 : decode cX9_lacks 47 = .ok (.ldc_w 381, 3) := by decide +kernel
theorem dX9_lacks_50 : decode cX9_lacks 50 = .ok (.ireturn, 1) := by decide +kernel
theorem dX9_put_0 : decode cX9_put 0 = .ok (.aload_n 0, 1) := by decide +kernel
theorem dX9_put_1 : decode cX9_put 1 = .ok (.iload_n 1, 1) := by decide +kernel
theorem dX9_put_2 : decode cX9_put 2 = .ok (.iload_n 2, 1) := by decide +kernel
theorem dX9_put_3 : decode cX9_put 3 = .ok (.invokevirtual 382, 3) := by decide +kernel
theorem dX9_put_6 : decode cX9_put 6 = .ok (.istore 4, 2) := by decide +kernel
theorem dX9_put_8 : decode cX9_put 8 = .ok (.iload 4, 2) := by decide +kernel
theorem dX9_put_10 : decode cX9_put 10 = .ok (.ifCond .eq 6, 3) := by decide +kernel
theorem dX9_put_13 : decode cX9_put 13 = .ok (.iload 4, 2) := by decide +kernel
theorem dX9_put_15 : decode cX9_put 15 = .ok (.ireturn, 1) := by decide +kernel
theorem dX9_put_16 : decode cX9_put 16 = .ok (.aload_n 0, 1) := by decide +kernel
theorem dX9_put_17 : decode cX9_put 17 = .ok (.getfield 25, 3) := by decide +kernel
theorem dX9_put_20 : decode cX9_put 20 = .ok (.bipush 24, 2) := by decide +kernel
theorem dX9_put_22 : decode cX9_put 22 = .ok (.iload_n 1, 1) := by decide +kernel
theorem dX9_put_23 : decode cX9_put 23 = .ok (.imul, 1) := by decide +kernel
theorem dX9_put_24 : decode cX9_put 24 = .ok (.iload_n 2, 1) := by decide +kernel
theorem dX9_put_25 : decode cX9_put 25 = .ok (.iadd, 1) := by decide +kernel
theorem dX9_put_26 : decode cX9_put 26 = .ok (.aload_n 0, 1) := by decide +kernel
theorem dX9_put_27 : decode cX9_put 27 = .ok (.getfield 19, 3) := by decide +kernel
theorem dX9_put_30 : decode cX9_put 30 = .ok (.iload_n 1, 1) := by decide +kernel
theorem dX9_put_31 : decode cX9_put 31 = .ok (.iaload, 1) := by decide +kernel
theorem dX9_put_32 : decode cX9_put 32 = .ok (.ifCond .ne 13, 3) := by decide +kernel
theorem dX9_put_35 : decode cX9_put 35 = .ok (.iload_n 3, 1) := by decide +kernel
theorem dX9_put_36 : decode cX9_put 36 = .ok (.bipush 24, 2) := by decide +kernel
theorem dX9_put_38 : decode cX9_put 38 = .ok (.ishl, 1) := by decide +kernel
theorem dX9_put_39 : decode cX9_put 39 = .ok (.bipush 24, 2) := by decide +kernel
theorem dX9_put_41 : decode cX9_put 41 = .ok (.ishr, 1) := by decide +kernel
theorem dX9_put_42 : decode cX9_put 42 = .ok (.goto 10, 3) := by decide +kernel
theorem dX9_put_45 : decode cX9_put 45 = .ok (.iload_n 3, 1) := by decide +kernel
theorem dX9_put_46 : decode cX9_put 46 = .ok (.bipush 16, 2) := by decide +kernel
theorem dX9_put_48 : decode cX9_put 48 = .ok (.ishl, 1) := by decide +kernel
theorem dX9_put_49 : decode cX9_put 49 = .ok (.bipush 16, 2) := by decide +kernel
theorem dX9_put_51 : decode cX9_put 51 = .ok (.ishr, 1) := by decide +kernel
theorem dX9_put_52 : decode cX9_put 52 = .ok (.iastore, 1) := by decide +kernel
theorem dX9_put_53 : decode cX9_put 53 = .ok (.iconst 1, 1) := by decide +kernel
theorem dX9_put_54 : decode cX9_put 54 = .ok (.ireturn, 1) := by decide +kernel
theorem dX9_isMustered_0 : decode cX9_isMustered 0 = .ok (.aload_n 0, 1) := by decide +kernel
theorem dX9_isMustered_1 : decode cX9_isMustered 1 = .ok (.iload_n 1, 1) := by decide +kernel
theorem dX9_isMustered_2 : decode cX9_isMustered 2 = .ok (.iload_n 2, 1) := by decide +kernel
theorem dX9_isMustered_3 : decode cX9_isMustered 3 = .ok (.invokevirtual 382, 3) := by decide +kernel
theorem dX9_isMustered_6 : decode cX9_isMustered 6 = .ok (.ifCond .ne 38, 3) := by decide +kernel
theorem dX9_isMustered_9 : decode cX9_isMustered 9 = .ok (.aload_n 0, 1) := by decide +kernel
theorem dX9_isMustered_10 : decode cX9_isMustered 10 = .ok (.getfield 25, 3) := by decide +kernel
theorem dX9_isMustered_13 : decode cX9_isMustered 13 = .ok (.bipush 24, 2) := by decide +kernel
theorem dX9_isMustered_15 : decode cX9_isMustered 15 = .ok (.iload_n 1, 1) := by decide +kernel
theorem dX9_isMustered_16 : decode cX9_isMustered 16 = .ok (.imul, 1) := by decide +kernel
theorem dX9_isMustered_17 : decode cX9_isMustered 17 = .ok (.iload_n 2, 1) := by decide +kernel
theorem dX9_isMustered_18 : decode cX9_isMustered 18 = .ok (.iadd, 1) := by decide +kernel
theorem dX9_isMustered_19 : decode cX9_isMustered 19 = .ok (.iaload, 1) := by decide +kernel
theorem dX9_isMustered_20 : decode cX9_isMustered 20 = .ok (.aload_n 0, 1) := by decide +kernel
theorem dX9_isMustered_21 : decode cX9_isMustered 21 = .ok (.getfield 19, 3) := by decide +kernel
theorem dX9_isMustered_24 : decode cX9_isMustered 24 = .ok (.iload_n 1, 1) := by decide +kernel
theorem dX9_isMustered_25 : decode cX9_isMustered 25 = .ok (.iaload, 1) := by decide +kernel
theorem dX9_isMustered_26 : decode cX9_isMustered 26 = .ok (.ifCond .ne 8, 3) := by decide +kernel
theorem dX9_isMustered_29 : decode cX9_isMustered 29 = .ok (.bipush (-128), 2) := by decide +kernel
theorem dX9_isMustered_31 : decode cX9_isMustered 31 = .ok (.goto 6, 3) := by decide +kernel
theorem dX9_isMustered_34 : decode cX9_isMustered 34 = .ok (.sipush (-32768), 3) := by decide +kernel
theorem dX9_isMustered_37 : decode cX9_isMustered 37 = .ok (.if_icmp .eq 7, 3) := by decide +kernel
theorem dX9_isMustered_40 : decode cX9_isMustered 40 = .ok (.iconst 1, 1) := by decide +kernel
theorem dX9_isMustered_41 : decode cX9_isMustered 41 = .ok (.goto 4, 3) := by decide +kernel
theorem dX9_isMustered_44 : decode cX9_isMustered 44 = .ok (.iconst 0, 1) := by decide +kernel
theorem dX9_isMustered_45 : decode cX9_isMustered 45 = .ok (.ireturn, 1) := by decide +kernel
theorem dX9_read_0 : decode cX9_read 0 = .ok (.aload_n 0, 1) := by decide +kernel
theorem dX9_read_1 : decode cX9_read 1 = .ok (.iload_n 1, 1) := by decide +kernel
theorem dX9_read_2 : decode cX9_read 2 = .ok (.iload_n 2, 1) := by decide +kernel
theorem dX9_read_3 : decode cX9_read 3 = .ok (.invokevirtual 382, 3) := by decide +kernel
theorem dX9_read_6 : decode cX9_read 6 = .ok (.istore_n 3, 1) := by decide +kernel
theorem dX9_read_7 : decode cX9_read 7 = .ok (.iload_n 3, 1) := by decide +kernel
theorem dX9_read_8 : decode cX9_read 8 = .ok (.ifCond .eq 5, 3) := by decide +kernel
theorem dX9_read_11 : decode cX9_read 11 = .ok (.iload_n 3, 1) := by decide +kernel
theorem dX9_read_12 : decode cX9_read 12 = .ok (.ireturn, 1) := by decide +kernel
theorem dX9_read_13 : decode cX9_read 13 = .ok (.iload_n 1, 1) := by decide +kernel
theorem dX9_read_14 : decode cX9_read 14 = .ok (.istore 4, 2) := by decide +kernel
theorem dX9_read_16 : decode cX9_read 16 = .ok (.iload 4, 2) := by decide +kernel
theorem dX9_read_18 : decode cX9_read 18 = .ok (.ifCond .lt 19, 3) := by decide +kernel
theorem dX9_read_21 : decode cX9_read 21 = .ok (.aload_n 0, 1) := by decide +kernel
theorem dX9_read_22 : decode cX9_read 22 = .ok (.iload 4, 2) := by decide +kernel
theorem dX9_read_24 : decode cX9_read 24 = .ok (.iload_n 2, 1) := by decide +kernel
theorem dX9_read_25 : decode cX9_read 25 = .ok (.invokevirtual 385, 3) := by decide +kernel
theorem dX9_read_28 : decode cX9_read 28 = .ok (.ifCond .ne 9, 3) := by decide +kernel
theorem dX9_read_31 : decode cX9_read 31 = .ok (.iinc 4 (-1), 3) := by decide +kernel
theorem dX9_read_34 : decode cX9_read 34 = .ok (.goto (-18), 3) := by decide +kernel
theorem dX9_read_37 : decode cX9_read 37 = .ok (.iload 4, 2) := by decide +kernel
theorem dX9_read_39 : decode cX9_read 39 = .ok (.ifCond .ge 8, 3) := by decide +kernel
theorem dX9_read_42 : decode cX9_read 42 = .ok (.ldc 122, 2) := by decide +kernel
theorem dX9_read_44 : decode cX9_read 44 = .ok (.goto 15, 3) := by decide +kernel
theorem dX9_read_47 : decode cX9_read 47 = .ok (.aload_n 0, 1) := by decide +kernel
theorem dX9_read_48 : decode cX9_read 48 = .ok (.getfield 25, 3) := by decide +kernel
theorem dX9_read_51 : decode cX9_read 51 = .ok (.bipush 24, 2) := by decide +kernel
theorem dX9_read_53 : decode cX9_read 53 = .ok (.iload 4, 2) := by decide +kernel
theorem dX9_read_55 : decode cX9_read 55 = .ok (.imul, 1) := by decide +kernel
theorem dX9_read_56 : decode cX9_read 56 = .ok (.iload_n 2, 1) := by decide +kernel
theorem dX9_read_57 : decode cX9_read 57 = .ok (.iadd, 1) := by decide +kernel
theorem dX9_read_58 : decode cX9_read 58 = .ok (.iaload, 1) := by decide +kernel
theorem dX9_read_59 : decode cX9_read 59 = .ok (.ireturn, 1) := by decide +kernel
theorem dX9_copy_0 : decode cX9_copy 0 = .ok (.iload_n 1, 1) := by decide +kernel
theorem dX9_copy_1 : decode cX9_copy 1 = .ok (.invokestatic 374, 3) := by decide +kernel
theorem dX9_copy_4 : decode cX9_copy 4 = .ok (.ifCond .eq 10, 3) := by decide +kernel
theorem dX9_copy_7 : decode cX9_copy 7 = .ok (.iload_n 3, 1) := by decide +kernel
theorem dX9_copy_8 : decode cX9_copy 8 = .ok (.invokestatic 374, 3) := by decide +kernel
theorem dX9_copy_11 : decode cX9_copy 11 = .ok (.ifCond .ne 6, 3) := by decide +kernel
theorem dX9_copy_14 : decode cX9_copy 14 = .ok (.ldc 87, 2) := by decide +kernel
theorem dX9_copy_16 : decode cX9_copy 16 = .ok (.ireturn, 1) := by decide +kernel
theorem dX9_copy_17 : decode cX9_copy 17 = .ok (.aload_n 0, 1) := by decide +kernel
theorem dX9_copy_18 : decode cX9_copy 18 = .ok (.getfield 19, 3) := by decide +kernel
theorem dX9_copy_21 : decode cX9_copy 21 = .ok (.iload_n 1, 1) := by decide +kernel
theorem dX9_copy_22 : decode cX9_copy 22 = .ok (.iaload, 1) := by decide +kernel
theorem dX9_copy_23 : decode cX9_copy 23 = .ok (.ifCond .lt 12, 3) := by decide +kernel
theorem dX9_copy_26 : decode cX9_copy 26 = .ok (.aload_n 0, 1) := by decide +kernel
theorem dX9_copy_27 : decode cX9_copy 27 = .ok (.getfield 19, 3) := by decide +kernel
theorem dX9_copy_30 : decode cX9_copy 30 = .ok (.iload_n 3, 1) := by decide +kernel
theorem dX9_copy_31 : decode cX9_copy 31 = .ok (.iaload, 1) := by decide +kernel
theorem dX9_copy_32 : decode cX9_copy 32 = .ok (.ifCond .ge 7, 3) := by decide +kernel
theorem dX9_copy_35 : decode cX9_copy 35 = .ok (.ldc_w 380, 3) := by decide +kernel
theorem dX9_copy_38 : decode cX9_copy 38 = .ok (.ireturn, 1) := by decide +kernel
theorem dX9_copy_39 : decode cX9_copy 39 = .ok (.aload_n 0, 1) := by decide +kernel
theorem dX9_copy_40 : decode cX9_copy 40 = .ok (.getfield 19, 3) := by decide +kernel
theorem dX9_copy_43 : decode cX9_copy 43 = .ok (.iload_n 1, 1) := by decide +kernel
theorem dX9_copy_44 : decode cX9_copy 44 = .ok (.iaload, 1) := by decide +kernel
theorem dX9_copy_45 : decode cX9_copy 45 = .ok (.aload_n 0, 1) := by decide +kernel
theorem dX9_copy_46 : decode cX9_copy 46 = .ok (.getfield 19, 3) := by decide +kernel
theorem dX9_copy_49 : decode cX9_copy 49 = .ok (.iload_n 3, 1) := by decide +kernel
theorem dX9_copy_50 : decode cX9_copy 50 = .ok (.iaload, 1) := by decide +kernel
theorem dX9_copy_51 : decode cX9_copy 51 = .ok (.if_icmp .eq 6, 3) := by decide +kernel
theorem dX9_copy_54 : decode cX9_copy 54 = .ok (.ldc 122, 2) := by decide +kernel
theorem dX9_copy_56 : decode cX9_copy 56 = .ok (.ireturn, 1) := by decide +kernel
theorem dX9_copy_57 : decode cX9_copy 57 = .ok (.iload_n 2, 1) := by decide +kernel
theorem dX9_copy_58 : decode cX9_copy 58 = .ok (.ifCond .lt 48, 3) := by decide +kernel
theorem dX9_copy_61 : decode cX9_copy 61 = .ok (.iload 4, 2) := by decide +kernel
theorem dX9_copy_63 : decode cX9_copy 63 = .ok (.ifCond .lt 43, 3) := by decide +kernel
theorem dX9_copy_66 : decode cX9_copy 66 = .ok (.iload 5, 2) := by decide +kernel
theorem dX9_copy_68 : decode cX9_copy 68 = .ok (.ifCond .lt 38, 3) := by decide +kernel
theorem dX9_copy_71 : decode cX9_copy 71 = .ok (.iload_n 2, 1) := by decide +kernel
theorem dX9_copy_72 : decode cX9_copy 72 = .ok (.i2l, 1) := by decide +kernel
theorem dX9_copy_73 : decode cX9_copy 73 = .ok (.iload 5, 2) := by decide +kernel
theorem dX9_copy_75 : decode cX9_copy 75 = .ok (.i2l, 1) := by decide +kernel
theorem dX9_copy_76 : decode cX9_copy 76 = .ok (.ladd, 1) := by decide +kernel
theorem dX9_copy_77 : decode cX9_copy 77 = .ok (.aload_n 0, 1) := by decide +kernel
theorem dX9_copy_78 : decode cX9_copy 78 = .ok (.getfield 22, 3) := by decide +kernel
theorem dX9_copy_81 : decode cX9_copy 81 = .ok (.iload_n 1, 1) := by decide +kernel
theorem dX9_copy_82 : decode cX9_copy 82 = .ok (.iaload, 1) := by decide +kernel
theorem dX9_copy_83 : decode cX9_copy 83 = .ok (.i2l, 1) := by decide +kernel
theorem dX9_copy_84 : decode cX9_copy 84 = .ok (.lcmp, 1) := by decide +kernel
theorem dX9_copy_85 : decode cX9_copy 85 = .ok (.ifCond .gt 21, 3) := by decide +kernel
theorem dX9_copy_88 : decode cX9_copy 88 = .ok (.iload 4, 2) := by decide +kernel
theorem dX9_copy_90 : decode cX9_copy 90 = .ok (.i2l, 1) := by decide +kernel
theorem dX9_copy_91 : decode cX9_copy 91 = .ok (.iload 5, 2) := by decide +kernel
theorem dX9_copy_93 : decode cX9_copy 93 = .ok (.i2l, 1) := by decide +kernel
theorem dX9_copy_94 : decode cX9_copy 94 = .ok (.ladd, 1) := by decide +kernel
theorem dX9_copy_95 : decode cX9_copy 95 = .ok (.aload_n 0, 1) := by decide +kernel
theorem dX9_copy_96 : decode cX9_copy 96 = .ok (.getfield 22, 3) := by decide +kernel
theorem dX9_copy_99 : decode cX9_copy 99 = .ok (.iload_n 3, 1) := by decide +kernel
theorem dX9_copy_100 : decode cX9_copy 100 = .ok (.iaload, 1) := by decide +kernel
theorem dX9_copy_101 : decode cX9_copy 101 = .ok (.i2l, 1) := by decide +kernel
theorem dX9_copy_102 : decode cX9_copy 102 = .ok (.lcmp, 1) := by decide +kernel
theorem dX9_copy_103 : decode cX9_copy 103 = .ok (.ifCond .le 7, 3) := by decide +kernel
theorem dX9_copy_106 : decode cX9_copy 106 = .ok (.ldc_w 381, 3) := by decide +kernel
theorem dX9_copy_109 : decode cX9_copy 109 = .ok (.ireturn, 1) := by decide +kernel
theorem dX9_copy_110 : decode cX9_copy 110 = .ok (.iconst 0, 1) := by decide +kernel
theorem dX9_copy_111 : decode cX9_copy 111 = .ok (.istore 6, 2) := by decide +kernel
theorem dX9_copy_113 : decode cX9_copy 113 = .ok (.iload 6, 2) := by decide +kernel
theorem dX9_copy_115 : decode cX9_copy 115 = .ok (.iload 5, 2) := by decide +kernel
theorem dX9_copy_117 : decode cX9_copy 117 = .ok (.if_icmp .ge 30, 3) := by decide +kernel
theorem dX9_copy_120 : decode cX9_copy 120 = .ok (.aload_n 0, 1) := by decide +kernel
theorem dX9_copy_121 : decode cX9_copy 121 = .ok (.getfield 50, 3) := by decide +kernel
theorem dX9_copy_124 : decode cX9_copy 124 = .ok (.iload 6, 2) := by decide +kernel
theorem dX9_copy_126 : decode cX9_copy 126 = .ok (.aload_n 0, 1) := by decide +kernel
theorem dX9_copy_127 : decode cX9_copy 127 = .ok (.getfield 25, 3) := by decide +kernel
theorem dX9_copy_130 : decode cX9_copy 130 = .ok (.bipush 24, 2) := by decide +kernel
theorem dX9_copy_132 : decode cX9_copy 132 = .ok (.iload_n 1, 1) := by decide +kernel
theorem dX9_copy_133 : decode cX9_copy 133 = .ok (.imul, 1) := by decide +kernel
theorem dX9_copy_134 : decode cX9_copy 134 = .ok (.iload_n 2, 1) := by decide +kernel
theorem dX9_copy_135 : decode cX9_copy 135 = .ok (.iadd, 1) := by decide +kernel
theorem dX9_copy_136 : decode cX9_copy 136 = .ok (.iload 6, 2) := by decide +kernel
theorem dX9_copy_138 : decode cX9_copy 138 = .ok (.iadd, 1) := by decide +kernel
theorem dX9_copy_139 : decode cX9_copy 139 = .ok (.iaload, 1) := by decide +kernel
theorem dX9_copy_140 : decode cX9_copy 140 = .ok (.iastore, 1) := by decide +kernel
theorem dX9_copy_141 : decode cX9_copy 141 = .ok (.iinc 6 1, 3) := by decide +kernel
theorem dX9_copy_144 : decode cX9_copy 144 = .ok (.goto (-31), 3) := by decide +kernel
theorem dX9_copy_147 : decode cX9_copy 147 = .ok (.iconst 0, 1) := by decide +kernel
theorem dX9_copy_148 : decode cX9_copy 148 = .ok (.istore 6, 2) := by decide +kernel
theorem dX9_copy_150 : decode cX9_copy 150 = .ok (.iload 6, 2) := by decide +kernel
theorem dX9_copy_152 : decode cX9_copy 152 = .ok (.iload 5, 2) := by decide +kernel
theorem dX9_copy_154 : decode cX9_copy 154 = .ok (.if_icmp .ge 31, 3) := by decide +kernel
theorem dX9_copy_157 : decode cX9_copy 157 = .ok (.aload_n 0, 1) := by decide +kernel
theorem dX9_copy_158 : decode cX9_copy 158 = .ok (.getfield 25, 3) := by decide +kernel
theorem dX9_copy_161 : decode cX9_copy 161 = .ok (.bipush 24, 2) := by decide +kernel
theorem dX9_copy_163 : decode cX9_copy 163 = .ok (.iload_n 3, 1) := by decide +kernel
theorem dX9_copy_164 : decode cX9_copy 164 = .ok (.imul, 1) := by decide +kernel
theorem dX9_copy_165 : decode cX9_copy 165 = .ok (.iload 4, 2) := by decide +kernel
theorem dX9_copy_167 : decode cX9_copy 167 = .ok (.iadd, 1) := by decide +kernel
theorem dX9_copy_168 : decode cX9_copy 168 = .ok (.iload 6, 2) := by decide +kernel
theorem dX9_copy_170 : decode cX9_copy 170 = .ok (.iadd, 1) := by decide +kernel
theorem dX9_copy_171 : decode cX9_copy 171 = .ok (.aload_n 0, 1) := by decide +kernel
theorem dX9_copy_172 : decode cX9_copy 172 = .ok (.getfield 50, 3) := by decide +kernel
theorem dX9_copy_175 : decode cX9_copy 175 = .ok (.iload 6, 2) := by decide +kernel
theorem dX9_copy_177 : decode cX9_copy 177 = .ok (.iaload, 1) := by decide +kernel
theorem dX9_copy_178 : decode cX9_copy 178 = .ok (.iastore, 1) := by decide +kernel
theorem dX9_copy_179 : decode cX9_copy 179 = .ok (.iinc 6 1, 3) := by decide +kernel
theorem dX9_copy_182 : decode cX9_copy 182 = .ok (.goto (-32), 3) := by decide +kernel
theorem dX9_copy_185 : decode cX9_copy 185 = .ok (.iload 5, 2) := by decide +kernel
theorem dX9_copy_187 : decode cX9_copy 187 = .ok (.ireturn, 1) := by decide +kernel
theorem dX9_tell_0 : decode cX9_tell 0 = .ok (.aload_n 0, 1) := by decide +kernel
theorem dX9_tell_1 : decode cX9_tell 1 = .ok (.getfield 388, 3) := by decide +kernel
theorem dX9_tell_4 : decode cX9_tell 4 = .ok (.bipush 60, 2) := by decide +kernel
theorem dX9_tell_6 : decode cX9_tell 6 = .ok (.if_icmp .ne 6, 3) := by decide +kernel
theorem dX9_tell_9 : decode cX9_tell 9 = .ok (.ldc 88, 2) := by decide +kernel
theorem dX9_tell_11 : decode cX9_tell 11 = .ok (.ireturn, 1) := by decide +kernel
theorem dX9_tell_12 : decode cX9_tell 12 = .ok (.aload_n 0, 1) := by decide +kernel
theorem dX9_tell_13 : decode cX9_tell 13 = .ok (.getfield 53, 3) := by decide +kernel
theorem dX9_tell_16 : decode cX9_tell 16 = .ok (.aload_n 0, 1) := by decide +kernel
theorem dX9_tell_17 : decode cX9_tell 17 = .ok (.getfield 388, 3) := by decide +kernel
theorem dX9_tell_20 : decode cX9_tell 20 = .ok (.iload_n 1, 1) := by decide +kernel
theorem dX9_tell_21 : decode cX9_tell 21 = .ok (.iastore, 1) := by decide +kernel
theorem dX9_tell_22 : decode cX9_tell 22 = .ok (.aload_n 0, 1) := by decide +kernel
theorem dX9_tell_23 : decode cX9_tell 23 = .ok (.dup, 1) := by decide +kernel
theorem dX9_tell_24 : decode cX9_tell 24 = .ok (.getfield 388, 3) := by decide +kernel
theorem dX9_tell_27 : decode cX9_tell 27 = .ok (.iconst 1, 1) := by decide +kernel
theorem dX9_tell_28 : decode cX9_tell 28 = .ok (.iadd, 1) := by decide +kernel
theorem dX9_tell_29 : decode cX9_tell 29 = .ok (.putfield 388, 3) := by decide +kernel
theorem dX9_tell_32 : decode cX9_tell 32 = .ok (.aload_n 0, 1) := by decide +kernel
theorem dX9_tell_33 : decode cX9_tell 33 = .ok (.getfield 388, 3) := by decide +kernel
theorem dX9_tell_36 : decode cX9_tell 36 = .ok (.ireturn, 1) := by decide +kernel
theorem dX9_setAside_0 : decode cX9_setAside 0 = .ok (.iconst 0, 1) := by decide +kernel
theorem dX9_setAside_1 : decode cX9_setAside 1 = .ok (.istore_n 3, 1) := by decide +kernel
theorem dX9_setAside_2 : decode cX9_setAside 2 = .ok (.iload_n 3, 1) := by decide +kernel
theorem dX9_setAside_3 : decode cX9_setAside 3 = .ok (.sipush 3790, 3) := by decide +kernel
theorem dX9_setAside_6 : decode cX9_setAside 6 = .ok (.if_icmp .ge 15, 3) := by decide +kernel
theorem dX9_setAside_9 : decode cX9_setAside 9 = .ok (.aload_n 2, 1) := by decide +kernel
theorem dX9_setAside_10 : decode cX9_setAside 10 = .ok (.iload_n 3, 1) := by decide +kernel
theorem dX9_setAside_11 : decode cX9_setAside 11 = .ok (.aload_n 1, 1) := by decide +kernel
theorem dX9_setAside_12 : decode cX9_setAside 12 = .ok (.iload_n 3, 1) := by decide +kernel
theorem dX9_setAside_13 : decode cX9_setAside 13 = .ok (.iaload, 1) := by decide +kernel
theorem dX9_setAside_14 : decode cX9_setAside 14 = .ok (.iastore, 1) := by decide +kernel
theorem dX9_setAside_15 : decode cX9_setAside 15 = .ok (.iinc 3 1, 3) := by decide +kernel
theorem dX9_setAside_18 : decode cX9_setAside 18 = .ok (.goto (-16), 3) := by decide +kernel
theorem dX9_setAside_21 : decode cX9_setAside 21 = .ok (.return_, 1) := by decide +kernel
theorem dX9_check_0 : decode cX9_check 0 = .ok (.aload_n 0, 1) := by decide +kernel
theorem dX9_check_1 : decode cX9_check 1 = .ok (.getfield 388, 3) := by decide +kernel
theorem dX9_check_4 : decode cX9_check 4 = .ok (.istore_n 2, 1) := by decide +kernel
theorem dX9_check_5 : decode cX9_check 5 = .ok (.aload_n 0, 1) := by decide +kernel
theorem dX9_check_6 : decode cX9_check 6 = .ok (.iconst 0, 1) := by decide +kernel
theorem dX9_check_7 : decode cX9_check 7 = .ok (.putfield 388, 3) := by decide +kernel
theorem dX9_check_10 : decode cX9_check 10 = .ok (.iload_n 1, 1) := by decide +kernel
theorem dX9_check_11 : decode cX9_check 11 = .ok (.i2l, 1) := by decide +kernel
theorem dX9_check_12 : decode cX9_check 12 = .ok (.lconst 1, 1) := by decide +kernel
theorem dX9_check_13 : decode cX9_check 13 = .ok (.ldc2_w 391, 3) := by decide +kernel
theorem dX9_check_16 : decode cX9_check 16 = .ok (.invokestatic 60, 3) := by decide +kernel
theorem dX9_check_19 : decode cX9_check 19 = .ok (.ifCond .ne 6, 3) := by decide +kernel
theorem dX9_check_22 : decode cX9_check 22 = .ok (.ldc 87, 2) := by decide +kernel
theorem dX9_check_24 : decode cX9_check 24 = .ok (.ireturn, 1) := by decide +kernel
theorem dX9_check_25 : decode cX9_check 25 = .ok (.aload_n 0, 1) := by decide +kernel
theorem dX9_check_26 : decode cX9_check 26 = .ok (.getfield 393, 3) := by decide +kernel
theorem dX9_check_29 : decode cX9_check 29 = .ok (.ifCond .ne 6, 3) := by decide +kernel
theorem dX9_check_32 : decode cX9_check 32 = .ok (.ldc 106, 2) := by decide +kernel
theorem dX9_check_34 : decode cX9_check 34 = .ok (.ireturn, 1) := by decide +kernel
theorem dX9_check_35 : decode cX9_check 35 = .ok (.aload_n 0, 1) := by decide +kernel
theorem dX9_check_36 : decode cX9_check 36 = .ok (.aload_n 0, 1) := by decide +kernel
theorem dX9_check_37 : decode cX9_check 37 = .ok (.getfield 7, 3) := by decide +kernel
theorem dX9_check_40 : decode cX9_check 40 = .ok (.aload_n 0, 1) := by decide +kernel
theorem dX9_check_41 : decode cX9_check 41 = .ok (.getfield 16, 3) := by decide +kernel
theorem dX9_check_44 : decode cX9_check 44 = .ok (.invokevirtual 397, 3) := by decide +kernel
theorem dX9_check_47 : decode cX9_check 47 = .ok (.aload_n 0, 1) := by decide +kernel
theorem dX9_check_48 : decode cX9_check 48 = .ok (.aload_n 0, 1) := by decide +kernel
theorem dX9_check_49 : decode cX9_check 49 = .ok (.getfield 13, 3) := by decide +kernel
theorem dX9_check_52 : decode cX9_check 52 = .ok (.aload_n 0, 1) := by decide +kernel
theorem dX9_check_53 : decode cX9_check 53 = .ok (.getfield 7, 3) := by decide +kernel
theorem dX9_check_56 : decode cX9_check 56 = .ok (.invokevirtual 397, 3) := by decide +kernel
theorem dX9_check_59 : decode cX9_check 59 = .ok (.iconst 0, 1) := by decide +kernel
theorem dX9_check_60 : decode cX9_check 60 = .ok (.istore_n 3, 1) := by decide +kernel
theorem dX9_check_61 : decode cX9_check 61 = .ok (.iload_n 3, 1) := by decide +kernel
theorem dX9_check_62 : decode cX9_check 62 = .ok (.iload_n 1, 1) := by decide +kernel
theorem dX9_check_63 : decode cX9_check 63 = .ok (.if_icmp .ge 132, 3) := by decide +kernel
theorem dX9_check_66 : decode cX9_check 66 = .ok (.aload_n 0, 1) := by decide +kernel
theorem dX9_check_67 : decode cX9_check 67 = .ok (.invokevirtual 310, 3) := by decide +kernel
theorem dX9_check_70 : decode cX9_check 70 = .ok (.aload_n 0, 1) := by decide +kernel
theorem dX9_check_71 : decode cX9_check 71 = .ok (.getfield 56, 3) := by decide +kernel
theorem dX9_check_74 : decode cX9_check 74 = .ok (.iconst 2, 1) := by decide +kernel
theorem dX9_check_75 : decode cX9_check 75 = .ok (.iload_n 3, 1) := by decide +kernel
theorem dX9_check_76 : decode cX9_check 76 = .ok (.imul, 1) := by decide +kernel
theorem dX9_check_77 : decode cX9_check 77 = .ok (.iconst 0, 1) := by decide +kernel
theorem dX9_check_78 : decode cX9_check 78 = .ok (.iastore, 1) := by decide +kernel
theorem dX9_check_79 : decode cX9_check 79 = .ok (.aload_n 0, 1) := by decide +kernel
theorem dX9_check_80 : decode cX9_check 80 = .ok (.getfield 56, 3) := by decide +kernel
theorem dX9_check_83 : decode cX9_check 83 = .ok (.iconst 2, 1) := by decide +kernel
theorem dX9_check_84 : decode cX9_check 84 = .ok (.iload_n 3, 1) := by decide +kernel
theorem dX9_check_85 : decode cX9_check 85 = .ok (.imul, 1) := by decide +kernel
theorem dX9_check_86 : decode cX9_check 86 = .ok (.iconst 1, 1) := by decide +kernel
theorem dX9_check_87 : decode cX9_check 87 = .ok (.iadd, 1) := by decide +kernel
theorem dX9_check_88 : decode cX9_check 88 = .ok (.iconst 0, 1) := by decide +kernel
theorem dX9_check_89 : decode cX9_check 89 = .ok (.iastore, 1) := by decide +kernel
theorem dX9_check_90 : decode cX9_check 90 = .ok (.iconst 0, 1) := by decide +kernel
theorem dX9_check_91 : decode cX9_check 91 = .ok (.istore 4, 2) := by decide +kernel
theorem dX9_check_93 : decode cX9_check 93 = .ok (.iload 4, 2) := by decide +kernel
theorem dX9_check_95 : decode cX9_check 95 = .ok (.aload_n 0, 1) := by decide +kernel
theorem dX9_check_96 : decode cX9_check 96 = .ok (.getfield 7, 3) := by decide +kernel
theorem dX9_check_99 : decode cX9_check 99 = .ok (.iconst 4, 1) := by decide +kernel
theorem dX9_check_100 : decode cX9_check 100 = .ok (.iaload, 1) := by decide +kernel
theorem dX9_check_101 : decode cX9_check 101 = .ok (.if_icmp .ge 41, 3) := by decide +kernel
theorem dX9_check_104 : decode cX9_check 104 = .ok (.aload_n 0, 1) := by decide +kernel
theorem dX9_check_105 : decode cX9_check 105 = .ok (.getfield 56, 3) := by decide +kernel
theorem dX9_check_108 : decode cX9_check 108 = .ok (.iconst 2, 1) := by decide +kernel
theorem dX9_check_109 : decode cX9_check 109 = .ok (.iload_n 3, 1) := by decide +kernel
theorem dX9_check_110 : decode cX9_check 110 = .ok (.imul, 1) := by decide +kernel
theorem dX9_check_111 : decode cX9_check 111 = .ok (.dup2, 1) := by decide +kernel
theorem dX9_check_112 : decode cX9_check 112 = .ok (.iaload, 1) := by decide +kernel
theorem dX9_check_113 : decode cX9_check 113 = .ok (.aload_n 0, 1) := by decide +kernel
theorem dX9_check_114 : decode cX9_check 114 = .ok (.getfield 7, 3) := by decide +kernel
theorem dX9_check_117 : decode cX9_check 117 = .ok (.aload_n 0, 1) := by decide +kernel
theorem dX9_check_118 : decode cX9_check 118 = .ok (.iload 4, 2) := by decide +kernel
theorem dX9_check_120 : decode cX9_check 120 = .ok (.invokevirtual 111, 3) := by decide +kernel
theorem dX9_check_123 : decode cX9_check 123 = .ok (.iconst 3, 1) := by decide +kernel
theorem dX9_check_124 : decode cX9_check 124 = .ok (.iadd, 1) := by decide +kernel
theorem dX9_check_125 : decode cX9_check 125 = .ok (.iaload, 1) := by decide +kernel
theorem dX9_check_126 : decode cX9_check 126 = .ok (.ifCond .ne 7, 3) := by decide +kernel
theorem dX9_check_129 : decode cX9_check 129 = .ok (.iconst 1, 1) := by decide +kernel
theorem dX9_check_130 : decode cX9_check 130 = .ok (.goto 4, 3) := by decide +kernel
theorem dX9_check_133 : decode cX9_check 133 = .ok (.iconst 0, 1) := by decide +kernel
theorem dX9_check_134 : decode cX9_check 134 = .ok (.iadd, 1) := by decide +kernel
theorem dX9_check_135 : decode cX9_check 135 = .ok (.iastore, 1) := by decide +kernel
theorem dX9_check_136 : decode cX9_check 136 = .ok (.iinc 4 1, 3) := by decide +kernel
theorem dX9_check_139 : decode cX9_check 139 = .ok (.goto (-46), 3) := by decide +kernel
theorem dX9_check_142 : decode cX9_check 142 = .ok (.iconst 0, 1) := by decide +kernel
theorem dX9_check_143 : decode cX9_check 143 = .ok (.istore 4, 2) := by decide +kernel
theorem dX9_check_145 : decode cX9_check 145 = .ok (.iload 4, 2) := by decide +kernel
theorem dX9_check_147 : decode cX9_check 147 = .ok (.aload_n 0, 1) := by decide +kernel
theorem dX9_check_148 : decode cX9_check 148 = .ok (.getfield 7, 3) := by decide +kernel
theorem dX9_check_151 : decode cX9_check 151 = .ok (.iconst 2, 1) := by decide +kernel
theorem dX9_check_152 : decode cX9_check 152 = .ok (.iaload, 1) := by decide +kernel
theorem dX9_check_153 : decode cX9_check 153 = .ok (.if_icmp .ge 36, 3) := by decide +kernel
theorem dX9_check_156 : decode cX9_check 156 = .ok (.aload_n 0, 1) := by decide +kernel
theorem dX9_check_157 : decode cX9_check 157 = .ok (.getfield 56, 3) := by decide +kernel
theorem dX9_check_160 : decode cX9_check 160 = .ok (.iconst 2, 1) := by decide +kernel
theorem dX9_check_161 : decode cX9_check 161 = .ok (.iload_n 3, 1) := by decide +kernel
theorem dX9_check_162 : decode cX9_check 162 = .ok (.imul, 1) := by decide +kernel
theorem dX9_check_163 : decode cX9_check 163 = .ok (.iconst 1, 1) := by decide +kernel
theorem dX9_check_164 : decode cX9_check 164 = .ok (.iadd, 1) := by decide +kernel
theorem dX9_check_165 : decode cX9_check 165 = .ok (.dup2, 1) := by decide +kernel
theorem dX9_check_166 : decode cX9_check 166 = .ok (.iaload, 1) := by decide +kernel
theorem dX9_check_167 : decode cX9_check 167 = .ok (.aload_n 0, 1) := by decide +kernel
theorem dX9_check_168 : decode cX9_check 168 = .ok (.getfield 7, 3) := by decide +kernel
theorem dX9_check_171 : decode cX9_check 171 = .ok (.aload_n 0, 1) := by decide +kernel
theorem dX9_check_172 : decode cX9_check 172 = .ok (.iload 4, 2) := by decide +kernel
theorem dX9_check_174 : decode cX9_check 174 = .ok (.invokevirtual 66, 3) := by decide +kernel
theorem dX9_check_177 : decode cX9_check 177 = .ok (.bipush 9, 2) := by decide +kernel
theorem dX9_check_179 : decode cX9_check 179 = .ok (.iadd, 1) := by decide +kernel
theorem dX9_check_180 : decode cX9_check 180 = .ok (.iaload, 1) := by decide +kernel
theorem dX9_check_181 : decode cX9_check 181 = .ok (.iadd, 1) := by decide +kernel
theorem dX9_check_182 : decode cX9_check 182 = .ok (.iastore, 1) := by decide +kernel
theorem dX9_check_183 : decode cX9_check 183 = .ok (.iinc 4 1, 3) := by decide +kernel
theorem dX9_check_186 : decode cX9_check 186 = .ok (.goto (-41), 3) := by decide +kernel
theorem dX9_check_189 : decode cX9_check 189 = .ok (.iinc 3 1, 3) := by decide +kernel
theorem dX9_check_192 : decode cX9_check 192 = .ok (.goto (-131), 3) := by decide +kernel
theorem dX9_check_195 : decode cX9_check 195 = .ok (.aload_n 0, 1) := by decide +kernel
theorem dX9_check_196 : decode cX9_check 196 = .ok (.aload_n 0, 1) := by decide +kernel
theorem dX9_check_197 : decode cX9_check 197 = .ok (.getfield 16, 3) := by decide +kernel
theorem dX9_check_200 : decode cX9_check 200 = .ok (.aload_n 0, 1) := by decide +kernel
theorem dX9_check_201 : decode cX9_check 201 = .ok (.getfield 7, 3) := by decide +kernel
theorem dX9_check_204 : decode cX9_check 204 = .ok (.invokevirtual 397, 3) := by decide +kernel
theorem dX9_check_207 : decode cX9_check 207 = .ok (.iconst 0, 1) := by decide +kernel
theorem dX9_check_208 : decode cX9_check 208 = .ok (.istore_n 3, 1) := by decide +kernel
theorem dX9_check_209 : decode cX9_check 209 = .ok (.iload_n 3, 1) := by decide +kernel
theorem dX9_check_210 : decode cX9_check 210 = .ok (.iload_n 2, 1) := by decide +kernel
theorem dX9_check_211 : decode cX9_check 211 = .ok (.if_icmp .ge 31, 3) := by decide +kernel
theorem dX9_check_214 : decode cX9_check 214 = .ok (.iload_n 3, 1) := by decide +kernel
theorem dX9_check_215 : decode cX9_check 215 = .ok (.iconst 2, 1) := by decide +kernel
theorem dX9_check_216 : decode cX9_check 216 = .ok (.iload_n 1, 1) := by decide +kernel
theorem dX9_check_217 : decode cX9_check 217 = .ok (.imul, 1) := by decide +kernel
theorem dX9_check_218 : decode cX9_check 218 = .ok (.if_icmp .ge 24, 3) := by decide +kernel
theorem dX9_check_221 : decode cX9_check 221 = .ok (.aload_n 0, 1) := by decide +kernel
theorem dX9_check_222 : decode cX9_check 222 = .ok (.getfield 53, 3) := by decide +kernel
theorem dX9_check_225 : decode cX9_check 225 = .ok (.iload_n 3, 1) := by decide +kernel
theorem dX9_check_226 : decode cX9_check 226 = .ok (.iaload, 1) := by decide +kernel
theorem dX9_check_227 : decode cX9_check 227 = .ok (.aload_n 0, 1) := by decide +kernel
theorem dX9_check_228 : decode cX9_check 228 = .ok (.getfield 56, 3) := by decide +kernel
theorem dX9_check_231 : decode cX9_check 231 = .ok (.iload_n 3, 1) := by decide +kernel
theorem dX9_check_232 : decode cX9_check 232 = .ok (.iaload, 1) := by decide +kernel
theorem dX9_check_233 : decode cX9_check 233 = .ok (.if_icmp .ne 9, 3) := by decide +kernel
theorem dX9_check_236 : decode cX9_check 236 = .ok (.iinc 3 1, 3) := by decide +kernel
theorem dX9_check_239 : decode cX9_check 239 = .ok (.goto (-30), 3) := by decide +kernel
theorem dX9_check_242 : decode cX9_check 242 = .ok (.iload_n 3, 1) := by decide +kernel
theorem dX9_check_243 : decode cX9_check 243 = .ok (.iload_n 2, 1) := by decide +kernel
theorem dX9_check_244 : decode cX9_check 244 = .ok (.if_icmp .ne 14, 3) := by decide +kernel
theorem dX9_check_247 : decode cX9_check 247 = .ok (.iload_n 3, 1) := by decide +kernel
theorem dX9_check_248 : decode cX9_check 248 = .ok (.iconst 2, 1) := by decide +kernel
theorem dX9_check_249 : decode cX9_check 249 = .ok (.iload_n 1, 1) := by decide +kernel
theorem dX9_check_250 : decode cX9_check 250 = .ok (.imul, 1) := by decide +kernel
theorem dX9_check_251 : decode cX9_check 251 = .ok (.if_icmp .ne 7, 3) := by decide +kernel
theorem dX9_check_254 : decode cX9_check 254 = .ok (.iconst 0, 1) := by decide +kernel
theorem dX9_check_255 : decode cX9_check 255 = .ok (.goto 6, 3) := by decide +kernel
theorem dX9_check_258 : decode cX9_check 258 = .ok (.iconst 1, 1) := by decide +kernel
theorem dX9_check_259 : decode cX9_check 259 = .ok (.iload_n 3, 1) := by decide +kernel
theorem dX9_check_260 : decode cX9_check 260 = .ok (.iadd, 1) := by decide +kernel
theorem dX9_check_261 : decode cX9_check 261 = .ok (.ireturn, 1) := by decide +kernel
theorem dX9_keep_0 : decode cX9_keep 0 = .ok (.aload_n 0, 1) := by decide +kernel
theorem dX9_keep_1 : decode cX9_keep 1 = .ok (.iconst 1, 1) := by decide +kernel
theorem dX9_keep_2 : decode cX9_keep 2 = .ok (.putfield 393, 3) := by decide +kernel
theorem dX9_keep_5 : decode cX9_keep 5 = .ok (.aload_n 0, 1) := by decide +kernel
theorem dX9_keep_6 : decode cX9_keep 6 = .ok (.aload_n 0, 1) := by decide +kernel
theorem dX9_keep_7 : decode cX9_keep 7 = .ok (.getfield 7, 3) := by decide +kernel
theorem dX9_keep_10 : decode cX9_keep 10 = .ok (.aload_n 0, 1) := by decide +kernel
theorem dX9_keep_11 : decode cX9_keep 11 = .ok (.getfield 13, 3) := by decide +kernel
theorem dX9_keep_14 : decode cX9_keep 14 = .ok (.invokevirtual 397, 3) := by decide +kernel
theorem dX9_keep_17 : decode cX9_keep 17 = .ok (.aload_n 0, 1) := by decide +kernel
theorem dX9_keep_18 : decode cX9_keep 18 = .ok (.getfield 7, 3) := by decide +kernel
theorem dX9_keep_21 : decode cX9_keep 21 = .ok (.iconst 0, 1) := by decide +kernel
theorem dX9_keep_22 : decode cX9_keep 22 = .ok (.iaload, 1) := by decide +kernel
theorem dX9_keep_23 : decode cX9_keep 23 = .ok (.ireturn, 1) := by decide +kernel
theorem dX9_again_0 : decode cX9_again 0 = .ok (.aload_n 0, 1) := by decide +kernel
theorem dX9_again_1 : decode cX9_again 1 = .ok (.getfield 393, 3) := by decide +kernel
theorem dX9_again_4 : decode cX9_again 4 = .ok (.ifCond .ne 6, 3) := by decide +kernel
theorem dX9_again_7 : decode cX9_again 7 = .ok (.ldc 106, 2) := by decide +kernel
theorem dX9_again_9 : decode cX9_again 9 = .ok (.ireturn, 1) := by decide +kernel
theorem dX9_again_10 : decode cX9_again 10 = .ok (.aload_n 0, 1) := by decide +kernel
theorem dX9_again_11 : decode cX9_again 11 = .ok (.aload_n 0, 1) := by decide +kernel
theorem dX9_again_12 : decode cX9_again 12 = .ok (.getfield 13, 3) := by decide +kernel
theorem dX9_again_15 : decode cX9_again 15 = .ok (.aload_n 0, 1) := by decide +kernel
theorem dX9_again_16 : decode cX9_again 16 = .ok (.getfield 7, 3) := by decide +kernel
theorem dX9_again_19 : decode cX9_again 19 = .ok (.invokevirtual 397, 3) := by decide +kernel
theorem dX9_again_22 : decode cX9_again 22 = .ok (.aload_n 0, 1) := by decide +kernel
theorem dX9_again_23 : decode cX9_again 23 = .ok (.getfield 7, 3) := by decide +kernel
theorem dX9_again_26 : decode cX9_again 26 = .ok (.iconst 0, 1) := by decide +kernel
theorem dX9_again_27 : decode cX9_again 27 = .ok (.iaload, 1) := by decide +kernel
theorem dX9_again_28 : decode cX9_again 28 = .ok (.ireturn, 1) := by decide +kernel
theorem dX9_men_0 : decode cX9_men 0 = .ok (.iconst 0, 1) := by decide +kernel
theorem dX9_men_1 : decode cX9_men 1 = .ok (.istore_n 2, 1) := by decide +kernel
theorem dX9_men_2 : decode cX9_men 2 = .ok (.iconst 0, 1) := by decide +kernel
theorem dX9_men_3 : decode cX9_men 3 = .ok (.istore_n 3, 1) := by decide +kernel
theorem dX9_men_4 : decode cX9_men 4 = .ok (.iload_n 3, 1) := by decide +kernel
theorem dX9_men_5 : decode cX9_men 5 = .ok (.aload_n 0, 1) := by decide +kernel
theorem dX9_men_6 : decode cX9_men 6 = .ok (.getfield 7, 3) := by decide +kernel
theorem dX9_men_9 : decode cX9_men 9 = .ok (.iconst 2, 1) := by decide +kernel
theorem dX9_men_10 : decode cX9_men 10 = .ok (.iaload, 1) := by decide +kernel
theorem dX9_men_11 : decode cX9_men 11 = .ok (.if_icmp .ge 72, 3) := by decide +kernel
theorem dX9_men_14 : decode cX9_men 14 = .ok (.iload_n 2, 1) := by decide +kernel
theorem dX9_men_15 : decode cX9_men 15 = .ok (.iload_n 1, 1) := by decide +kernel
theorem dX9_men_16 : decode cX9_men 16 = .ok (.ifCond .eq 54, 3) := by decide +kernel
theorem dX9_men_19 : decode cX9_men 19 = .ok (.iload_n 1, 1) := by decide +kernel
theorem dX9_men_20 : decode cX9_men 20 = .ok (.iconst 1, 1) := by decide +kernel
theorem dX9_men_21 : decode cX9_men 21 = .ok (.if_icmp .ne 14, 3) := by decide +kernel
theorem dX9_men_24 : decode cX9_men 24 = .ok (.aload_n 0, 1) := by decide +kernel
theorem dX9_men_25 : decode cX9_men 25 = .ok (.iload_n 3, 1) := by decide +kernel
theorem dX9_men_26 : decode cX9_men 26 = .ok (.invokevirtual 70, 3) := by decide +kernel
theorem dX9_men_29 : decode cX9_men 29 = .ok (.ifCond .eq 45, 3) := by decide +kernel
theorem dX9_men_32 : decode cX9_men 32 = .ok (.goto 38, 3) := by decide +kernel
theorem dX9_men_35 : decode cX9_men 35 = .ok (.aload_n 0, 1) := by decide +kernel
theorem dX9_men_36 : decode cX9_men 36 = .ok (.iload_n 3, 1) := by decide +kernel
theorem dX9_men_37 : decode cX9_men 37 = .ok (.invokevirtual 70, 3) := by decide +kernel
theorem dX9_men_40 : decode cX9_men 40 = .ok (.ifCond .ne 34, 3) := by decide +kernel
theorem dX9_men_43 : decode cX9_men 43 = .ok (.iload_n 1, 1) := by decide +kernel
theorem dX9_men_44 : decode cX9_men 44 = .ok (.iconst 2, 1) := by decide +kernel
theorem dX9_men_45 : decode cX9_men 45 = .ok (.if_icmp .ne 14, 3) := by decide +kernel
theorem dX9_men_48 : decode cX9_men 48 = .ok (.aload_n 0, 1) := by decide +kernel
theorem dX9_men_49 : decode cX9_men 49 = .ok (.iload_n 3, 1) := by decide +kernel
theorem dX9_men_50 : decode cX9_men 50 = .ok (.invokevirtual 74, 3) := by decide +kernel
theorem dX9_men_53 : decode cX9_men 53 = .ok (.ifCond .ne 21, 3) := by decide +kernel
theorem dX9_men_56 : decode cX9_men 56 = .ok (.goto 14, 3) := by decide +kernel
theorem dX9_men_59 : decode cX9_men 59 = .ok (.aload_n 0, 1) := by decide +kernel
theorem dX9_men_60 : decode cX9_men 60 = .ok (.iload_n 3, 1) := by decide +kernel
theorem dX9_men_61 : decode cX9_men 61 = .ok (.invokevirtual 77, 3) := by decide +kernel
theorem dX9_men_64 : decode cX9_men 64 = .ok (.iload_n 1, 1) := by decide +kernel
theorem dX9_men_65 : decode cX9_men 65 = .ok (.iconst 3, 1) := by decide +kernel
theorem dX9_men_66 : decode cX9_men 66 = .ok (.isub, 1) := by decide +kernel
theorem dX9_men_67 : decode cX9_men 67 = .ok (.if_icmp .ne 7, 3) := by decide +kernel
theorem dX9_men_70 : decode cX9_men 70 = .ok (.iconst 1, 1) := by decide +kernel
theorem dX9_men_71 : decode cX9_men 71 = .ok (.goto 4, 3) := by decide +kernel
theorem dX9_men_74 : decode cX9_men 74 = .ok (.iconst 0, 1) := by decide +kernel
theorem dX9_men_75 : decode cX9_men 75 = .ok (.iadd, 1) := by decide +kernel
theorem dX9_men_76 : decode cX9_men 76 = .ok (.istore_n 2, 1) := by decide +kernel
theorem dX9_men_77 : decode cX9_men 77 = .ok (.iinc 3 1, 3) := by decide +kernel
theorem dX9_men_80 : decode cX9_men 80 = .ok (.goto (-76), 3) := by decide +kernel
theorem dX9_men_83 : decode cX9_men 83 = .ok (.iload_n 2, 1) := by decide +kernel
theorem dX9_men_84 : decode cX9_men 84 = .ok (.ireturn, 1) := by decide +kernel
theorem dX9_count_0 : decode cX9_count 0 = .ok (.iload_n 1, 1) := by decide +kernel
theorem dX9_count_1 : decode cX9_count 1 = .ok (.i2l, 1) := by decide +kernel
theorem dX9_count_2 : decode cX9_count 2 = .ok (.lconst 1, 1) := by decide +kernel
theorem dX9_count_3 : decode cX9_count 3 = .ok (.ldc2_w 114, 3) := by decide +kernel
theorem dX9_count_6 : decode cX9_count 6 = .ok (.invokestatic 60, 3) := by decide +kernel
theorem dX9_count_9 : decode cX9_count 9 = .ok (.ifCond .eq 11, 3) := by decide +kernel
theorem dX9_count_12 : decode cX9_count 12 = .ok (.aload_n 0, 1) := by decide +kernel
theorem dX9_count_13 : decode cX9_count 13 = .ok (.iload_n 1, 1) := by decide +kernel
theorem dX9_count_14 : decode cX9_count 14 = .ok (.iconst 1, 1) := by decide +kernel
theorem dX9_count_15 : decode cX9_count 15 = .ok (.isub, 1) := by decide +kernel
theorem dX9_count_16 : decode cX9_count 16 = .ok (.invokevirtual 401, 3) := by decide +kernel
theorem dX9_count_19 : decode cX9_count 19 = .ok (.ireturn, 1) := by decide +kernel
theorem dX9_count_20 : decode cX9_count 20 = .ok (.iload_n 1, 1) := by decide +kernel
theorem dX9_count_21 : decode cX9_count 21 = .ok (.tableswitch 192 0 22 #[107, 192, 192, 192, 192, 192, 192, 192, 192, 192, 192, 192, 114, 121, 128, 135, 143, 151, 159, 167, 172, 177, 184], 107) := by decide +kernel
theorem dX9_count_128 : decode cX9_count 128 = .ok (.aload_n 0, 1) := by decide +kernel
theorem dX9_count_129 : decode cX9_count 129 = .ok (.getfield 7, 3) := by decide +kernel
theorem dX9_count_132 : decode cX9_count 132 = .ok (.iconst 1, 1) := by decide +kernel
theorem dX9_count_133 : decode cX9_count 133 = .ok (.iaload, 1) := by decide +kernel
theorem dX9_count_134 : decode cX9_count 134 = .ok (.ireturn, 1) := by decide +kernel
theorem dX9_count_135 : decode cX9_count 135 = .ok (.aload_n 0, 1) := by decide +kernel
theorem dX9_count_136 : decode cX9_count 136 = .ok (.getfield 7, 3) := by decide +kernel
theorem dX9_count_139 : decode cX9_count 139 = .ok (.iconst 3, 1) := by decide +kernel
theorem dX9_count_140 : decode cX9_count 140 = .ok (.iaload, 1) := by decide +kernel
theorem dX9_count_141 : decode cX9_count 141 = .ok (.ireturn, 1) := by decide +kernel
theorem dX9_count_142 : decode cX9_count 142 = .ok (.aload_n 0, 1) := by decide +kernel
theorem dX9_count_143 : decode cX9_count 143 = .ok (.getfield 7, 3) := by decide +kernel
theorem dX9_count_146 : decode cX9_count 146 = .ok (.iconst 4, 1) := by decide +kernel
theorem dX9_count_147 : decode cX9_count 147 = .ok (.iaload, 1) := by decide +kernel
theorem dX9_count_148 : decode cX9_count 148 = .ok (.ireturn, 1) := by decide +kernel
theorem dX9_count_149 : decode cX9_count 149 = .ok (.aload_n 0, 1) := by decide +kernel
theorem dX9_count_150 : decode cX9_count 150 = .ok (.getfield 7, 3) := by decide +kernel
theorem dX9_count_153 : decode cX9_count 153 = .ok (.iconst 5, 1) := by decide +kernel
theorem dX9_count_154 : decode cX9_count 154 = .ok (.iaload, 1) := by decide +kernel
theorem dX9_count_155 : decode cX9_count 155 = .ok (.ireturn, 1) := by decide +kernel
theorem dX9_count_156 : decode cX9_count 156 = .ok (.aload_n 0, 1) := by decide +kernel
theorem dX9_count_157 : decode cX9_count 157 = .ok (.getfield 7, 3) := by decide +kernel
theorem dX9_count_160 : decode cX9_count 160 = .ok (.bipush 6, 2) := by decide +kernel
theorem dX9_count_162 : decode cX9_count 162 = .ok (.iaload, 1) := by decide +kernel
theorem dX9_count_163 : decode cX9_count 163 = .ok (.ireturn, 1) := by decide +kernel
theorem dX9_count_164 : decode cX9_count 164 = .ok (.aload_n 0, 1) := by decide +kernel
theorem dX9_count_165 : decode cX9_count 165 = .ok (.getfield 7, 3) := by decide +kernel
theorem dX9_count_168 : decode cX9_count 168 = .ok (.bipush 7, 2) := by decide +kernel
theorem dX9_count_170 : decode cX9_count 170 = .ok (.iaload, 1) := by decide +kernel
theorem dX9_count_171 : decode cX9_count 171 = .ok (.ireturn, 1) := by decide +kernel
theorem dX9_count_172 : decode cX9_count 172 = .ok (.aload_n 0, 1) := by decide +kernel
theorem dX9_count_173 : decode cX9_count 173 = .ok (.getfield 7, 3) := by decide +kernel
theorem dX9_count_176 : decode cX9_count 176 = .ok (.bipush 8, 2) := by decide +kernel
theorem dX9_count_178 : decode cX9_count 178 = .ok (.iaload, 1) := by decide +kernel
theorem dX9_count_179 : decode cX9_count 179 = .ok (.ireturn, 1) := by decide +kernel
theorem dX9_count_180 : decode cX9_count 180 = .ok (.aload_n 0, 1) := by decide +kernel
theorem dX9_count_181 : decode cX9_count 181 = .ok (.getfield 7, 3) := by decide +kernel
theorem dX9_count_184 : decode cX9_count 184 = .ok (.bipush 10, 2) := by decide +kernel
theorem dX9_count_186 : decode cX9_count 186 = .ok (.iaload, 1) := by decide +kernel
theorem dX9_count_187 : decode cX9_count 187 = .ok (.ireturn, 1) := by decide +kernel
theorem dX9_count_188 : decode cX9_count 188 = .ok (.aload_n 0, 1) := by decide +kernel
theorem dX9_count_189 : decode cX9_count 189 = .ok (.getfield 388, 3) := by decide +kernel
theorem dX9_count_192 : decode cX9_count 192 = .ok (.ireturn, 1) := by decide +kernel
theorem dX9_count_193 : decode cX9_count 193 = .ok (.aload_n 0, 1) := by decide +kernel
theorem dX9_count_194 : decode cX9_count 194 = .ok (.getfield 140, 3) := by decide +kernel
theorem dX9_count_197 : decode cX9_count 197 = .ok (.ireturn, 1) := by decide +kernel
theorem dX9_count_198 : decode cX9_count 198 = .ok (.aload_n 0, 1) := by decide +kernel
theorem dX9_count_199 : decode cX9_count 199 = .ok (.getfield 7, 3) := by decide +kernel
theorem dX9_count_202 : decode cX9_count 202 = .ok (.iconst 0, 1) := by decide +kernel
theorem dX9_count_203 : decode cX9_count 203 = .ok (.iaload, 1) := by decide +kernel
theorem dX9_count_204 : decode cX9_count 204 = .ok (.ireturn, 1) := by decide +kernel
theorem dX9_count_205 : decode cX9_count 205 = .ok (.aload_n 0, 1) := by decide +kernel
theorem dX9_count_206 : decode cX9_count 206 = .ok (.getfield 7, 3) := by decide +kernel
theorem dX9_count_209 : decode cX9_count 209 = .ok (.bipush 9, 2) := by decide +kernel
theorem dX9_count_211 : decode cX9_count 211 = .ok (.iaload, 1) := by decide +kernel
theorem dX9_count_212 : decode cX9_count 212 = .ok (.ireturn, 1) := by decide +kernel
theorem dX9_count_213 : decode cX9_count 213 = .ok (.ldc 87, 2) := by decide +kernel
theorem dX9_count_215 : decode cX9_count 215 = .ok (.ireturn, 1) := by decide +kernel
