theorem dX0_init_0 : decode cX0_init 0 = .ok (.aload_n 0, 1) := by decide +kernel
theorem dX0_init_1 : decode cX0_init 1 = .ok (.invokespecial 3, 3) := by decide +kernel
theorem dX0_init_4 : decode cX0_init 4 = .ok (.aload_n 0, 1) := by decide +kernel
theorem dX0_init_5 : decode cX0_init 5 = .ok (.bipush 10, 2) := by decide +kernel
theorem dX0_init_7 : decode cX0_init 7 = .ok (.newarray .int, 2) := by decide +kernel
theorem dX0_init_9 : decode cX0_init 9 = .ok (.putfield 9, 3) := by decide +kernel
theorem dX0_init_12 : decode cX0_init 12 = .ok (.aload_n 0, 1) := by decide +kernel
theorem dX0_init_13 : decode cX0_init 13 = .ok (.bipush 10, 2) := by decide +kernel
theorem dX0_init_15 : decode cX0_init 15 = .ok (.newarray .int, 2) := by decide +kernel
theorem dX0_init_17 : decode cX0_init 17 = .ok (.putfield 15, 3) := by decide +kernel
theorem dX0_init_20 : decode cX0_init 20 = .ok (.aload_n 0, 1) := by decide +kernel
theorem dX0_init_21 : decode cX0_init 21 = .ok (.iconst 4, 1) := by decide +kernel
theorem dX0_init_22 : decode cX0_init 22 = .ok (.newarray .int, 2) := by decide +kernel
theorem dX0_init_24 : decode cX0_init 24 = .ok (.putfield 18, 3) := by decide +kernel
theorem dX0_init_27 : decode cX0_init 27 = .ok (.aload_n 0, 1) := by decide +kernel
theorem dX0_init_28 : decode cX0_init 28 = .ok (.iconst 4, 1) := by decide +kernel
theorem dX0_init_29 : decode cX0_init 29 = .ok (.newarray .int, 2) := by decide +kernel
theorem dX0_init_31 : decode cX0_init 31 = .ok (.putfield 21, 3) := by decide +kernel
theorem dX0_init_34 : decode cX0_init 34 = .ok (.aload_n 0, 1) := by decide +kernel
theorem dX0_init_35 : decode cX0_init 35 = .ok (.bipush 56, 2) := by decide +kernel
theorem dX0_init_37 : decode cX0_init 37 = .ok (.newarray .int, 2) := by decide +kernel
theorem dX0_init_39 : decode cX0_init 39 = .ok (.putfield 24, 3) := by decide +kernel
theorem dX0_init_42 : decode cX0_init 42 = .ok (.aload_n 0, 1) := by decide +kernel
theorem dX0_init_43 : decode cX0_init 43 = .ok (.iconst 5, 1) := by decide +kernel
theorem dX0_init_44 : decode cX0_init 44 = .ok (.newarray .int, 2) := by decide +kernel
theorem dX0_init_46 : decode cX0_init 46 = .ok (.putfield 27, 3) := by decide +kernel
theorem dX0_init_49 : decode cX0_init 49 = .ok (.aload_n 0, 1) := by decide +kernel
theorem dX0_init_50 : decode cX0_init 50 = .ok (.aload_n 1, 1) := by decide +kernel
theorem dX0_init_51 : decode cX0_init 51 = .ok (.putfield 30, 3) := by decide +kernel
theorem dX0_init_54 : decode cX0_init 54 = .ok (.return_, 1) := by decide +kernel
theorem dX0_begin_0 : decode cX0_begin 0 = .ok (.iload_n 3, 1) := by decide +kernel
theorem dX0_begin_1 : decode cX0_begin 1 = .ok (.invokestatic 34, 3) := by decide +kernel
theorem dX0_begin_4 : decode cX0_begin 4 = .ok (.iconst 4, 1) := by decide +kernel
theorem dX0_begin_5 : decode cX0_begin 5 = .ok (.if_icmp .le 5, 3) := by decide +kernel
theorem dX0_begin_8 : decode cX0_begin 8 = .ok (.iconst 0, 1) := by decide +kernel
theorem dX0_begin_9 : decode cX0_begin 9 = .ok (.ireturn, 1) := by decide +kernel
theorem dX0_begin_10 : decode cX0_begin 10 = .ok (.aload_n 0, 1) := by decide +kernel
theorem dX0_begin_11 : decode cX0_begin 11 = .ok (.iconst 0, 1) := by decide +kernel
theorem dX0_begin_12 : decode cX0_begin 12 = .ok (.putfield 40, 3) := by decide +kernel
theorem dX0_begin_15 : decode cX0_begin 15 = .ok (.iconst 0, 1) := by decide +kernel
theorem dX0_begin_16 : decode cX0_begin 16 = .ok (.istore 4, 2) := by decide +kernel
theorem dX0_begin_18 : decode cX0_begin 18 = .ok (.iload 4, 2) := by decide +kernel
theorem dX0_begin_20 : decode cX0_begin 20 = .ok (.aload_n 0, 1) := by decide +kernel
theorem dX0_begin_21 : decode cX0_begin 21 = .ok (.getfield 30, 3) := by decide +kernel
theorem dX0_begin_24 : decode cX0_begin 24 = .ok (.getfield 44, 3) := by decide +kernel
theorem dX0_begin_27 : decode cX0_begin 27 = .ok (.if_icmp .ge 82, 3) := by decide +kernel
theorem dX0_begin_30 : decode cX0_begin 30 = .ok (.aload_n 0, 1) := by decide +kernel
theorem dX0_begin_31 : decode cX0_begin 31 = .ok (.getfield 9, 3) := by decide +kernel
theorem dX0_begin_34 : decode cX0_begin 34 = .ok (.iload 4, 2) := by decide +kernel
theorem dX0_begin_36 : decode cX0_begin 36 = .ok (.iload 4, 2) := by decide +kernel
theorem dX0_begin_38 : decode cX0_begin 38 = .ok (.iload_n 1, 1) := by decide +kernel
theorem dX0_begin_39 : decode cX0_begin 39 = .ok (.if_icmp .ne 7, 3) := by decide +kernel
theorem dX0_begin_42 : decode cX0_begin 42 = .ok (.iload_n 2, 1) := by decide +kernel
theorem dX0_begin_43 : decode cX0_begin 43 = .ok (.goto 13, 3) := by decide +kernel
theorem dX0_begin_46 : decode cX0_begin 46 = .ok (.aload_n 0, 1) := by decide +kernel
theorem dX0_begin_47 : decode cX0_begin 47 = .ok (.getfield 30, 3) := by decide +kernel
theorem dX0_begin_50 : decode cX0_begin 50 = .ok (.getfield 49, 3) := by decide +kernel
theorem dX0_begin_53 : decode cX0_begin 53 = .ok (.iload 4, 2) := by decide +kernel
theorem dX0_begin_55 : decode cX0_begin 55 = .ok (.iaload, 1) := by decide +kernel
theorem dX0_begin_56 : decode cX0_begin 56 = .ok (.iastore, 1) := by decide +kernel
theorem dX0_begin_57 : decode cX0_begin 57 = .ok (.iload_n 3, 1) := by decide +kernel
theorem dX0_begin_58 : decode cX0_begin 58 = .ok (.iload 4, 2) := by decide +kernel
theorem dX0_begin_60 : decode cX0_begin 60 = .ok (.ishr, 1) := by decide +kernel
theorem dX0_begin_61 : decode cX0_begin 61 = .ok (.iconst 1, 1) := by decide +kernel
theorem dX0_begin_62 : decode cX0_begin 62 = .ok (.iand, 1) := by decide +kernel
theorem dX0_begin_63 : decode cX0_begin 63 = .ok (.ifCond .eq 40, 3) := by decide +kernel
theorem dX0_begin_66 : decode cX0_begin 66 = .ok (.aload_n 0, 1) := by decide +kernel
theorem dX0_begin_67 : decode cX0_begin 67 = .ok (.getfield 40, 3) := by decide +kernel
theorem dX0_begin_70 : decode cX0_begin 70 = .ok (.iconst 4, 1) := by decide +kernel
theorem dX0_begin_71 : decode cX0_begin 71 = .ok (.if_icmp .ge 32, 3) := by decide +kernel
theorem dX0_begin_74 : decode cX0_begin 74 = .ok (.aload_n 0, 1) := by decide +kernel
theorem dX0_begin_75 : decode cX0_begin 75 = .ok (.getfield 9, 3) := by decide +kernel
theorem dX0_begin_78 : decode cX0_begin 78 = .ok (.iload 4, 2) := by decide +kernel
theorem dX0_begin_80 : decode cX0_begin 80 = .ok (.iconst (-1), 1) := by decide +kernel
theorem dX0_begin_81 : decode cX0_begin 81 = .ok (.iastore, 1) := by decide +kernel
theorem dX0_begin_82 : decode cX0_begin 82 = .ok (.aload_n 0, 1) := by decide +kernel
theorem dX0_begin_83 : decode cX0_begin 83 = .ok (.getfield 18, 3) := by decide +kernel
theorem dX0_begin_86 : decode cX0_begin 86 = .ok (.aload_n 0, 1) := by decide +kernel
theorem dX0_begin_87 : decode cX0_begin 87 = .ok (.getfield 40, 3) := by decide +kernel
theorem dX0_begin_90 : decode cX0_begin 90 = .ok (.iload 4, 2) := by decide +kernel
theorem dX0_begin_92 : decode cX0_begin 92 = .ok (.iastore, 1) := by decide +kernel
theorem dX0_begin_93 : decode cX0_begin 93 = .ok (.aload_n 0, 1) := by decide +kernel
theorem dX0_begin_94 : decode cX0_begin 94 = .ok (.dup, 1) := by decide +kernel
theorem dX0_begin_95 : decode cX0_begin 95 = .ok (.getfield 40, 3) := by decide +kernel
theorem dX0_begin_98 : decode cX0_begin 98 = .ok (.iconst 1, 1) := by decide +kernel
theorem dX0_begin_99 : decode cX0_begin 99 = .ok (.iadd, 1) := by decide +kernel
theorem dX0_begin_100 : decode cX0_begin 100 = .ok (.putfield 40, 3) := by decide +kernel
theorem dX0_begin_103 : decode cX0_begin 103 = .ok (.iinc 4 1, 3) := by decide +kernel
theorem dX0_begin_106 : decode cX0_begin 106 = .ok (.goto (-88), 3) := by decide +kernel
theorem dX0_begin_109 : decode cX0_begin 109 = .ok (.aload_n 0, 1) := by decide +kernel
theorem dX0_begin_110 : decode cX0_begin 110 = .ok (.getfield 30, 3) := by decide +kernel
theorem dX0_begin_113 : decode cX0_begin 113 = .ok (.invokevirtual 52, 3) := by decide +kernel
theorem dX0_begin_116 : decode cX0_begin 116 = .ok (.istore 4, 2) := by decide +kernel
theorem dX0_begin_118 : decode cX0_begin 118 = .ok (.iconst 0, 1) := by decide +kernel
theorem dX0_begin_119 : decode cX0_begin 119 = .ok (.istore 5, 2) := by decide +kernel
theorem dX0_begin_121 : decode cX0_begin 121 = .ok (.iload 5, 2) := by decide +kernel
theorem dX0_begin_123 : decode cX0_begin 123 = .ok (.aload_n 0, 1) := by decide +kernel
theorem dX0_begin_124 : decode cX0_begin 124 = .ok (.getfield 40, 3) := by decide +kernel
theorem dX0_begin_127 : decode cX0_begin 127 = .ok (.if_icmp .ge 30, 3) := by decide +kernel
theorem dX0_begin_130 : decode cX0_begin 130 = .ok (.aload_n 0, 1) := by decide +kernel
theorem dX0_begin_131 : decode cX0_begin 131 = .ok (.getfield 21, 3) := by decide +kernel
theorem dX0_begin_134 : decode cX0_begin 134 = .ok (.iload 5, 2) := by decide +kernel
theorem dX0_begin_136 : decode cX0_begin 136 = .ok (.iload 4, 2) := by decide +kernel
theorem dX0_begin_138 : decode cX0_begin 138 = .ok (.aload_n 0, 1) := by decide +kernel
theorem dX0_begin_139 : decode cX0_begin 139 = .ok (.aload_n 0, 1) := by decide +kernel
theorem dX0_begin_140 : decode cX0_begin 140 = .ok (.getfield 18, 3) := by decide +kernel
theorem dX0_begin_143 : decode cX0_begin 143 = .ok (.iload 5, 2) := by decide +kernel
theorem dX0_begin_145 : decode cX0_begin 145 = .ok (.iaload, 1) := by decide +kernel
theorem dX0_begin_146 : decode cX0_begin 146 = .ok (.invokevirtual 56, 3) := by decide +kernel
theorem dX0_begin_149 : decode cX0_begin 149 = .ok (.iand, 1) := by decide +kernel
theorem dX0_begin_150 : decode cX0_begin 150 = .ok (.iastore, 1) := by decide +kernel
theorem dX0_begin_151 : decode cX0_begin 151 = .ok (.iinc 5 1, 3) := by decide +kernel
theorem dX0_begin_154 : decode cX0_begin 154 = .ok (.goto (-33), 3) := by decide +kernel
theorem dX0_begin_157 : decode cX0_begin 157 = .ok (.iconst 1, 1) := by decide +kernel
theorem dX0_begin_158 : decode cX0_begin 158 = .ok (.ireturn, 1) := by decide +kernel
theorem dX0_leftBeside_0 : decode cX0_leftBeside 0 = .ok (.iconst (-1), 1) := by decide +kernel
theorem dX0_leftBeside_1 : decode cX0_leftBeside 1 = .ok (.istore_n 2, 1) := by decide +kernel
theorem dX0_leftBeside_2 : decode cX0_leftBeside 2 = .ok (.iconst 0, 1) := by decide +kernel
theorem dX0_leftBeside_3 : decode cX0_leftBeside 3 = .ok (.istore_n 3, 1) := by decide +kernel
theorem dX0_leftBeside_4 : decode cX0_leftBeside 4 = .ok (.iload_n 3, 1) := by decide +kernel
theorem dX0_leftBeside_5 : decode cX0_leftBeside 5 = .ok (.aload_n 0, 1) := by decide +kernel
theorem dX0_leftBeside_6 : decode cX0_leftBeside 6 = .ok (.getfield 30, 3) := by decide +kernel
theorem dX0_leftBeside_9 : decode cX0_leftBeside 9 = .ok (.getfield 44, 3) := by decide +kernel
theorem dX0_leftBeside_12 : decode cX0_leftBeside 12 = .ok (.if_icmp .ge 51, 3) := by decide +kernel
theorem dX0_leftBeside_15 : decode cX0_leftBeside 15 = .ok (.aload_n 0, 1) := by decide +kernel
theorem dX0_leftBeside_16 : decode cX0_leftBeside 16 = .ok (.getfield 30, 3) := by decide +kernel
theorem dX0_leftBeside_19 : decode cX0_leftBeside 19 = .ok (.getfield 59, 3) := by decide +kernel
theorem dX0_leftBeside_22 : decode cX0_leftBeside 22 = .ok (.iload_n 1, 1) := by decide +kernel
theorem dX0_leftBeside_23 : decode cX0_leftBeside 23 = .ok (.iaload, 1) := by decide +kernel
theorem dX0_leftBeside_24 : decode cX0_leftBeside 24 = .ok (.iload_n 3, 1) := by decide +kernel
theorem dX0_leftBeside_25 : decode cX0_leftBeside 25 = .ok (.ishr, 1) := by decide +kernel
theorem dX0_leftBeside_26 : decode cX0_leftBeside 26 = .ok (.iconst 1, 1) := by decide +kernel
theorem dX0_leftBeside_27 : decode cX0_leftBeside 27 = .ok (.iand, 1) := by decide +kernel
theorem dX0_leftBeside_28 : decode cX0_leftBeside 28 = .ok (.ifCond .eq 29, 3) := by decide +kernel
theorem dX0_leftBeside_31 : decode cX0_leftBeside 31 = .ok (.aload_n 0, 1) := by decide +kernel
theorem dX0_leftBeside_32 : decode cX0_leftBeside 32 = .ok (.getfield 9, 3) := by decide +kernel
theorem dX0_leftBeside_35 : decode cX0_leftBeside 35 = .ok (.iload_n 3, 1) := by decide +kernel
theorem dX0_leftBeside_36 : decode cX0_leftBeside 36 = .ok (.iaload, 1) := by decide +kernel
theorem dX0_leftBeside_37 : decode cX0_leftBeside 37 = .ok (.ifCond .lt 20, 3) := by decide +kernel
theorem dX0_leftBeside_40 : decode cX0_leftBeside 40 = .ok (.iload_n 2, 1) := by decide +kernel
theorem dX0_leftBeside_41 : decode cX0_leftBeside 41 = .ok (.aload_n 0, 1) := by decide +kernel
theorem dX0_leftBeside_42 : decode cX0_leftBeside 42 = .ok (.getfield 30, 3) := by decide +kernel
theorem dX0_leftBeside_45 : decode cX0_leftBeside 45 = .ok (.getfield 62, 3) := by decide +kernel
theorem dX0_leftBeside_48 : decode cX0_leftBeside 48 = .ok (.aload_n 0, 1) := by decide +kernel
theorem dX0_leftBeside_49 : decode cX0_leftBeside 49 = .ok (.getfield 9, 3) := by decide +kernel
theorem dX0_leftBeside_52 : decode cX0_leftBeside 52 = .ok (.iload_n 3, 1) := by decide +kernel
theorem dX0_leftBeside_53 : decode cX0_leftBeside 53 = .ok (.iaload, 1) := by decide +kernel
theorem dX0_leftBeside_54 : decode cX0_leftBeside 54 = .ok (.iaload, 1) := by decide +kernel
theorem dX0_leftBeside_55 : decode cX0_leftBeside 55 = .ok (.iand, 1) := by decide +kernel
theorem dX0_leftBeside_56 : decode cX0_leftBeside 56 = .ok (.istore_n 2, 1) := by decide +kernel
theorem dX0_leftBeside_57 : decode cX0_leftBeside 57 = .ok (.iinc 3 1, 3) := by decide +kernel
theorem dX0_leftBeside_60 : decode cX0_leftBeside 60 = .ok (.goto (-56), 3) := by decide +kernel
theorem dX0_leftBeside_63 : decode cX0_leftBeside 63 = .ok (.iload_n 2, 1) := by decide +kernel
theorem dX0_leftBeside_64 : decode cX0_leftBeside 64 = .ok (.ireturn, 1) := by decide +kernel
theorem dX0_openNow_0 : decode cX0_openNow 0 = .ok (.aload_n 0, 1) := by decide +kernel
theorem dX0_openNow_1 : decode cX0_openNow 1 = .ok (.getfield 21, 3) := by decide +kernel
theorem dX0_openNow_4 : decode cX0_openNow 4 = .ok (.iload_n 1, 1) := by decide +kernel
theorem dX0_openNow_5 : decode cX0_openNow 5 = .ok (.iaload, 1) := by decide +kernel
theorem dX0_openNow_6 : decode cX0_openNow 6 = .ok (.istore_n 2, 1) := by decide +kernel
theorem dX0_openNow_7 : decode cX0_openNow 7 = .ok (.aload_n 0, 1) := by decide +kernel
theorem dX0_openNow_8 : decode cX0_openNow 8 = .ok (.getfield 30, 3) := by decide +kernel
theorem dX0_openNow_11 : decode cX0_openNow 11 = .ok (.getfield 59, 3) := by decide +kernel
theorem dX0_openNow_14 : decode cX0_openNow 14 = .ok (.aload_n 0, 1) := by decide +kernel
theorem dX0_openNow_15 : decode cX0_openNow 15 = .ok (.getfield 18, 3) := by decide +kernel
theorem dX0_openNow_18 : decode cX0_openNow 18 = .ok (.iload_n 1, 1) := by decide +kernel
theorem dX0_openNow_19 : decode cX0_openNow 19 = .ok (.iaload, 1) := by decide +kernel
theorem dX0_openNow_20 : decode cX0_openNow 20 = .ok (.iaload, 1) := by decide +kernel
theorem dX0_openNow_21 : decode cX0_openNow 21 = .ok (.istore_n 3, 1) := by decide +kernel
theorem dX0_openNow_22 : decode cX0_openNow 22 = .ok (.iconst 0, 1) := by decide +kernel
theorem dX0_openNow_23 : decode cX0_openNow 23 = .ok (.istore 4, 2) := by decide +kernel
theorem dX0_openNow_25 : decode cX0_openNow 25 = .ok (.iload 4, 2) := by decide +kernel
theorem dX0_openNow_27 : decode cX0_openNow 27 = .ok (.iload_n 1, 1) := by decide +kernel
theorem dX0_openNow_28 : decode cX0_openNow 28 = .ok (.if_icmp .ge 61, 3) := by decide +kernel
theorem dX0_openNow_31 : decode cX0_openNow 31 = .ok (.iload_n 3, 1) := by decide +kernel
theorem dX0_openNow_32 : decode cX0_openNow 32 = .ok (.aload_n 0, 1) := by decide +kernel
theorem dX0_openNow_33 : decode cX0_openNow 33 = .ok (.getfield 18, 3) := by decide +kernel
theorem dX0_openNow_36 : decode cX0_openNow 36 = .ok (.iload 4, 2) := by decide +kernel
theorem dX0_openNow_38 : decode cX0_openNow 38 = .ok (.iaload, 1) := by decide +kernel
theorem dX0_openNow_39 : decode cX0_openNow 39 = .ok (.ishr, 1) := by decide +kernel
theorem dX0_openNow_40 : decode cX0_openNow 40 = .ok (.iconst 1, 1) := by decide +kernel
theorem dX0_openNow_41 : decode cX0_openNow 41 = .ok (.iand, 1) := by decide +kernel
theorem dX0_openNow_42 : decode cX0_openNow 42 = .ok (.ifCond .eq 41, 3) := by decide +kernel
theorem dX0_openNow_45 : decode cX0_openNow 45 = .ok (.aload_n 0, 1) := by decide +kernel
theorem dX0_openNow_46 : decode cX0_openNow 46 = .ok (.getfield 9, 3) := by decide +kernel
theorem dX0_openNow_49 : decode cX0_openNow 49 = .ok (.aload_n 0, 1) := by decide +kernel
theorem dX0_openNow_50 : decode cX0_openNow 50 = .ok (.getfield 18, 3) := by decide +kernel
theorem dX0_openNow_53 : decode cX0_openNow 53 = .ok (.iload 4, 2) := by decide +kernel
theorem dX0_openNow_55 : decode cX0_openNow 55 = .ok (.iaload, 1) := by decide +kernel
theorem dX0_openNow_56 : decode cX0_openNow 56 = .ok (.iaload, 1) := by decide +kernel
theorem dX0_openNow_57 : decode cX0_openNow 57 = .ok (.ifCond .lt 26, 3) := by decide +kernel
theorem dX0_openNow_60 : decode cX0_openNow 60 = .ok (.iload_n 2, 1) := by decide +kernel
theorem dX0_openNow_61 : decode cX0_openNow 61 = .ok (.aload_n 0, 1) := by decide +kernel
theorem dX0_openNow_62 : decode cX0_openNow 62 = .ok (.getfield 30, 3) := by decide +kernel
theorem dX0_openNow_65 : decode cX0_openNow 65 = .ok (.getfield 62, 3) := by decide +kernel
theorem dX0_openNow_68 : decode cX0_openNow 68 = .ok (.aload_n 0, 1) := by decide +kernel
theorem dX0_openNow_69 : decode cX0_openNow 69 = .ok (.getfield 9, 3) := by decide +kernel
theorem dX0_openNow_72 : decode cX0_openNow 72 = .ok (.aload_n 0, 1) := by decide +kernel
theorem dX0_openNow_73 : decode cX0_openNow 73 = .ok (.getfield 18, 3) := by decide +kernel
theorem dX0_openNow_76 : decode cX0_openNow 76 = .ok (.iload 4, 2) := by decide +kernel
theorem dX0_openNow_78 : decode cX0_openNow 78 = .ok (.iaload, 1) := by decide +kernel
theorem dX0_openNow_79 : decode cX0_openNow 79 = .ok (.iaload, 1) := by decide +kernel
theorem dX0_openNow_80 : decode cX0_openNow 80 = .ok (.iaload, 1) := by decide +kernel
theorem dX0_openNow_81 : decode cX0_openNow 81 = .ok (.iand, 1) := by decide +kernel
theorem dX0_openNow_82 : decode cX0_openNow 82 = .ok (.istore_n 2, 1) := by decide +kernel
theorem dX0_openNow_83 : decode cX0_openNow 83 = .ok (.iinc 4 1, 3) := by decide +kernel
theorem dX0_openNow_86 : decode cX0_openNow 86 = .ok (.goto (-61), 3) := by decide +kernel
theorem dX0_openNow_89 : decode cX0_openNow 89 = .ok (.iload_n 2, 1) := by decide +kernel
theorem dX0_openNow_90 : decode cX0_openNow 90 = .ok (.ireturn, 1) := by decide +kernel
theorem dX0_tally_0 : decode cX0_tally 0 = .ok (.aload_n 0, 1) := by decide +kernel
theorem dX0_tally_1 : decode cX0_tally 1 = .ok (.iconst 0, 1) := by decide +kernel
theorem dX0_tally_2 : decode cX0_tally 2 = .ok (.invokevirtual 65, 3) := by decide +kernel
theorem dX0_tally_5 : decode cX0_tally 5 = .ok (.ireturn, 1) := by decide +kernel
theorem dX0_tallyFrom_0 : decode cX0_tallyFrom 0 = .ok (.iload_n 1, 1) := by decide +kernel
theorem dX0_tallyFrom_1 : decode cX0_tallyFrom 1 = .ok (.aload_n 0, 1) := by decide +kernel
theorem dX0_tallyFrom_2 : decode cX0_tallyFrom 2 = .ok (.getfield 40, 3) := by decide +kernel
theorem dX0_tallyFrom_5 : decode cX0_tallyFrom 5 = .ok (.if_icmp .lt 5, 3) := by decide +kernel
theorem dX0_tallyFrom_8 : decode cX0_tallyFrom 8 = .ok (.iconst 1, 1) := by decide +kernel
theorem dX0_tallyFrom_9 : decode cX0_tallyFrom 9 = .ok (.ireturn, 1) := by decide +kernel
theorem dX0_tallyFrom_10 : decode cX0_tallyFrom 10 = .ok (.aload_n 0, 1) := by decide +kernel
theorem dX0_tallyFrom_11 : decode cX0_tallyFrom 11 = .ok (.iload_n 1, 1) := by decide +kernel
theorem dX0_tallyFrom_12 : decode cX0_tallyFrom 12 = .ok (.invokevirtual 68, 3) := by decide +kernel
theorem dX0_tallyFrom_15 : decode cX0_tallyFrom 15 = .ok (.istore_n 2, 1) := by decide +kernel
theorem dX0_tallyFrom_16 : decode cX0_tallyFrom 16 = .ok (.iload_n 1, 1) := by decide +kernel
theorem dX0_tallyFrom_17 : decode cX0_tallyFrom 17 = .ok (.aload_n 0, 1) := by decide +kernel
theorem dX0_tallyFrom_18 : decode cX0_tallyFrom 18 = .ok (.getfield 40, 3) := by decide +kernel
theorem dX0_tallyFrom_21 : decode cX0_tallyFrom 21 = .ok (.iconst 1, 1) := by decide +kernel
theorem dX0_tallyFrom_22 : decode cX0_tallyFrom 22 = .ok (.isub, 1) := by decide +kernel
theorem dX0_tallyFrom_23 : decode cX0_tallyFrom 23 = .ok (.if_icmp .ne 8, 3) := by decide +kernel
theorem dX0_tallyFrom_26 : decode cX0_tallyFrom 26 = .ok (.iload_n 2, 1) := by decide +kernel
theorem dX0_tallyFrom_27 : decode cX0_tallyFrom 27 = .ok (.invokestatic 34, 3) := by decide +kernel
theorem dX0_tallyFrom_30 : decode cX0_tallyFrom 30 = .ok (.ireturn, 1) := by decide +kernel
theorem dX0_tallyFrom_31 : decode cX0_tallyFrom 31 = .ok (.iconst 0, 1) := by decide +kernel
theorem dX0_tallyFrom_32 : decode cX0_tallyFrom 32 = .ok (.istore_n 3, 1) := by decide +kernel
theorem dX0_tallyFrom_33 : decode cX0_tallyFrom 33 = .ok (.iconst 0, 1) := by decide +kernel
theorem dX0_tallyFrom_34 : decode cX0_tallyFrom 34 = .ok (.istore 4, 2) := by decide +kernel
theorem dX0_tallyFrom_36 : decode cX0_tallyFrom 36 = .ok (.iload 4, 2) := by decide +kernel
theorem dX0_tallyFrom_38 : decode cX0_tallyFrom 38 = .ok (.aload_n 0, 1) := by decide +kernel
theorem dX0_tallyFrom_39 : decode cX0_tallyFrom 39 = .ok (.getfield 30, 3) := by decide +kernel
theorem dX0_tallyFrom_42 : decode cX0_tallyFrom 42 = .ok (.getfield 71, 3) := by decide +kernel
theorem dX0_tallyFrom_45 : decode cX0_tallyFrom 45 = .ok (.if_icmp .ge 41, 3) := by decide +kernel
theorem dX0_tallyFrom_48 : decode cX0_tallyFrom 48 = .ok (.iload_n 2, 1) := by decide +kernel
theorem dX0_tallyFrom_49 : decode cX0_tallyFrom 49 = .ok (.iload 4, 2) := by decide +kernel
theorem dX0_tallyFrom_51 : decode cX0_tallyFrom 51 = .ok (.ishr, 1) := by decide +kernel
theorem dX0_tallyFrom_52 : decode cX0_tallyFrom 52 = .ok (.iconst 1, 1) := by decide +kernel
theorem dX0_tallyFrom_53 : decode cX0_tallyFrom 53 = .ok (.iand, 1) := by decide +kernel
theorem dX0_tallyFrom_54 : decode cX0_tallyFrom 54 = .ok (.ifCond .eq 26, 3) := by decide +kernel
theorem dX0_tallyFrom_57 : decode cX0_tallyFrom 57 = .ok (.aload_n 0, 1) := by decide +kernel
theorem dX0_tallyFrom_58 : decode cX0_tallyFrom 58 = .ok (.getfield 9, 3) := by decide +kernel
theorem dX0_tallyFrom_61 : decode cX0_tallyFrom 61 = .ok (.aload_n 0, 1) := by decide +kernel
theorem dX0_tallyFrom_62 : decode cX0_tallyFrom 62 = .ok (.getfield 18, 3) := by decide +kernel
theorem dX0_tallyFrom_65 : decode cX0_tallyFrom 65 = .ok (.iload_n 1, 1) := by decide +kernel
theorem dX0_tallyFrom_66 : decode cX0_tallyFrom 66 = .ok (.iaload, 1) := by decide +kernel
theorem dX0_tallyFrom_67 : decode cX0_tallyFrom 67 = .ok (.iload 4, 2) := by decide +kernel
theorem dX0_tallyFrom_69 : decode cX0_tallyFrom 69 = .ok (.iastore, 1) := by decide +kernel
theorem dX0_tallyFrom_70 : decode cX0_tallyFrom 70 = .ok (.iload_n 3, 1) := by decide +kernel
theorem dX0_tallyFrom_71 : decode cX0_tallyFrom 71 = .ok (.aload_n 0, 1) := by decide +kernel
theorem dX0_tallyFrom_72 : decode cX0_tallyFrom 72 = .ok (.iload_n 1, 1) := by decide +kernel
theorem dX0_tallyFrom_73 : decode cX0_tallyFrom 73 = .ok (.iconst 1, 1) := by decide +kernel
theorem dX0_tallyFrom_74 : decode cX0_tallyFrom 74 = .ok (.iadd, 1) := by decide +kernel
theorem dX0_tallyFrom_75 : decode cX0_tallyFrom 75 = .ok (.invokevirtual 65, 3) := by decide +kernel
theorem dX0_tallyFrom_78 : decode cX0_tallyFrom 78 = .ok (.iadd, 1) := by decide +kernel
theorem dX0_tallyFrom_79 : decode cX0_tallyFrom 79 = .ok (.istore_n 3, 1) := by decide +kernel
theorem dX0_tallyFrom_80 : decode cX0_tallyFrom 80 = .ok (.iinc 4 1, 3) := by decide +kernel
theorem dX0_tallyFrom_83 : decode cX0_tallyFrom 83 = .ok (.goto (-47), 3) := by decide +kernel
theorem dX0_tallyFrom_86 : decode cX0_tallyFrom 86 = .ok (.iload_n 3, 1) := by decide +kernel
theorem dX0_tallyFrom_87 : decode cX0_tallyFrom 87 = .ok (.ireturn, 1) := by decide +kernel
theorem dX0_seek_0 : decode cX0_seek 0 = .ok (.aload_n 0, 1) := by decide +kernel
theorem dX0_seek_1 : decode cX0_seek 1 = .ok (.iload_n 1, 1) := by decide +kernel
theorem dX0_seek_2 : decode cX0_seek 2 = .ok (.putfield 74, 3) := by decide +kernel
theorem dX0_seek_5 : decode cX0_seek 5 = .ok (.aload_n 0, 1) := by decide +kernel
theorem dX0_seek_6 : decode cX0_seek 6 = .ok (.iconst 0, 1) := by decide +kernel
theorem dX0_seek_7 : decode cX0_seek 7 = .ok (.putfield 77, 3) := by decide +kernel
theorem dX0_seek_10 : decode cX0_seek 10 = .ok (.aload_n 0, 1) := by decide +kernel
theorem dX0_seek_11 : decode cX0_seek 11 = .ok (.getfield 74, 3) := by decide +kernel
theorem dX0_seek_14 : decode cX0_seek 14 = .ok (.iconst 1, 1) := by decide +kernel
theorem dX0_seek_15 : decode cX0_seek 15 = .ok (.if_icmp .ne 7, 3) := by decide +kernel
theorem dX0_seek_18 : decode cX0_seek 18 = .ok (.aload_n 0, 1) := by decide +kernel
theorem dX0_seek_19 : decode cX0_seek 19 = .ok (.invokevirtual 81, 3) := by decide +kernel
theorem dX0_seek_22 : decode cX0_seek 22 = .ok (.aload_n 0, 1) := by decide +kernel
theorem dX0_seek_23 : decode cX0_seek 23 = .ok (.iconst 0, 1) := by decide +kernel
theorem dX0_seek_24 : decode cX0_seek 24 = .ok (.iconst 0, 1) := by decide +kernel
theorem dX0_seek_25 : decode cX0_seek 25 = .ok (.aload_n 0, 1) := by decide +kernel
theorem dX0_seek_26 : decode cX0_seek 26 = .ok (.invokevirtual 84, 3) := by decide +kernel
theorem dX0_seek_29 : decode cX0_seek 29 = .ok (.invokevirtual 87, 3) := by decide +kernel
theorem dX0_seek_32 : decode cX0_seek 32 = .ok (.aload_n 0, 1) := by decide +kernel
theorem dX0_seek_33 : decode cX0_seek 33 = .ok (.getfield 77, 3) := by decide +kernel
theorem dX0_seek_36 : decode cX0_seek 36 = .ok (.ireturn, 1) := by decide +kernel
theorem dX0_score_0 : decode cX0_score 0 = .ok (.aload_n 0, 1) := by decide +kernel
theorem dX0_score_1 : decode cX0_score 1 = .ok (.getfield 91, 3) := by decide +kernel
theorem dX0_score_4 : decode cX0_score 4 = .ok (.ireturn, 1) := by decide +kernel
theorem dX0_nameThen_0 : decode cX0_nameThen 0 = .ok (.aload_n 0, 1) := by decide +kernel
theorem dX0_nameThen_1 : decode cX0_nameThen 1 = .ok (.getfield 15, 3) := by decide +kernel
theorem dX0_nameThen_4 : decode cX0_nameThen 4 = .ok (.iload_n 1, 1) := by decide +kernel
theorem dX0_nameThen_5 : decode cX0_nameThen 5 = .ok (.iaload, 1) := by decide +kernel
theorem dX0_nameThen_6 : decode cX0_nameThen 6 = .ok (.ireturn, 1) := by decide +kernel
theorem dX0_carryOut_0 : decode cX0_carryOut 0 = .ok (.aload_n 0, 1) := by decide +kernel
theorem dX0_carryOut_1 : decode cX0_carryOut 1 = .ok (.getfield 15, 3) := by decide +kernel
theorem dX0_carryOut_4 : decode cX0_carryOut 4 = .ok (.iconst 0, 1) := by decide +kernel
theorem dX0_carryOut_5 : decode cX0_carryOut 5 = .ok (.aload_n 0, 1) := by decide +kernel
theorem dX0_carryOut_6 : decode cX0_carryOut 6 = .ok (.getfield 30, 3) := by decide +kernel
theorem dX0_carryOut_9 : decode cX0_carryOut 9 = .ok (.getfield 49, 3) := by decide +kernel
theorem dX0_carryOut_12 : decode cX0_carryOut 12 = .ok (.iconst 0, 1) := by decide +kernel
theorem dX0_carryOut_13 : decode cX0_carryOut 13 = .ok (.aload_n 0, 1) := by decide +kernel
theorem dX0_carryOut_14 : decode cX0_carryOut 14 = .ok (.getfield 30, 3) := by decide +kernel
theorem dX0_carryOut_17 : decode cX0_carryOut 17 = .ok (.getfield 44, 3) := by decide +kernel
theorem dX0_carryOut_20 : decode cX0_carryOut 20 = .ok (.invokestatic 94, 3) := by decide +kernel
theorem dX0_carryOut_23 : decode cX0_carryOut 23 = .ok (.return_, 1) := by decide +kernel
theorem dX0_lettersHeld_0 : decode cX0_lettersHeld 0 = .ok (.iconst 0, 1) := by decide +kernel
theorem dX0_lettersHeld_1 : decode cX0_lettersHeld 1 = .ok (.istore_n 1, 1) := by decide +kernel
theorem dX0_lettersHeld_2 : decode cX0_lettersHeld 2 = .ok (.iconst 0, 1) := by decide +kernel
theorem dX0_lettersHeld_3 : decode cX0_lettersHeld 3 = .ok (.istore_n 2, 1) := by decide +kernel
theorem dX0_lettersHeld_4 : decode cX0_lettersHeld 4 = .ok (.iload_n 2, 1) := by decide +kernel
theorem dX0_lettersHeld_5 : decode cX0_lettersHeld 5 = .ok (.aload_n 0, 1) := by decide +kernel
theorem dX0_lettersHeld_6 : decode cX0_lettersHeld 6 = .ok (.getfield 30, 3) := by decide +kernel
theorem dX0_lettersHeld_9 : decode cX0_lettersHeld 9 = .ok (.getfield 44, 3) := by decide +kernel
theorem dX0_lettersHeld_12 : decode cX0_lettersHeld 12 = .ok (.if_icmp .ge 35, 3) := by decide +kernel
theorem dX0_lettersHeld_15 : decode cX0_lettersHeld 15 = .ok (.aload_n 0, 1) := by decide +kernel
theorem dX0_lettersHeld_16 : decode cX0_lettersHeld 16 = .ok (.getfield 9, 3) := by decide +kernel
theorem dX0_lettersHeld_19 : decode cX0_lettersHeld 19 = .ok (.iload_n 2, 1) := by decide +kernel
theorem dX0_lettersHeld_20 : decode cX0_lettersHeld 20 = .ok (.iaload, 1) := by decide +kernel
theorem dX0_lettersHeld_21 : decode cX0_lettersHeld 21 = .ok (.ifCond .lt 20, 3) := by decide +kernel
theorem dX0_lettersHeld_24 : decode cX0_lettersHeld 24 = .ok (.iload_n 1, 1) := by decide +kernel
theorem dX0_lettersHeld_25 : decode cX0_lettersHeld 25 = .ok (.aload_n 0, 1) := by decide +kernel
theorem dX0_lettersHeld_26 : decode cX0_lettersHeld 26 = .ok (.getfield 30, 3) := by decide +kernel
theorem dX0_lettersHeld_29 : decode cX0_lettersHeld 29 = .ok (.getfield 100, 3) := by decide +kernel
theorem dX0_lettersHeld_32 : decode cX0_lettersHeld 32 = .ok (.aload_n 0, 1) := by decide +kernel
theorem dX0_lettersHeld_33 : decode cX0_lettersHeld 33 = .ok (.getfield 9, 3) := by decide +kernel
theorem dX0_lettersHeld_36 : decode cX0_lettersHeld 36 = .ok (.iload_n 2, 1) := by decide +kernel
theorem dX0_lettersHeld_37 : decode cX0_lettersHeld 37 = .ok (.iaload, 1) := by decide +kernel
theorem dX0_lettersHeld_38 : decode cX0_lettersHeld 38 = .ok (.iaload, 1) := by decide +kernel
theorem dX0_lettersHeld_39 : decode cX0_lettersHeld 39 = .ok (.ior, 1) := by decide +kernel
theorem dX0_lettersHeld_40 : decode cX0_lettersHeld 40 = .ok (.istore_n 1, 1) := by decide +kernel
theorem dX0_lettersHeld_41 : decode cX0_lettersHeld 41 = .ok (.iinc 2 1, 3) := by decide +kernel
theorem dX0_lettersHeld_44 : decode cX0_lettersHeld 44 = .ok (.goto (-40), 3) := by decide +kernel
theorem dX0_lettersHeld_47 : decode cX0_lettersHeld 47 = .ok (.iload_n 1, 1) := by decide +kernel
theorem dX0_lettersHeld_48 : decode cX0_lettersHeld 48 = .ok (.ireturn, 1) := by decide +kernel
theorem dX0_weigh_0 : decode cX0_weigh 0 = .ok (.aload_n 0, 1) := by decide +kernel
theorem dX0_weigh_1 : decode cX0_weigh 1 = .ok (.getfield 27, 3) := by decide +kernel
theorem dX0_weigh_4 : decode cX0_weigh 4 = .ok (.aload_n 0, 1) := by decide +kernel
theorem dX0_weigh_5 : decode cX0_weigh 5 = .ok (.getfield 40, 3) := by decide +kernel
theorem dX0_weigh_8 : decode cX0_weigh 8 = .ok (.iconst 0, 1) := by decide +kernel
theorem dX0_weigh_9 : decode cX0_weigh 9 = .ok (.iastore, 1) := by decide +kernel
theorem dX0_weigh_10 : decode cX0_weigh 10 = .ok (.aload_n 0, 1) := by decide +kernel
theorem dX0_weigh_11 : decode cX0_weigh 11 = .ok (.getfield 40, 3) := by decide +kernel
theorem dX0_weigh_14 : decode cX0_weigh 14 = .ok (.iconst 1, 1) := by decide +kernel
theorem dX0_weigh_15 : decode cX0_weigh 15 = .ok (.isub, 1) := by decide +kernel
theorem dX0_weigh_16 : decode cX0_weigh 16 = .ok (.istore_n 1, 1) := by decide +kernel
theorem dX0_weigh_17 : decode cX0_weigh 17 = .ok (.iload_n 1, 1) := by decide +kernel
theorem dX0_weigh_18 : decode cX0_weigh 18 = .ok (.ifCond .lt 90, 3) := by decide +kernel
theorem dX0_weigh_21 : decode cX0_weigh 21 = .ok (.iconst 0, 1) := by decide +kernel
theorem dX0_weigh_22 : decode cX0_weigh 22 = .ok (.istore_n 2, 1) := by decide +kernel
theorem dX0_weigh_23 : decode cX0_weigh 23 = .ok (.iload_n 2, 1) := by decide +kernel
theorem dX0_weigh_24 : decode cX0_weigh 24 = .ok (.aload_n 0, 1) := by decide +kernel
theorem dX0_weigh_25 : decode cX0_weigh 25 = .ok (.getfield 30, 3) := by decide +kernel
theorem dX0_weigh_28 : decode cX0_weigh 28 = .ok (.getfield 71, 3) := by decide +kernel
theorem dX0_weigh_31 : decode cX0_weigh 31 = .ok (.if_icmp .ge 51, 3) := by decide +kernel
theorem dX0_weigh_34 : decode cX0_weigh 34 = .ok (.aload_n 0, 1) := by decide +kernel
theorem dX0_weigh_35 : decode cX0_weigh 35 = .ok (.getfield 24, 3) := by decide +kernel
theorem dX0_weigh_38 : decode cX0_weigh 38 = .ok (.iload_n 1, 1) := by decide +kernel
theorem dX0_weigh_39 : decode cX0_weigh 39 = .ok (.bipush 14, 2) := by decide +kernel
theorem dX0_weigh_41 : decode cX0_weigh 41 = .ok (.imul, 1) := by decide +kernel
theorem dX0_weigh_42 : decode cX0_weigh 42 = .ok (.iload_n 2, 1) := by decide +kernel
theorem dX0_weigh_43 : decode cX0_weigh 43 = .ok (.iadd, 1) := by decide +kernel
theorem dX0_weigh_44 : decode cX0_weigh 44 = .ok (.aload_n 0, 1) := by decide +kernel
theorem dX0_weigh_45 : decode cX0_weigh 45 = .ok (.getfield 30, 3) := by decide +kernel
theorem dX0_weigh_48 : decode cX0_weigh 48 = .ok (.aload_n 0, 1) := by decide +kernel
theorem dX0_weigh_49 : decode cX0_weigh 49 = .ok (.getfield 30, 3) := by decide +kernel
theorem dX0_weigh_52 : decode cX0_weigh 52 = .ok (.getfield 103, 3) := by decide +kernel
theorem dX0_weigh_55 : decode cX0_weigh 55 = .ok (.iload_n 2, 1) := by decide +kernel
theorem dX0_weigh_56 : decode cX0_weigh 56 = .ok (.iaload, 1) := by decide +kernel
theorem dX0_weigh_57 : decode cX0_weigh 57 = .ok (.aload_n 0, 1) := by decide +kernel
theorem dX0_weigh_58 : decode cX0_weigh 58 = .ok (.getfield 30, 3) := by decide +kernel
theorem dX0_weigh_61 : decode cX0_weigh 61 = .ok (.getfield 106, 3) := by decide +kernel
theorem dX0_weigh_64 : decode cX0_weigh 64 = .ok (.iload_n 2, 1) := by decide +kernel
theorem dX0_weigh_65 : decode cX0_weigh 65 = .ok (.iaload, 1) := by decide +kernel
theorem dX0_weigh_66 : decode cX0_weigh 66 = .ok (.aload_n 0, 1) := by decide +kernel
theorem dX0_weigh_67 : decode cX0_weigh 67 = .ok (.getfield 18, 3) := by decide +kernel
theorem dX0_weigh_70 : decode cX0_weigh 70 = .ok (.iload_n 1, 1) := by decide +kernel
theorem dX0_weigh_71 : decode cX0_weigh 71 = .ok (.iaload, 1) := by decide +kernel
theorem dX0_weigh_72 : decode cX0_weigh 72 = .ok (.invokevirtual 109, 3) := by decide +kernel
theorem dX0_weigh_75 : decode cX0_weigh 75 = .ok (.iastore, 1) := by decide +kernel
theorem dX0_weigh_76 : decode cX0_weigh 76 = .ok (.iinc 2 1, 3) := by decide +kernel
theorem dX0_weigh_79 : decode cX0_weigh 79 = .ok (.goto (-56), 3) := by decide +kernel
theorem dX0_weigh_82 : decode cX0_weigh 82 = .ok (.aload_n 0, 1) := by decide +kernel
theorem dX0_weigh_83 : decode cX0_weigh 83 = .ok (.getfield 27, 3) := by decide +kernel
theorem dX0_weigh_86 : decode cX0_weigh 86 = .ok (.iload_n 1, 1) := by decide +kernel
theorem dX0_weigh_87 : decode cX0_weigh 87 = .ok (.aload_n 0, 1) := by decide +kernel
theorem dX0_weigh_88 : decode cX0_weigh 88 = .ok (.getfield 27, 3) := by decide +kernel
theorem dX0_weigh_91 : decode cX0_weigh 91 = .ok (.iload_n 1, 1) := by decide +kernel
theorem dX0_weigh_92 : decode cX0_weigh 92 = .ok (.iconst 1, 1) := by decide +kernel
theorem dX0_weigh_93 : decode cX0_weigh 93 = .ok (.iadd, 1) := by decide +kernel
theorem dX0_weigh_94 : decode cX0_weigh 94 = .ok (.iaload, 1) := by decide +kernel
theorem dX0_weigh_95 : decode cX0_weigh 95 = .ok (.aload_n 0, 1) := by decide +kernel
theorem dX0_weigh_96 : decode cX0_weigh 96 = .ok (.iload_n 1, 1) := by decide +kernel
theorem dX0_weigh_97 : decode cX0_weigh 97 = .ok (.invokevirtual 113, 3) := by decide +kernel
theorem dX0_weigh_100 : decode cX0_weigh 100 = .ok (.iadd, 1) := by decide +kernel
theorem dX0_weigh_101 : decode cX0_weigh 101 = .ok (.iastore, 1) := by decide +kernel
theorem dX0_weigh_102 : decode cX0_weigh 102 = .ok (.iinc 1 (-1), 3) := by decide +kernel
theorem dX0_weigh_105 : decode cX0_weigh 105 = .ok (.goto (-88), 3) := by decide +kernel
theorem dX0_weigh_108 : decode cX0_weigh 108 = .ok (.return_, 1) := by decide +kernel
theorem dX0_mostOf_0 : decode cX0_mostOf 0 = .ok (.aload_n 0, 1) := by decide +kernel
theorem dX0_mostOf_1 : decode cX0_mostOf 1 = .ok (.getfield 30, 3) := by decide +kernel
theorem dX0_mostOf_4 : decode cX0_mostOf 4 = .ok (.getfield 116, 3) := by decide +kernel
theorem dX0_mostOf_7 : decode cX0_mostOf 7 = .ok (.aload_n 0, 1) := by decide +kernel
theorem dX0_mostOf_8 : decode cX0_mostOf 8 = .ok (.getfield 18, 3) := by decide +kernel
theorem dX0_mostOf_11 : decode cX0_mostOf 11 = .ok (.iload_n 1, 1) := by decide +kernel
theorem dX0_mostOf_12 : decode cX0_mostOf 12 = .ok (.iaload, 1) := by decide +kernel
theorem dX0_mostOf_13 : decode cX0_mostOf 13 = .ok (.iaload, 1) := by decide +kernel
theorem dX0_mostOf_14 : decode cX0_mostOf 14 = .ok (.istore_n 2, 1) := by decide +kernel
theorem dX0_mostOf_15 : decode cX0_mostOf 15 = .ok (.iload_n 2, 1) := by decide +kernel
theorem dX0_mostOf_16 : decode cX0_mostOf 16 = .ok (.ifCond .lt 17, 3) := by decide +kernel
theorem dX0_mostOf_19 : decode cX0_mostOf 19 = .ok (.aload_n 0, 1) := by decide +kernel
theorem dX0_mostOf_20 : decode cX0_mostOf 20 = .ok (.getfield 9, 3) := by decide +kernel
theorem dX0_mostOf_23 : decode cX0_mostOf 23 = .ok (.iload_n 2, 1) := by decide +kernel
theorem dX0_mostOf_24 : decode cX0_mostOf 24 = .ok (.iaload, 1) := by decide +kernel
theorem dX0_mostOf_25 : decode cX0_mostOf 25 = .ok (.ifCond .ge 8, 3) := by decide +kernel
theorem dX0_mostOf_28 : decode cX0_mostOf 28 = .ok (.ldc 119, 2) := by decide +kernel
theorem dX0_mostOf_30 : decode cX0_mostOf 30 = .ok (.goto 13, 3) := by decide +kernel
theorem dX0_mostOf_33 : decode cX0_mostOf 33 = .ok (.aload_n 0, 1) := by decide +kernel
theorem dX0_mostOf_34 : decode cX0_mostOf 34 = .ok (.aload_n 0, 1) := by decide +kernel
theorem dX0_mostOf_35 : decode cX0_mostOf 35 = .ok (.getfield 18, 3) := by decide +kernel
theorem dX0_mostOf_38 : decode cX0_mostOf 38 = .ok (.iload_n 1, 1) := by decide +kernel
theorem dX0_mostOf_39 : decode cX0_mostOf 39 = .ok (.iaload, 1) := by decide +kernel
theorem dX0_mostOf_40 : decode cX0_mostOf 40 = .ok (.invokevirtual 120, 3) := by decide +kernel
theorem dX0_mostOf_43 : decode cX0_mostOf 43 = .ok (.istore_n 3, 1) := by decide +kernel
theorem dX0_mostOf_44 : decode cX0_mostOf 44 = .ok (.iconst 0, 1) := by decide +kernel
theorem dX0_mostOf_45 : decode cX0_mostOf 45 = .ok (.istore 4, 2) := by decide +kernel
theorem dX0_mostOf_47 : decode cX0_mostOf 47 = .ok (.iconst 0, 1) := by decide +kernel
theorem dX0_mostOf_48 : decode cX0_mostOf 48 = .ok (.istore 5, 2) := by decide +kernel
theorem dX0_mostOf_50 : decode cX0_mostOf 50 = .ok (.iconst 0, 1) := by decide +kernel
theorem dX0_mostOf_51 : decode cX0_mostOf 51 = .ok (.istore 6, 2) := by decide +kernel
theorem dX0_mostOf_53 : decode cX0_mostOf 53 = .ok (.iload 6, 2) := by decide +kernel
theorem dX0_mostOf_55 : decode cX0_mostOf 55 = .ok (.aload_n 0, 1) := by decide +kernel
theorem dX0_mostOf_56 : decode cX0_mostOf 56 = .ok (.getfield 30, 3) := by decide +kernel
theorem dX0_mostOf_59 : decode cX0_mostOf 59 = .ok (.getfield 71, 3) := by decide +kernel
theorem dX0_mostOf_62 : decode cX0_mostOf 62 = .ok (.if_icmp .ge 55, 3) := by decide +kernel
theorem dX0_mostOf_65 : decode cX0_mostOf 65 = .ok (.aload_n 0, 1) := by decide +kernel
theorem dX0_mostOf_66 : decode cX0_mostOf 66 = .ok (.getfield 21, 3) := by decide +kernel
theorem dX0_mostOf_69 : decode cX0_mostOf 69 = .ok (.iload_n 1, 1) := by decide +kernel
theorem dX0_mostOf_70 : decode cX0_mostOf 70 = .ok (.iaload, 1) := by decide +kernel
theorem dX0_mostOf_71 : decode cX0_mostOf 71 = .ok (.iload 6, 2) := by decide +kernel
theorem dX0_mostOf_73 : decode cX0_mostOf 73 = .ok (.ishr, 1) := by decide +kernel
theorem dX0_mostOf_74 : decode cX0_mostOf 74 = .ok (.iconst 1, 1) := by decide +kernel
theorem dX0_mostOf_75 : decode cX0_mostOf 75 = .ok (.iand, 1) := by decide +kernel
theorem dX0_mostOf_76 : decode cX0_mostOf 76 = .ok (.ifCond .eq 35, 3) := by decide +kernel
theorem dX0_mostOf_79 : decode cX0_mostOf 79 = .ok (.aload_n 0, 1) := by decide +kernel
theorem dX0_mostOf_80 : decode cX0_mostOf 80 = .ok (.iload_n 1, 1) := by decide +kernel
theorem dX0_mostOf_81 : decode cX0_mostOf 81 = .ok (.iload 6, 2) := by decide +kernel
theorem dX0_mostOf_83 : decode cX0_mostOf 83 = .ok (.iload_n 3, 1) := by decide +kernel
theorem dX0_mostOf_84 : decode cX0_mostOf 84 = .ok (.invokevirtual 123, 3) := by decide +kernel
theorem dX0_mostOf_87 : decode cX0_mostOf 87 = .ok (.istore 7, 2) := by decide +kernel
theorem dX0_mostOf_89 : decode cX0_mostOf 89 = .ok (.iload 4, 2) := by decide +kernel
theorem dX0_mostOf_91 : decode cX0_mostOf 91 = .ok (.ifCond .eq 13, 3) := by decide +kernel
theorem dX0_mostOf_94 : decode cX0_mostOf 94 = .ok (.iload 5, 2) := by decide +kernel
theorem dX0_mostOf_96 : decode cX0_mostOf 96 = .ok (.iload 7, 2) := by decide +kernel
theorem dX0_mostOf_98 : decode cX0_mostOf 98 = .ok (.invokestatic 126, 3) := by decide +kernel
theorem dX0_mostOf_101 : decode cX0_mostOf 101 = .ok (.goto 5, 3) := by decide +kernel
theorem dX0_mostOf_104 : decode cX0_mostOf 104 = .ok (.iload 7, 2) := by decide +kernel
theorem dX0_mostOf_106 : decode cX0_mostOf 106 = .ok (.istore 5, 2) := by decide +kernel
theorem dX0_mostOf_108 : decode cX0_mostOf 108 = .ok (.iconst 1, 1) := by decide +kernel
theorem dX0_mostOf_109 : decode cX0_mostOf 109 = .ok (.istore 4, 2) := by decide +kernel
theorem dX0_mostOf_111 : decode cX0_mostOf 111 = .ok (.iinc 6 1, 3) := by decide +kernel
theorem dX0_mostOf_114 : decode cX0_mostOf 114 = .ok (.goto (-61), 3) := by decide +kernel
theorem dX0_mostOf_117 : decode cX0_mostOf 117 = .ok (.iload 5, 2) := by decide +kernel
theorem dX0_mostOf_119 : decode cX0_mostOf 119 = .ok (.ireturn, 1) := by decide +kernel
theorem dX0_lettersOfMother_0 : decode cX0_lettersOfMother 0 = .ok (.aload_n 0, 1) := by decide +kernel
theorem dX0_lettersOfMother_1 : decode cX0_lettersOfMother 1 = .ok (.getfield 30, 3) := by decide +kernel
theorem dX0_lettersOfMother_4 : decode cX0_lettersOfMother 4 = .ok (.getfield 116, 3) := by decide +kernel
theorem dX0_lettersOfMother_7 : decode cX0_lettersOfMother 7 = .ok (.iload_n 1, 1) := by decide +kernel
theorem dX0_lettersOfMother_8 : decode cX0_lettersOfMother 8 = .ok (.iaload, 1) := by decide +kernel
theorem dX0_lettersOfMother_9 : decode cX0_lettersOfMother 9 = .ok (.istore_n 2, 1) := by decide +kernel
theorem dX0_lettersOfMother_10 : decode cX0_lettersOfMother 10 = .ok (.iload_n 2, 1) := by decide +kernel
theorem dX0_lettersOfMother_11 : decode cX0_lettersOfMother 11 = .ok (.ifCond .lt 29, 3) := by decide +kernel
theorem dX0_lettersOfMother_14 : decode cX0_lettersOfMother 14 = .ok (.aload_n 0, 1) := by decide +kernel
theorem dX0_lettersOfMother_15 : decode cX0_lettersOfMother 15 = .ok (.getfield 9, 3) := by decide +kernel
theorem dX0_lettersOfMother_18 : decode cX0_lettersOfMother 18 = .ok (.iload_n 2, 1) := by decide +kernel
theorem dX0_lettersOfMother_19 : decode cX0_lettersOfMother 19 = .ok (.iaload, 1) := by decide +kernel
theorem dX0_lettersOfMother_20 : decode cX0_lettersOfMother 20 = .ok (.ifCond .lt 20, 3) := by decide +kernel
theorem dX0_lettersOfMother_23 : decode cX0_lettersOfMother 23 = .ok (.aload_n 0, 1) := by decide +kernel
theorem dX0_lettersOfMother_24 : decode cX0_lettersOfMother 24 = .ok (.getfield 30, 3) := by decide +kernel
theorem dX0_lettersOfMother_27 : decode cX0_lettersOfMother 27 = .ok (.getfield 100, 3) := by decide +kernel
theorem dX0_lettersOfMother_30 : decode cX0_lettersOfMother 30 = .ok (.aload_n 0, 1) := by decide +kernel
theorem dX0_lettersOfMother_31 : decode cX0_lettersOfMother 31 = .ok (.getfield 9, 3) := by decide +kernel
theorem dX0_lettersOfMother_34 : decode cX0_lettersOfMother 34 = .ok (.iload_n 2, 1) := by decide +kernel
theorem dX0_lettersOfMother_35 : decode cX0_lettersOfMother 35 = .ok (.iaload, 1) := by decide +kernel
theorem dX0_lettersOfMother_36 : decode cX0_lettersOfMother 36 = .ok (.iaload, 1) := by decide +kernel
theorem dX0_lettersOfMother_37 : decode cX0_lettersOfMother 37 = .ok (.goto 4, 3) := by decide +kernel
theorem dX0_lettersOfMother_40 : decode cX0_lettersOfMother 40 = .ok (.iconst 0, 1) := by decide +kernel
theorem dX0_lettersOfMother_41 : decode cX0_lettersOfMother 41 = .ok (.ireturn, 1) := by decide +kernel
theorem dX0_worthOf_0 : decode cX0_worthOf 0 = .ok (.aload_n 0, 1) := by decide +kernel
theorem dX0_worthOf_1 : decode cX0_worthOf 1 = .ok (.getfield 30, 3) := by decide +kernel
theorem dX0_worthOf_4 : decode cX0_worthOf 4 = .ok (.aload_n 0, 1) := by decide +kernel
theorem dX0_worthOf_5 : decode cX0_worthOf 5 = .ok (.getfield 30, 3) := by decide +kernel
theorem dX0_worthOf_8 : decode cX0_worthOf 8 = .ok (.getfield 132, 3) := by decide +kernel
theorem dX0_worthOf_11 : decode cX0_worthOf 11 = .ok (.aload_n 0, 1) := by decide +kernel
theorem dX0_worthOf_12 : decode cX0_worthOf 12 = .ok (.getfield 18, 3) := by decide +kernel
theorem dX0_worthOf_15 : decode cX0_worthOf 15 = .ok (.iload_n 1, 1) := by decide +kernel
theorem dX0_worthOf_16 : decode cX0_worthOf 16 = .ok (.iaload, 1) := by decide +kernel
theorem dX0_worthOf_17 : decode cX0_worthOf 17 = .ok (.iaload, 1) := by decide +kernel
theorem dX0_worthOf_18 : decode cX0_worthOf 18 = .ok (.iload_n 2, 1) := by decide +kernel
theorem dX0_worthOf_19 : decode cX0_worthOf 19 = .ok (.iload_n 3, 1) := by decide +kernel
theorem dX0_worthOf_20 : decode cX0_worthOf 20 = .ok (.iconst 0, 1) := by decide +kernel
theorem dX0_worthOf_21 : decode cX0_worthOf 21 = .ok (.invokevirtual 135, 3) := by decide +kernel
theorem dX0_worthOf_24 : decode cX0_worthOf 24 = .ok (.aload_n 0, 1) := by decide +kernel
theorem dX0_worthOf_25 : decode cX0_worthOf 25 = .ok (.getfield 24, 3) := by decide +kernel
theorem dX0_worthOf_28 : decode cX0_worthOf 28 = .ok (.iload_n 1, 1) := by decide +kernel
theorem dX0_worthOf_29 : decode cX0_worthOf 29 = .ok (.bipush 14, 2) := by decide +kernel
theorem dX0_worthOf_31 : decode cX0_worthOf 31 = .ok (.imul, 1) := by decide +kernel
theorem dX0_worthOf_32 : decode cX0_worthOf 32 = .ok (.iload_n 2, 1) := by decide +kernel
theorem dX0_worthOf_33 : decode cX0_worthOf 33 = .ok (.iadd, 1) := by decide +kernel
theorem dX0_worthOf_34 : decode cX0_worthOf 34 = .ok (.iaload, 1) := by decide +kernel
theorem dX0_worthOf_35 : decode cX0_worthOf 35 = .ok (.iadd, 1) := by decide +kernel
theorem dX0_worthOf_36 : decode cX0_worthOf 36 = .ok (.ireturn, 1) := by decide +kernel
theorem dX0_reach_0 : decode cX0_reach 0 = .ok (.aload_n 0, 1) := by decide +kernel
theorem dX0_reach_1 : decode cX0_reach 1 = .ok (.getfield 74, 3) := by decide +kernel
theorem dX0_reach_4 : decode cX0_reach 4 = .ok (.lookupswitch 43 #[(1, 28), (2, 37)], 28) := by decide +kernel
theorem dX0_reach_32 : decode cX0_reach 32 = .ok (.iload_n 2, 1) := by decide +kernel
theorem dX0_reach_33 : decode cX0_reach 33 = .ok (.aload_n 0, 1) := by decide +kernel
theorem dX0_reach_34 : decode cX0_reach 34 = .ok (.getfield 27, 3) := by decide +kernel
theorem dX0_reach_37 : decode cX0_reach 37 = .ok (.iload_n 1, 1) := by decide +kernel
theorem dX0_reach_38 : decode cX0_reach 38 = .ok (.iaload, 1) := by decide +kernel
theorem dX0_reach_39 : decode cX0_reach 39 = .ok (.iadd, 1) := by decide +kernel
theorem dX0_reach_40 : decode cX0_reach 40 = .ok (.ireturn, 1) := by decide +kernel
theorem dX0_reach_41 : decode cX0_reach 41 = .ok (.iload_n 3, 1) := by decide +kernel
theorem dX0_reach_42 : decode cX0_reach 42 = .ok (.invokestatic 34, 3) := by decide +kernel
theorem dX0_reach_45 : decode cX0_reach 45 = .ok (.ineg, 1) := by decide +kernel
theorem dX0_reach_46 : decode cX0_reach 46 = .ok (.ireturn, 1) := by decide +kernel
theorem dX0_reach_47 : decode cX0_reach 47 = .ok (.iconst 0, 1) := by decide +kernel
theorem dX0_reach_48 : decode cX0_reach 48 = .ok (.ireturn, 1) := by decide +kernel
theorem dX0_search_0 : decode cX0_search 0 = .ok (.aload_n 0, 1) := by decide +kernel
theorem dX0_search_1 : decode cX0_search 1 = .ok (.iload_n 1, 1) := by decide +kernel
theorem dX0_search_2 : decode cX0_search 2 = .ok (.iload_n 2, 1) := by decide +kernel
theorem dX0_search_3 : decode cX0_search 3 = .ok (.iload_n 3, 1) := by decide +kernel
theorem dX0_search_4 : decode cX0_search 4 = .ok (.invokevirtual 139, 3) := by decide +kernel
theorem dX0_search_7 : decode cX0_search 7 = .ok (.istore 4, 2) := by decide +kernel
theorem dX0_search_9 : decode cX0_search 9 = .ok (.aload_n 0, 1) := by decide +kernel
theorem dX0_search_10 : decode cX0_search 10 = .ok (.getfield 77, 3) := by decide +kernel
theorem dX0_search_13 : decode cX0_search 13 = .ok (.ifCond .eq 13, 3) := by decide +kernel
theorem dX0_search_16 : decode cX0_search 16 = .ok (.iload 4, 2) := by decide +kernel
theorem dX0_search_18 : decode cX0_search 18 = .ok (.aload_n 0, 1) := by decide +kernel
theorem dX0_search_19 : decode cX0_search 19 = .ok (.getfield 91, 3) := by decide +kernel
theorem dX0_search_22 : decode cX0_search 22 = .ok (.if_icmp .gt 4, 3) := by decide +kernel
theorem dX0_search_25 : decode cX0_search 25 = .ok (.return_, 1) := by decide +kernel
theorem dX0_search_26 : decode cX0_search 26 = .ok (.iload_n 1, 1) := by decide +kernel
theorem dX0_search_27 : decode cX0_search 27 = .ok (.aload_n 0, 1) := by decide +kernel
theorem dX0_search_28 : decode cX0_search 28 = .ok (.getfield 40, 3) := by decide +kernel
theorem dX0_search_31 : decode cX0_search 31 = .ok (.if_icmp .lt 35, 3) := by decide +kernel
theorem dX0_search_34 : decode cX0_search 34 = .ok (.aload_n 0, 1) := by decide +kernel
theorem dX0_search_35 : decode cX0_search 35 = .ok (.iconst 1, 1) := by decide +kernel
theorem dX0_search_36 : decode cX0_search 36 = .ok (.putfield 77, 3) := by decide +kernel
theorem dX0_search_39 : decode cX0_search 39 = .ok (.aload_n 0, 1) := by decide +kernel
theorem dX0_search_40 : decode cX0_search 40 = .ok (.iload 4, 2) := by decide +kernel
theorem dX0_search_42 : decode cX0_search 42 = .ok (.putfield 91, 3) := by decide +kernel
theorem dX0_search_45 : decode cX0_search 45 = .ok (.aload_n 0, 1) := by decide +kernel
theorem dX0_search_46 : decode cX0_search 46 = .ok (.getfield 9, 3) := by decide +kernel
theorem dX0_search_49 : decode cX0_search 49 = .ok (.iconst 0, 1) := by decide +kernel
theorem dX0_search_50 : decode cX0_search 50 = .ok (.aload_n 0, 1) := by decide +kernel
theorem dX0_search_51 : decode cX0_search 51 = .ok (.getfield 15, 3) := by decide +kernel
theorem dX0_search_54 : decode cX0_search 54 = .ok (.iconst 0, 1) := by decide +kernel
theorem dX0_search_55 : decode cX0_search 55 = .ok (.aload_n 0, 1) := by decide +kernel
theorem dX0_search_56 : decode cX0_search 56 = .ok (.getfield 30, 3) := by decide +kernel
theorem dX0_search_59 : decode cX0_search 59 = .ok (.getfield 44, 3) := by decide +kernel
theorem dX0_search_62 : decode cX0_search 62 = .ok (.invokestatic 94, 3) := by decide +kernel
theorem dX0_search_65 : decode cX0_search 65 = .ok (.return_, 1) := by decide +kernel
theorem dX0_search_66 : decode cX0_search 66 = .ok (.aload_n 0, 1) := by decide +kernel
theorem dX0_search_67 : decode cX0_search 67 = .ok (.getfield 18, 3) := by decide +kernel
theorem dX0_search_70 : decode cX0_search 70 = .ok (.iload_n 1, 1) := by decide +kernel
theorem dX0_search_71 : decode cX0_search 71 = .ok (.iaload, 1) := by decide +kernel
theorem dX0_search_72 : decode cX0_search 72 = .ok (.istore 5, 2) := by decide +kernel
theorem dX0_search_74 : decode cX0_search 74 = .ok (.aload_n 0, 1) := by decide +kernel
theorem dX0_search_75 : decode cX0_search 75 = .ok (.iload_n 1, 1) := by decide +kernel
theorem dX0_search_76 : decode cX0_search 76 = .ok (.invokevirtual 68, 3) := by decide +kernel
theorem dX0_search_79 : decode cX0_search 79 = .ok (.istore 6, 2) := by decide +kernel
theorem dX0_search_81 : decode cX0_search 81 = .ok (.aload_n 0, 1) := by decide +kernel
theorem dX0_search_82 : decode cX0_search 82 = .ok (.iload 5, 2) := by decide +kernel
theorem dX0_search_84 : decode cX0_search 84 = .ok (.invokevirtual 120, 3) := by decide +kernel
theorem dX0_search_87 : decode cX0_search 87 = .ok (.istore 7, 2) := by decide +kernel
theorem dX0_search_89 : decode cX0_search 89 = .ok (.iconst 0, 1) := by decide +kernel
theorem dX0_search_90 : decode cX0_search 90 = .ok (.istore 8, 2) := by decide +kernel
theorem dX0_search_92 : decode cX0_search 92 = .ok (.iload 8, 2) := by decide +kernel
theorem dX0_search_94 : decode cX0_search 94 = .ok (.aload_n 0, 1) := by decide +kernel
theorem dX0_search_95 : decode cX0_search 95 = .ok (.getfield 30, 3) := by decide +kernel
theorem dX0_search_98 : decode cX0_search 98 = .ok (.getfield 71, 3) := by decide +kernel
theorem dX0_search_101 : decode cX0_search 101 = .ok (.if_icmp .ge 74, 3) := by decide +kernel
theorem dX0_search_104 : decode cX0_search 104 = .ok (.iload 6, 2) := by decide +kernel
theorem dX0_search_106 : decode cX0_search 106 = .ok (.iload 8, 2) := by decide +kernel
theorem dX0_search_108 : decode cX0_search 108 = .ok (.ishr, 1) := by decide +kernel
theorem dX0_search_109 : decode cX0_search 109 = .ok (.iconst 1, 1) := by decide +kernel
theorem dX0_search_110 : decode cX0_search 110 = .ok (.iand, 1) := by decide +kernel
theorem dX0_search_111 : decode cX0_search 111 = .ok (.ifCond .eq 58, 3) := by decide +kernel
theorem dX0_search_114 : decode cX0_search 114 = .ok (.aload_n 0, 1) := by decide +kernel
theorem dX0_search_115 : decode cX0_search 115 = .ok (.getfield 9, 3) := by decide +kernel
theorem dX0_search_118 : decode cX0_search 118 = .ok (.iload 5, 2) := by decide +kernel
theorem dX0_search_120 : decode cX0_search 120 = .ok (.iload 8, 2) := by decide +kernel
theorem dX0_search_122 : decode cX0_search 122 = .ok (.iastore, 1) := by decide +kernel
theorem dX0_search_123 : decode cX0_search 123 = .ok (.aload_n 0, 1) := by decide +kernel
theorem dX0_search_124 : decode cX0_search 124 = .ok (.getfield 74, 3) := by decide +kernel
theorem dX0_search_127 : decode cX0_search 127 = .ok (.iconst 1, 1) := by decide +kernel
theorem dX0_search_128 : decode cX0_search 128 = .ok (.if_icmp .ne 15, 3) := by decide +kernel
theorem dX0_search_131 : decode cX0_search 131 = .ok (.aload_n 0, 1) := by decide +kernel
theorem dX0_search_132 : decode cX0_search 132 = .ok (.iload_n 1, 1) := by decide +kernel
theorem dX0_search_133 : decode cX0_search 133 = .ok (.iload 8, 2) := by decide +kernel
theorem dX0_search_135 : decode cX0_search 135 = .ok (.iload 7, 2) := by decide +kernel
theorem dX0_search_137 : decode cX0_search 137 = .ok (.invokevirtual 123, 3) := by decide +kernel
theorem dX0_search_140 : decode cX0_search 140 = .ok (.goto 4, 3) := by decide +kernel
theorem dX0_search_143 : decode cX0_search 143 = .ok (.iconst 0, 1) := by decide +kernel
theorem dX0_search_144 : decode cX0_search 144 = .ok (.istore 9, 2) := by decide +kernel
theorem dX0_search_146 : decode cX0_search 146 = .ok (.aload_n 0, 1) := by decide +kernel
theorem dX0_search_147 : decode cX0_search 147 = .ok (.iload_n 1, 1) := by decide +kernel
theorem dX0_search_148 : decode cX0_search 148 = .ok (.iconst 1, 1) := by decide +kernel
theorem dX0_search_149 : decode cX0_search 149 = .ok (.iadd, 1) := by decide +kernel
theorem dX0_search_150 : decode cX0_search 150 = .ok (.iload_n 2, 1) := by decide +kernel
theorem dX0_search_151 : decode cX0_search 151 = .ok (.iload 9, 2) := by decide +kernel
theorem dX0_search_153 : decode cX0_search 153 = .ok (.iadd, 1) := by decide +kernel
theorem dX0_search_154 : decode cX0_search 154 = .ok (.iload_n 3, 1) := by decide +kernel
theorem dX0_search_155 : decode cX0_search 155 = .ok (.aload_n 0, 1) := by decide +kernel
theorem dX0_search_156 : decode cX0_search 156 = .ok (.getfield 30, 3) := by decide +kernel
theorem dX0_search_159 : decode cX0_search 159 = .ok (.getfield 100, 3) := by decide +kernel
theorem dX0_search_162 : decode cX0_search 162 = .ok (.iload 8, 2) := by decide +kernel
theorem dX0_search_164 : decode cX0_search 164 = .ok (.iaload, 1) := by decide +kernel
theorem dX0_search_165 : decode cX0_search 165 = .ok (.ior, 1) := by decide +kernel
theorem dX0_search_166 : decode cX0_search 166 = .ok (.invokevirtual 87, 3) := by decide +kernel
theorem dX0_search_169 : decode cX0_search 169 = .ok (.iinc 8 1, 3) := by decide +kernel
theorem dX0_search_172 : decode cX0_search 172 = .ok (.goto (-80), 3) := by decide +kernel
theorem dX0_search_175 : decode cX0_search 175 = .ok (.aload_n 0, 1) := by decide +kernel
theorem dX0_search_176 : decode cX0_search 176 = .ok (.getfield 9, 3) := by decide +kernel
theorem dX0_search_179 : decode cX0_search 179 = .ok (.iload 5, 2) := by decide +kernel
theorem dX0_search_181 : decode cX0_search 181 = .ok (.iconst (-1), 1) := by decide +kernel
theorem dX0_search_182 : decode cX0_search 182 = .ok (.iastore, 1) := by decide +kernel
theorem dX0_search_183 : decode cX0_search 183 = .ok (.return_, 1) := by decide +kernel
theorem dX1_init_0 : decode cX1_init 0 = .ok (.aload_n 0, 1) := by decide +kernel
theorem dX1_init_1 : decode cX1_init 1 = .ok (.invokespecial 3, 3) := by decide +kernel
theorem dX1_init_4 : decode cX1_init 4 = .ok (.aload_n 0, 1) := by decide +kernel
theorem dX1_init_5 : decode cX1_init 5 = .ok (.new 9, 3) := by decide +kernel
theorem dX1_init_8 : decode cX1_init 8 = .ok (.dup, 1) := by decide +kernel
theorem dX1_init_9 : decode cX1_init 9 = .ok (.invokespecial 11, 3) := by decide +kernel
theorem dX1_init_12 : decode cX1_init 12 = .ok (.putfield 12, 3) := by decide +kernel
theorem dX1_init_15 : decode cX1_init 15 = .ok (.aload_n 0, 1) := by decide +kernel
theorem dX1_init_16 : decode cX1_init 16 = .ok (.bipush 50, 2) := by decide +kernel
theorem dX1_init_18 : decode cX1_init 18 = .ok (.newarray .byte, 2) := by decide +kernel
theorem dX1_init_20 : decode cX1_init 20 = .ok (.putfield 18, 3) := by decide +kernel
theorem dX1_init_23 : decode cX1_init 23 = .ok (.return_, 1) := by decide +kernel
theorem dX1_read_0 : decode cX1_read 0 = .ok (.aload_n 1, 1) := by decide +kernel
theorem dX1_read_1 : decode cX1_read 1 = .ok (.iconst 0, 1) := by decide +kernel
theorem dX1_read_2 : decode cX1_read 2 = .ok (.aload_n 0, 1) := by decide +kernel
theorem dX1_read_3 : decode cX1_read 3 = .ok (.getfield 18, 3) := by decide +kernel
theorem dX1_read_6 : decode cX1_read 6 = .ok (.iconst 0, 1) := by decide +kernel
theorem dX1_read_7 : decode cX1_read 7 = .ok (.bipush 50, 2) := by decide +kernel
theorem dX1_read_9 : decode cX1_read 9 = .ok (.invokestatic 22, 3) := by decide +kernel
theorem dX1_read_12 : decode cX1_read 12 = .ok (.aload_n 0, 1) := by decide +kernel
theorem dX1_read_13 : decode cX1_read 13 = .ok (.iload_n 2, 1) := by decide +kernel
theorem dX1_read_14 : decode cX1_read 14 = .ok (.putfield 28, 3) := by decide +kernel
theorem dX1_read_17 : decode cX1_read 17 = .ok (.aload_n 0, 1) := by decide +kernel
theorem dX1_read_18 : decode cX1_read 18 = .ok (.iload_n 3, 1) := by decide +kernel
theorem dX1_read_19 : decode cX1_read 19 = .ok (.putfield 32, 3) := by decide +kernel
theorem dX1_read_22 : decode cX1_read 22 = .ok (.aload_n 0, 1) := by decide +kernel
theorem dX1_read_23 : decode cX1_read 23 = .ok (.iconst 0, 1) := by decide +kernel
theorem dX1_read_24 : decode cX1_read 24 = .ok (.putfield 35, 3) := by decide +kernel
theorem dX1_read_27 : decode cX1_read 27 = .ok (.aload_n 0, 1) := by decide +kernel
theorem dX1_read_28 : decode cX1_read 28 = .ok (.getfield 12, 3) := by decide +kernel
theorem dX1_read_31 : decode cX1_read 31 = .ok (.iconst 0, 1) := by decide +kernel
theorem dX1_read_32 : decode cX1_read 32 = .ok (.putfield 38, 3) := by decide +kernel
theorem dX1_read_35 : decode cX1_read 35 = .ok (.aload_n 0, 1) := by decide +kernel
theorem dX1_read_36 : decode cX1_read 36 = .ok (.iconst 0, 1) := by decide +kernel
theorem dX1_read_37 : decode cX1_read 37 = .ok (.iconst 0, 1) := by decide +kernel
theorem dX1_read_38 : decode cX1_read 38 = .ok (.invokevirtual 41, 3) := by decide +kernel
theorem dX1_read_41 : decode cX1_read 41 = .ok (.ifCond .eq 18, 3) := by decide +kernel
theorem dX1_read_44 : decode cX1_read 44 = .ok (.aload_n 0, 1) := by decide +kernel
theorem dX1_read_45 : decode cX1_read 45 = .ok (.getfield 35, 3) := by decide +kernel
theorem dX1_read_48 : decode cX1_read 48 = .ok (.aload_n 0, 1) := by decide +kernel
theorem dX1_read_49 : decode cX1_read 49 = .ok (.getfield 28, 3) := by decide +kernel
theorem dX1_read_52 : decode cX1_read 52 = .ok (.if_icmp .lt 7, 3) := by decide +kernel
theorem dX1_read_55 : decode cX1_read 55 = .ok (.iconst (-1), 1) := by decide +kernel
theorem dX1_read_56 : decode cX1_read 56 = .ok (.goto 7, 3) := by decide +kernel
theorem dX1_read_59 : decode cX1_read 59 = .ok (.aload_n 0, 1) := by decide +kernel
theorem dX1_read_60 : decode cX1_read 60 = .ok (.getfield 35, 3) := by decide +kernel
theorem dX1_read_63 : decode cX1_read 63 = .ok (.ireturn, 1) := by decide +kernel
theorem dX1_sign_0 : decode cX1_sign 0 = .ok (.aload_n 0, 1) := by decide +kernel
theorem dX1_sign_1 : decode cX1_sign 1 = .ok (.getfield 35, 3) := by decide +kernel
theorem dX1_sign_4 : decode cX1_sign 4 = .ok (.ifCond .lt 30, 3) := by decide +kernel
theorem dX1_sign_7 : decode cX1_sign 7 = .ok (.aload_n 0, 1) := by decide +kernel
theorem dX1_sign_8 : decode cX1_sign 8 = .ok (.getfield 35, 3) := by decide +kernel
theorem dX1_sign_11 : decode cX1_sign 11 = .ok (.aload_n 0, 1) := by decide +kernel
theorem dX1_sign_12 : decode cX1_sign 12 = .ok (.getfield 28, 3) := by decide +kernel
theorem dX1_sign_15 : decode cX1_sign 15 = .ok (.if_icmp .ge 19, 3) := by decide +kernel
theorem dX1_sign_18 : decode cX1_sign 18 = .ok (.aload_n 0, 1) := by decide +kernel
theorem dX1_sign_19 : decode cX1_sign 19 = .ok (.getfield 18, 3) := by decide +kernel
theorem dX1_sign_22 : decode cX1_sign 22 = .ok (.aload_n 0, 1) := by decide +kernel
theorem dX1_sign_23 : decode cX1_sign 23 = .ok (.getfield 35, 3) := by decide +kernel
theorem dX1_sign_26 : decode cX1_sign 26 = .ok (.baload, 1) := by decide +kernel
theorem dX1_sign_27 : decode cX1_sign 27 = .ok (.sipush 255, 3) := by decide +kernel
theorem dX1_sign_30 : decode cX1_sign 30 = .ok (.iand, 1) := by decide +kernel
theorem dX1_sign_31 : decode cX1_sign 31 = .ok (.goto 4, 3) := by decide +kernel
theorem dX1_sign_34 : decode cX1_sign 34 = .ok (.iconst (-1), 1) := by decide +kernel
theorem dX1_sign_35 : decode cX1_sign 35 = .ok (.ireturn, 1) := by decide +kernel
theorem dX1_readLevel_0 : decode cX1_readLevel 0 = .ok (.iload_n 1, 1) := by decide +kernel
theorem dX1_readLevel_1 : decode cX1_readLevel 1 = .ok (.iconst 4, 1) := by decide +kernel
theorem dX1_readLevel_2 : decode cX1_readLevel 2 = .ok (.if_icmp .le 9, 3) := by decide +kernel
theorem dX1_readLevel_5 : decode cX1_readLevel 5 = .ok (.aload_n 0, 1) := by decide +kernel
theorem dX1_readLevel_6 : decode cX1_readLevel 6 = .ok (.iload_n 2, 1) := by decide +kernel
theorem dX1_readLevel_7 : decode cX1_readLevel 7 = .ok (.invokevirtual 45, 3) := by decide +kernel
theorem dX1_readLevel_10 : decode cX1_readLevel 10 = .ok (.ireturn, 1) := by decide +kernel
theorem dX1_readLevel_11 : decode cX1_readLevel 11 = .ok (.aload_n 0, 1) := by decide +kernel
theorem dX1_readLevel_12 : decode cX1_readLevel 12 = .ok (.iload_n 1, 1) := by decide +kernel
theorem dX1_readLevel_13 : decode cX1_readLevel 13 = .ok (.iconst 1, 1) := by decide +kernel
theorem dX1_readLevel_14 : decode cX1_readLevel 14 = .ok (.iadd, 1) := by decide +kernel
theorem dX1_readLevel_15 : decode cX1_readLevel 15 = .ok (.iload_n 2, 1) := by decide +kernel
theorem dX1_readLevel_16 : decode cX1_readLevel 16 = .ok (.invokevirtual 41, 3) := by decide +kernel
theorem dX1_readLevel_19 : decode cX1_readLevel 19 = .ok (.ifCond .ne 5, 3) := by decide +kernel
theorem dX1_readLevel_22 : decode cX1_readLevel 22 = .ok (.iconst 0, 1) := by decide +kernel
theorem dX1_readLevel_23 : decode cX1_readLevel 23 = .ok (.ireturn, 1) := by decide +kernel
theorem dX1_readLevel_24 : decode cX1_readLevel 24 = .ok (.iconst 0, 1) := by decide +kernel
theorem dX1_readLevel_25 : decode cX1_readLevel 25 = .ok (.istore_n 3, 1) := by decide +kernel
theorem dX1_readLevel_26 : decode cX1_readLevel 26 = .ok (.iload_n 3, 1) := by decide +kernel
theorem dX1_readLevel_27 : decode cX1_readLevel 27 = .ok (.bipush 50, 2) := by decide +kernel
theorem dX1_readLevel_29 : decode cX1_readLevel 29 = .ok (.if_icmp .ge 66, 3) := by decide +kernel
theorem dX1_readLevel_32 : decode cX1_readLevel 32 = .ok (.aload_n 0, 1) := by decide +kernel
theorem dX1_readLevel_33 : decode cX1_readLevel 33 = .ok (.invokevirtual 49, 3) := by decide +kernel
theorem dX1_readLevel_36 : decode cX1_readLevel 36 = .ok (.invokestatic 53, 3) := by decide +kernel
theorem dX1_readLevel_39 : decode cX1_readLevel 39 = .ok (.iload_n 1, 1) := by decide +kernel
theorem dX1_readLevel_40 : decode cX1_readLevel 40 = .ok (.if_icmp .ne 55, 3) := by decide +kernel
theorem dX1_readLevel_43 : decode cX1_readLevel 43 = .ok (.aload_n 0, 1) := by decide +kernel
theorem dX1_readLevel_44 : decode cX1_readLevel 44 = .ok (.invokevirtual 49, 3) := by decide +kernel
theorem dX1_readLevel_47 : decode cX1_readLevel 47 = .ok (.istore 4, 2) := by decide +kernel
theorem dX1_readLevel_49 : decode cX1_readLevel 49 = .ok (.aload_n 0, 1) := by decide +kernel
theorem dX1_readLevel_50 : decode cX1_readLevel 50 = .ok (.dup, 1) := by decide +kernel
theorem dX1_readLevel_51 : decode cX1_readLevel 51 = .ok (.getfield 35, 3) := by decide +kernel
theorem dX1_readLevel_54 : decode cX1_readLevel 54 = .ok (.iconst 1, 1) := by decide +kernel
theorem dX1_readLevel_55 : decode cX1_readLevel 55 = .ok (.iadd, 1) := by decide +kernel
theorem dX1_readLevel_56 : decode cX1_readLevel 56 = .ok (.putfield 35, 3) := by decide +kernel
theorem dX1_readLevel_59 : decode cX1_readLevel 59 = .ok (.aload_n 0, 1) := by decide +kernel
theorem dX1_readLevel_60 : decode cX1_readLevel 60 = .ok (.iload_n 1, 1) := by decide +kernel
theorem dX1_readLevel_61 : decode cX1_readLevel 61 = .ok (.iconst 1, 1) := by decide +kernel
theorem dX1_readLevel_62 : decode cX1_readLevel 62 = .ok (.iadd, 1) := by decide +kernel
theorem dX1_readLevel_63 : decode cX1_readLevel 63 = .ok (.iload_n 2, 1) := by decide +kernel
theorem dX1_readLevel_64 : decode cX1_readLevel 64 = .ok (.invokevirtual 41, 3) := by decide +kernel
theorem dX1_readLevel_67 : decode cX1_readLevel 67 = .ok (.ifCond .ne 5, 3) := by decide +kernel
theorem dX1_readLevel_70 : decode cX1_readLevel 70 = .ok (.iconst 0, 1) := by decide +kernel
theorem dX1_readLevel_71 : decode cX1_readLevel 71 = .ok (.ireturn, 1) := by decide +kernel
theorem dX1_readLevel_72 : decode cX1_readLevel 72 = .ok (.aload_n 0, 1) := by decide +kernel
theorem dX1_readLevel_73 : decode cX1_readLevel 73 = .ok (.getfield 12, 3) := by decide +kernel
theorem dX1_readLevel_76 : decode cX1_readLevel 76 = .ok (.iload 4, 2) := by decide +kernel
theorem dX1_readLevel_78 : decode cX1_readLevel 78 = .ok (.ineg, 1) := by decide +kernel
theorem dX1_readLevel_79 : decode cX1_readLevel 79 = .ok (.invokevirtual 57, 3) := by decide +kernel
theorem dX1_readLevel_82 : decode cX1_readLevel 82 = .ok (.iload_n 1, 1) := by decide +kernel
theorem dX1_readLevel_83 : decode cX1_readLevel 83 = .ok (.iconst 2, 1) := by decide +kernel
theorem dX1_readLevel_84 : decode cX1_readLevel 84 = .ok (.if_icmp .ne 5, 3) := by decide +kernel
theorem dX1_readLevel_87 : decode cX1_readLevel 87 = .ok (.iconst 1, 1) := by decide +kernel
theorem dX1_readLevel_88 : decode cX1_readLevel 88 = .ok (.ireturn, 1) := by decide +kernel
theorem dX1_readLevel_89 : decode cX1_readLevel 89 = .ok (.iinc 3 1, 3) := by decide +kernel
theorem dX1_readLevel_92 : decode cX1_readLevel 92 = .ok (.goto (-66), 3) := by decide +kernel
theorem dX1_readLevel_95 : decode cX1_readLevel 95 = .ok (.iconst 1, 1) := by decide +kernel
theorem dX1_readLevel_96 : decode cX1_readLevel 96 = .ok (.ireturn, 1) := by decide +kernel
theorem dX1_levelOf_0 : decode cX1_levelOf 0 = .ok (.iload_n 0, 1) := by decide +kernel
theorem dX1_levelOf_1 : decode cX1_levelOf 1 = .ok (.lookupswitch 101 #[(37, 99), (38, 93), (42, 99), (43, 97), (45, 97), (47, 99), (60, 95), (61, 95), (62, 95), (124, 91)], 91) := by decide +kernel
theorem dX1_levelOf_92 : decode cX1_levelOf 92 = .ok (.iconst 0, 1) := by decide +kernel
theorem dX1_levelOf_93 : decode cX1_levelOf 93 = .ok (.ireturn, 1) := by decide +kernel
theorem dX1_levelOf_94 : decode cX1_levelOf 94 = .ok (.iconst 1, 1) := by decide +kernel
theorem dX1_levelOf_95 : decode cX1_levelOf 95 = .ok (.ireturn, 1) := by decide +kernel
theorem dX1_levelOf_96 : decode cX1_levelOf 96 = .ok (.iconst 2, 1) := by decide +kernel
theorem dX1_levelOf_97 : decode cX1_levelOf 97 = .ok (.ireturn, 1) := by decide +kernel
theorem dX1_levelOf_98 : decode cX1_levelOf 98 = .ok (.iconst 3, 1) := by decide +kernel
theorem dX1_levelOf_99 : decode cX1_levelOf 99 = .ok (.ireturn, 1) := by decide +kernel
theorem dX1_levelOf_100 : decode cX1_levelOf 100 = .ok (.iconst 4, 1) := by decide +kernel
theorem dX1_levelOf_101 : decode cX1_levelOf 101 = .ok (.ireturn, 1) := by decide +kernel
theorem dX1_levelOf_102 : decode cX1_levelOf 102 = .ok (.iconst (-1), 1) := by decide +kernel
theorem dX1_levelOf_103 : decode cX1_levelOf 103 = .ok (.ireturn, 1) := by decide +kernel
theorem dX1_readPart_0 : decode cX1_readPart 0 = .ok (.aload_n 0, 1) := by decide +kernel
theorem dX1_readPart_1 : decode cX1_readPart 1 = .ok (.invokevirtual 49, 3) := by decide +kernel
theorem dX1_readPart_4 : decode cX1_readPart 4 = .ok (.istore_n 2, 1) := by decide +kernel
theorem dX1_readPart_5 : decode cX1_readPart 5 = .ok (.iload_n 2, 1) := by decide +kernel
theorem dX1_readPart_6 : decode cX1_readPart 6 = .ok (.invokestatic 61, 3) := by decide +kernel
theorem dX1_readPart_9 : decode cX1_readPart 9 = .ok (.ifCond .eq 8, 3) := by decide +kernel
theorem dX1_readPart_12 : decode cX1_readPart 12 = .ok (.aload_n 0, 1) := by decide +kernel
theorem dX1_readPart_13 : decode cX1_readPart 13 = .ok (.invokevirtual 64, 3) := by decide +kernel
theorem dX1_readPart_16 : decode cX1_readPart 16 = .ok (.ireturn, 1) := by decide +kernel
theorem dX1_readPart_17 : decode cX1_readPart 17 = .ok (.aload_n 0, 1) := by decide +kernel
theorem dX1_readPart_18 : decode cX1_readPart 18 = .ok (.iload_n 2, 1) := by decide +kernel
theorem dX1_readPart_19 : decode cX1_readPart 19 = .ok (.invokevirtual 68, 3) := by decide +kernel
theorem dX1_readPart_22 : decode cX1_readPart 22 = .ok (.istore_n 3, 1) := by decide +kernel
theorem dX1_readPart_23 : decode cX1_readPart 23 = .ok (.iload_n 3, 1) := by decide +kernel
theorem dX1_readPart_24 : decode cX1_readPart 24 = .ok (.ifCond .ge 23, 3) := by decide +kernel
theorem dX1_readPart_27 : decode cX1_readPart 27 = .ok (.aload_n 0, 1) := by decide +kernel
theorem dX1_readPart_28 : decode cX1_readPart 28 = .ok (.dup, 1) := by decide +kernel
theorem dX1_readPart_29 : decode cX1_readPart 29 = .ok (.getfield 35, 3) := by decide +kernel
theorem dX1_readPart_32 : decode cX1_readPart 32 = .ok (.iconst 1, 1) := by decide +kernel
theorem dX1_readPart_33 : decode cX1_readPart 33 = .ok (.iadd, 1) := by decide +kernel
theorem dX1_readPart_34 : decode cX1_readPart 34 = .ok (.putfield 35, 3) := by decide +kernel
theorem dX1_readPart_37 : decode cX1_readPart 37 = .ok (.aload_n 0, 1) := by decide +kernel
theorem dX1_readPart_38 : decode cX1_readPart 38 = .ok (.getfield 12, 3) := by decide +kernel
theorem dX1_readPart_41 : decode cX1_readPart 41 = .ok (.iload_n 3, 1) := by decide +kernel
theorem dX1_readPart_42 : decode cX1_readPart 42 = .ok (.invokevirtual 57, 3) := by decide +kernel
theorem dX1_readPart_45 : decode cX1_readPart 45 = .ok (.iconst 1, 1) := by decide +kernel
theorem dX1_readPart_46 : decode cX1_readPart 46 = .ok (.ireturn, 1) := by decide +kernel
theorem dX1_readPart_47 : decode cX1_readPart 47 = .ok (.iload_n 1, 1) := by decide +kernel
theorem dX1_readPart_48 : decode cX1_readPart 48 = .ok (.iconst 5, 1) := by decide +kernel
theorem dX1_readPart_49 : decode cX1_readPart 49 = .ok (.if_icmp .ge 15, 3) := by decide +kernel
theorem dX1_readPart_52 : decode cX1_readPart 52 = .ok (.iload_n 2, 1) := by decide +kernel
theorem dX1_readPart_53 : decode cX1_readPart 53 = .ok (.bipush 33, 2) := by decide +kernel
theorem dX1_readPart_55 : decode cX1_readPart 55 = .ok (.if_icmp .eq 11, 3) := by decide +kernel
theorem dX1_readPart_58 : decode cX1_readPart 58 = .ok (.iload_n 2, 1) := by decide +kernel
theorem dX1_readPart_59 : decode cX1_readPart 59 = .ok (.bipush 40, 2) := by decide +kernel
theorem dX1_readPart_61 : decode cX1_readPart 61 = .ok (.if_icmp .eq 5, 3) := by decide +kernel
theorem dX1_readPart_64 : decode cX1_readPart 64 = .ok (.iconst 0, 1) := by decide +kernel
theorem dX1_readPart_65 : decode cX1_readPart 65 = .ok (.ireturn, 1) := by decide +kernel
theorem dX1_readPart_66 : decode cX1_readPart 66 = .ok (.aload_n 0, 1) := by decide +kernel
theorem dX1_readPart_67 : decode cX1_readPart 67 = .ok (.dup, 1) := by decide +kernel
theorem dX1_readPart_68 : decode cX1_readPart 68 = .ok (.getfield 35, 3) := by decide +kernel
theorem dX1_readPart_71 : decode cX1_readPart 71 = .ok (.iconst 1, 1) := by decide +kernel
theorem dX1_readPart_72 : decode cX1_readPart 72 = .ok (.iadd, 1) := by decide +kernel
theorem dX1_readPart_73 : decode cX1_readPart 73 = .ok (.putfield 35, 3) := by decide +kernel
theorem dX1_readPart_76 : decode cX1_readPart 76 = .ok (.iload_n 2, 1) := by decide +kernel
theorem dX1_readPart_77 : decode cX1_readPart 77 = .ok (.bipush 33, 2) := by decide +kernel
theorem dX1_readPart_79 : decode cX1_readPart 79 = .ok (.if_icmp .ne 13, 3) := by decide +kernel
theorem dX1_readPart_82 : decode cX1_readPart 82 = .ok (.aload_n 0, 1) := by decide +kernel
theorem dX1_readPart_83 : decode cX1_readPart 83 = .ok (.iload_n 1, 1) := by decide +kernel
theorem dX1_readPart_84 : decode cX1_readPart 84 = .ok (.iconst 1, 1) := by decide +kernel
theorem dX1_readPart_85 : decode cX1_readPart 85 = .ok (.iadd, 1) := by decide +kernel
theorem dX1_readPart_86 : decode cX1_readPart 86 = .ok (.invokevirtual 71, 3) := by decide +kernel
theorem dX1_readPart_89 : decode cX1_readPart 89 = .ok (.goto 10, 3) := by decide +kernel
theorem dX1_readPart_92 : decode cX1_readPart 92 = .ok (.aload_n 0, 1) := by decide +kernel
theorem dX1_readPart_93 : decode cX1_readPart 93 = .ok (.iload_n 1, 1) := by decide +kernel
theorem dX1_readPart_94 : decode cX1_readPart 94 = .ok (.iconst 1, 1) := by decide +kernel
theorem dX1_readPart_95 : decode cX1_readPart 95 = .ok (.iadd, 1) := by decide +kernel
theorem dX1_readPart_96 : decode cX1_readPart 96 = .ok (.invokevirtual 74, 3) := by decide +kernel
theorem dX1_readPart_99 : decode cX1_readPart 99 = .ok (.ireturn, 1) := by decide +kernel
theorem dX1_readDenied_0 : decode cX1_readDenied 0 = .ok (.aload_n 0, 1) := by decide +kernel
theorem dX1_readDenied_1 : decode cX1_readDenied 1 = .ok (.iload_n 1, 1) := by decide +kernel
theorem dX1_readDenied_2 : decode cX1_readDenied 2 = .ok (.invokevirtual 45, 3) := by decide +kernel
theorem dX1_readDenied_5 : decode cX1_readDenied 5 = .ok (.ifCond .ne 5, 3) := by decide +kernel
theorem dX1_readDenied_8 : decode cX1_readDenied 8 = .ok (.iconst 0, 1) := by decide +kernel
theorem dX1_readDenied_9 : decode cX1_readDenied 9 = .ok (.ireturn, 1) := by decide +kernel
theorem dX1_readDenied_10 : decode cX1_readDenied 10 = .ok (.aload_n 0, 1) := by decide +kernel
theorem dX1_readDenied_11 : decode cX1_readDenied 11 = .ok (.getfield 12, 3) := by decide +kernel
theorem dX1_readDenied_14 : decode cX1_readDenied 14 = .ok (.bipush (-33), 2) := by decide +kernel
theorem dX1_readDenied_16 : decode cX1_readDenied 16 = .ok (.invokevirtual 57, 3) := by decide +kernel
theorem dX1_readDenied_19 : decode cX1_readDenied 19 = .ok (.iconst 1, 1) := by decide +kernel
theorem dX1_readDenied_20 : decode cX1_readDenied 20 = .ok (.ireturn, 1) := by decide +kernel
theorem dX1_readEnclosed_0 : decode cX1_readEnclosed 0 = .ok (.aload_n 0, 1) := by decide +kernel
theorem dX1_readEnclosed_1 : decode cX1_readEnclosed 1 = .ok (.iconst 0, 1) := by decide +kernel
theorem dX1_readEnclosed_2 : decode cX1_readEnclosed 2 = .ok (.iload_n 1, 1) := by decide +kernel
theorem dX1_readEnclosed_3 : decode cX1_readEnclosed 3 = .ok (.invokevirtual 41, 3) := by decide +kernel
theorem dX1_readEnclosed_6 : decode cX1_readEnclosed 6 = .ok (.ifCond .eq 12, 3) := by decide +kernel
theorem dX1_readEnclosed_9 : decode cX1_readEnclosed 9 = .ok (.aload_n 0, 1) := by decide +kernel
theorem dX1_readEnclosed_10 : decode cX1_readEnclosed 10 = .ok (.invokevirtual 49, 3) := by decide +kernel
theorem dX1_readEnclosed_13 : decode cX1_readEnclosed 13 = .ok (.bipush 41, 2) := by decide +kernel
theorem dX1_readEnclosed_15 : decode cX1_readEnclosed 15 = .ok (.if_icmp .eq 5, 3) := by decide +kernel
theorem dX1_readEnclosed_18 : decode cX1_readEnclosed 18 = .ok (.iconst 0, 1) := by decide +kernel
theorem dX1_readEnclosed_19 : decode cX1_readEnclosed 19 = .ok (.ireturn, 1) := by decide +kernel
theorem dX1_readEnclosed_20 : decode cX1_readEnclosed 20 = .ok (.aload_n 0, 1) := by decide +kernel
theorem dX1_readEnclosed_21 : decode cX1_readEnclosed 21 = .ok (.dup, 1) := by decide +kernel
theorem dX1_readEnclosed_22 : decode cX1_readEnclosed 22 = .ok (.getfield 35, 3) := by decide +kernel
theorem dX1_readEnclosed_25 : decode cX1_readEnclosed 25 = .ok (.iconst 1, 1) := by decide +kernel
theorem dX1_readEnclosed_26 : decode cX1_readEnclosed 26 = .ok (.iadd, 1) := by decide +kernel
theorem dX1_readEnclosed_27 : decode cX1_readEnclosed 27 = .ok (.putfield 35, 3) := by decide +kernel
theorem dX1_readEnclosed_30 : decode cX1_readEnclosed 30 = .ok (.iconst 1, 1) := by decide +kernel
theorem dX1_readEnclosed_31 : decode cX1_readEnclosed 31 = .ok (.ireturn, 1) := by decide +kernel
theorem dX1_readNumber_0 : decode cX1_readNumber 0 = .ok (.iconst 0, 1) := by decide +kernel
theorem dX1_readNumber_1 : decode cX1_readNumber 1 = .ok (.istore_n 1, 1) := by decide +kernel
theorem dX1_readNumber_2 : decode cX1_readNumber 2 = .ok (.iconst 0, 1) := by decide +kernel
theorem dX1_readNumber_3 : decode cX1_readNumber 3 = .ok (.istore_n 2, 1) := by decide +kernel
theorem dX1_readNumber_4 : decode cX1_readNumber 4 = .ok (.iload_n 2, 1) := by decide +kernel
theorem dX1_readNumber_5 : decode cX1_readNumber 5 = .ok (.iconst 4, 1) := by decide +kernel
theorem dX1_readNumber_6 : decode cX1_readNumber 6 = .ok (.if_icmp .ge 42, 3) := by decide +kernel
theorem dX1_readNumber_9 : decode cX1_readNumber 9 = .ok (.aload_n 0, 1) := by decide +kernel
theorem dX1_readNumber_10 : decode cX1_readNumber 10 = .ok (.invokevirtual 49, 3) := by decide +kernel
theorem dX1_readNumber_13 : decode cX1_readNumber 13 = .ok (.invokestatic 61, 3) := by decide +kernel
theorem dX1_readNumber_16 : decode cX1_readNumber 16 = .ok (.ifCond .eq 32, 3) := by decide +kernel
theorem dX1_readNumber_19 : decode cX1_readNumber 19 = .ok (.iload_n 1, 1) := by decide +kernel
theorem dX1_readNumber_20 : decode cX1_readNumber 20 = .ok (.bipush 10, 2) := by decide +kernel
theorem dX1_readNumber_22 : decode cX1_readNumber 22 = .ok (.imul, 1) := by decide +kernel
theorem dX1_readNumber_23 : decode cX1_readNumber 23 = .ok (.aload_n 0, 1) := by decide +kernel
theorem dX1_readNumber_24 : decode cX1_readNumber 24 = .ok (.invokevirtual 49, 3) := by decide +kernel
theorem dX1_readNumber_27 : decode cX1_readNumber 27 = .ok (.iadd, 1) := by decide +kernel
theorem dX1_readNumber_28 : decode cX1_readNumber 28 = .ok (.bipush 48, 2) := by decide +kernel
theorem dX1_readNumber_30 : decode cX1_readNumber 30 = .ok (.isub, 1) := by decide +kernel
theorem dX1_readNumber_31 : decode cX1_readNumber 31 = .ok (.istore_n 1, 1) := by decide +kernel
theorem dX1_readNumber_32 : decode cX1_readNumber 32 = .ok (.aload_n 0, 1) := by decide +kernel
theorem dX1_readNumber_33 : decode cX1_readNumber 33 = .ok (.dup, 1) := by decide +kernel
theorem dX1_readNumber_34 : decode cX1_readNumber 34 = .ok (.getfield 35, 3) := by decide +kernel
theorem dX1_readNumber_37 : decode cX1_readNumber 37 = .ok (.iconst 1, 1) := by decide +kernel
theorem dX1_readNumber_38 : decode cX1_readNumber 38 = .ok (.iadd, 1) := by decide +kernel
theorem dX1_readNumber_39 : decode cX1_readNumber 39 = .ok (.putfield 35, 3) := by decide +kernel
theorem dX1_readNumber_42 : decode cX1_readNumber 42 = .ok (.iinc 2 1, 3) := by decide +kernel
theorem dX1_readNumber_45 : decode cX1_readNumber 45 = .ok (.goto (-41), 3) := by decide +kernel
theorem dX1_readNumber_48 : decode cX1_readNumber 48 = .ok (.aload_n 0, 1) := by decide +kernel
theorem dX1_readNumber_49 : decode cX1_readNumber 49 = .ok (.getfield 12, 3) := by decide +kernel
theorem dX1_readNumber_52 : decode cX1_readNumber 52 = .ok (.iload_n 1, 1) := by decide +kernel
theorem dX1_readNumber_53 : decode cX1_readNumber 53 = .ok (.invokevirtual 57, 3) := by decide +kernel
theorem dX1_readNumber_56 : decode cX1_readNumber 56 = .ok (.iconst 1, 1) := by decide +kernel
theorem dX1_readNumber_57 : decode cX1_readNumber 57 = .ok (.ireturn, 1) := by decide +kernel
theorem dX1_isDigit_0 : decode cX1_isDigit 0 = .ok (.iload_n 0, 1) := by decide +kernel
theorem dX1_isDigit_1 : decode cX1_isDigit 1 = .ok (.bipush 48, 2) := by decide +kernel
theorem dX1_isDigit_3 : decode cX1_isDigit 3 = .ok (.if_icmp .lt 13, 3) := by decide +kernel
theorem dX1_isDigit_6 : decode cX1_isDigit 6 = .ok (.iload_n 0, 1) := by decide +kernel
theorem dX1_isDigit_7 : decode cX1_isDigit 7 = .ok (.bipush 57, 2) := by decide +kernel
theorem dX1_isDigit_9 : decode cX1_isDigit 9 = .ok (.if_icmp .gt 7, 3) := by decide +kernel
theorem dX1_isDigit_12 : decode cX1_isDigit 12 = .ok (.iconst 1, 1) := by decide +kernel
theorem dX1_isDigit_13 : decode cX1_isDigit 13 = .ok (.goto 4, 3) := by decide +kernel
theorem dX1_isDigit_16 : decode cX1_isDigit 16 = .ok (.iconst 0, 1) := by decide +kernel
theorem dX1_isDigit_17 : decode cX1_isDigit 17 = .ok (.ireturn, 1) := by decide +kernel
theorem dX1_nameOf_0 : decode cX1_nameOf 0 = .ok (.iload_n 1, 1) := by decide +kernel
theorem dX1_nameOf_1 : decode cX1_nameOf 1 = .ok (.tableswitch 160 105 119 #[102, 160, 160, 130, 160, 160, 160, 75, 88, 160, 116, 160, 160, 160, 145], 75) := by decide +kernel
theorem dX1_nameOf_76 : decode cX1_nameOf 76 = .ok (.aload_n 0, 1) := by decide +kernel
theorem dX1_nameOf_77 : decode cX1_nameOf 77 = .ok (.getfield 32, 3) := by decide +kernel
theorem dX1_nameOf_80 : decode cX1_nameOf 80 = .ok (.ifCond .ne 7, 3) := by decide +kernel
theorem dX1_nameOf_83 : decode cX1_nameOf 83 = .ok (.iconst (-1), 1) := by decide +kernel
theorem dX1_nameOf_84 : decode cX1_nameOf 84 = .ok (.goto 4, 3) := by decide +kernel
theorem dX1_nameOf_87 : decode cX1_nameOf 87 = .ok (.iconst 0, 1) := by decide +kernel
theorem dX1_nameOf_88 : decode cX1_nameOf 88 = .ok (.ireturn, 1) := by decide +kernel
theorem dX1_nameOf_89 : decode cX1_nameOf 89 = .ok (.aload_n 0, 1) := by decide +kernel
theorem dX1_nameOf_90 : decode cX1_nameOf 90 = .ok (.getfield 32, 3) := by decide +kernel
theorem dX1_nameOf_93 : decode cX1_nameOf 93 = .ok (.ifCond .ne 8, 3) := by decide +kernel
theorem dX1_nameOf_96 : decode cX1_nameOf 96 = .ok (.bipush (-2), 2) := by decide +kernel
theorem dX1_nameOf_98 : decode cX1_nameOf 98 = .ok (.goto 4, 3) := by decide +kernel
theorem dX1_nameOf_101 : decode cX1_nameOf 101 = .ok (.iconst 0, 1) := by decide +kernel
theorem dX1_nameOf_102 : decode cX1_nameOf 102 = .ok (.ireturn, 1) := by decide +kernel
theorem dX1_nameOf_103 : decode cX1_nameOf 103 = .ok (.aload_n 0, 1) := by decide +kernel
theorem dX1_nameOf_104 : decode cX1_nameOf 104 = .ok (.getfield 32, 3) := by decide +kernel
theorem dX1_nameOf_107 : decode cX1_nameOf 107 = .ok (.ifCond .ne 8, 3) := by decide +kernel
theorem dX1_nameOf_110 : decode cX1_nameOf 110 = .ok (.bipush (-3), 2) := by decide +kernel
theorem dX1_nameOf_112 : decode cX1_nameOf 112 = .ok (.goto 4, 3) := by decide +kernel
theorem dX1_nameOf_115 : decode cX1_nameOf 115 = .ok (.iconst 0, 1) := by decide +kernel
theorem dX1_nameOf_116 : decode cX1_nameOf 116 = .ok (.ireturn, 1) := by decide +kernel
theorem dX1_nameOf_117 : decode cX1_nameOf 117 = .ok (.aload_n 0, 1) := by decide +kernel
theorem dX1_nameOf_118 : decode cX1_nameOf 118 = .ok (.getfield 32, 3) := by decide +kernel
theorem dX1_nameOf_121 : decode cX1_nameOf 121 = .ok (.iconst 1, 1) := by decide +kernel
theorem dX1_nameOf_122 : decode cX1_nameOf 122 = .ok (.if_icmp .ne 7, 3) := by decide +kernel
theorem dX1_nameOf_125 : decode cX1_nameOf 125 = .ok (.iconst (-1), 1) := by decide +kernel
theorem dX1_nameOf_126 : decode cX1_nameOf 126 = .ok (.goto 4, 3) := by decide +kernel
theorem dX1_nameOf_129 : decode cX1_nameOf 129 = .ok (.iconst 0, 1) := by decide +kernel
theorem dX1_nameOf_130 : decode cX1_nameOf 130 = .ok (.ireturn, 1) := by decide +kernel
theorem dX1_nameOf_131 : decode cX1_nameOf 131 = .ok (.aload_n 0, 1) := by decide +kernel
theorem dX1_nameOf_132 : decode cX1_nameOf 132 = .ok (.getfield 32, 3) := by decide +kernel
theorem dX1_nameOf_135 : decode cX1_nameOf 135 = .ok (.iconst 1, 1) := by decide +kernel
theorem dX1_nameOf_136 : decode cX1_nameOf 136 = .ok (.if_icmp .ne 8, 3) := by decide +kernel
theorem dX1_nameOf_139 : decode cX1_nameOf 139 = .ok (.bipush (-2), 2) := by decide +kernel
theorem dX1_nameOf_141 : decode cX1_nameOf 141 = .ok (.goto 4, 3) := by decide +kernel
theorem dX1_nameOf_144 : decode cX1_nameOf 144 = .ok (.iconst 0, 1) := by decide +kernel
theorem dX1_nameOf_145 : decode cX1_nameOf 145 = .ok (.ireturn, 1) := by decide +kernel
theorem dX1_nameOf_146 : decode cX1_nameOf 146 = .ok (.aload_n 0, 1) := by decide +kernel
theorem dX1_nameOf_147 : decode cX1_nameOf 147 = .ok (.getfield 32, 3) := by decide +kernel
theorem dX1_nameOf_150 : decode cX1_nameOf 150 = .ok (.iconst 1, 1) := by decide +kernel
theorem dX1_nameOf_151 : decode cX1_nameOf 151 = .ok (.if_icmp .ne 8, 3) := by decide +kernel
theorem dX1_nameOf_154 : decode cX1_nameOf 154 = .ok (.bipush (-3), 2) := by decide +kernel
theorem dX1_nameOf_156 : decode cX1_nameOf 156 = .ok (.goto 4, 3) := by decide +kernel
theorem dX1_nameOf_159 : decode cX1_nameOf 159 = .ok (.iconst 0, 1) := by decide +kernel
theorem dX1_nameOf_160 : decode cX1_nameOf 160 = .ok (.ireturn, 1) := by decide +kernel
theorem dX1_nameOf_161 : decode cX1_nameOf 161 = .ok (.iconst 0, 1) := by decide +kernel
theorem dX1_nameOf_162 : decode cX1_nameOf 162 = .ok (.ireturn, 1) := by decide +kernel
theorem dX2_init_0 : decode cX2_init 0 = .ok (.aload_n 0, 1) := by decide +kernel
theorem dX2_init_1 : decode cX2_init 1 = .ok (.invokespecial 1, 3) := by decide +kernel
theorem dX2_init_4 : decode cX2_init 4 = .ok (.aload_n 0, 1) := by decide +kernel
theorem dX2_init_5 : decode cX2_init 5 = .ok (.iconst 4, 1) := by decide +kernel
theorem dX2_init_6 : decode cX2_init 6 = .ok (.newarray .int, 2) := by decide +kernel
theorem dX2_init_8 : decode cX2_init 8 = .ok (.putfield 9, 3) := by decide +kernel
theorem dX2_init_11 : decode cX2_init 11 = .ok (.aload_n 0, 1) := by decide +kernel
theorem dX2_init_12 : decode cX2_init 12 = .ok (.iconst 4, 1) := by decide +kernel
theorem dX2_init_13 : decode cX2_init 13 = .ok (.newarray .int, 2) := by decide +kernel
theorem dX2_init_15 : decode cX2_init 15 = .ok (.putfield 13, 3) := by decide +kernel
theorem dX2_init_18 : decode cX2_init 18 = .ok (.aload_n 0, 1) := by decide +kernel
theorem dX2_init_19 : decode cX2_init 19 = .ok (.sipush 160, 3) := by decide +kernel
theorem dX2_init_22 : decode cX2_init 22 = .ok (.newarray .int, 2) := by decide +kernel
theorem dX2_init_24 : decode cX2_init 24 = .ok (.putfield 16, 3) := by decide +kernel
theorem dX2_init_27 : decode cX2_init 27 = .ok (.return_, 1) := by decide +kernel
theorem dX2_isSheet_0 : decode cX2_isSheet 0 = .ok (.iload_n 1, 1) := by decide +kernel
theorem dX2_isSheet_1 : decode cX2_isSheet 1 = .ok (.ifCond .lt 12, 3) := by decide +kernel
theorem dX2_isSheet_4 : decode cX2_isSheet 4 = .ok (.iload_n 1, 1) := by decide +kernel
theorem dX2_isSheet_5 : decode cX2_isSheet 5 = .ok (.iconst 4, 1) := by decide +kernel
theorem dX2_isSheet_6 : decode cX2_isSheet 6 = .ok (.if_icmp .ge 7, 3) := by decide +kernel
theorem dX2_isSheet_9 : decode cX2_isSheet 9 = .ok (.iconst 1, 1) := by decide +kernel
theorem dX2_isSheet_10 : decode cX2_isSheet 10 = .ok (.goto 4, 3) := by decide +kernel
theorem dX2_isSheet_13 : decode cX2_isSheet 13 = .ok (.iconst 0, 1) := by decide +kernel
theorem dX2_isSheet_14 : decode cX2_isSheet 14 = .ok (.ireturn, 1) := by decide +kernel
theorem dX2_isWidth_0 : decode cX2_isWidth 0 = .ok (.iload_n 1, 1) := by decide +kernel
theorem dX2_isWidth_1 : decode cX2_isWidth 1 = .ok (.ifCond .eq 21, 3) := by decide +kernel
theorem dX2_isWidth_4 : decode cX2_isWidth 4 = .ok (.iload_n 1, 1) := by decide +kernel
theorem dX2_isWidth_5 : decode cX2_isWidth 5 = .ok (.bipush 8, 2) := by decide +kernel
theorem dX2_isWidth_7 : decode cX2_isWidth 7 = .ok (.if_icmp .eq 15, 3) := by decide +kernel
theorem dX2_isWidth_10 : decode cX2_isWidth 10 = .ok (.iload_n 1, 1) := by decide +kernel
theorem dX2_isWidth_11 : decode cX2_isWidth 11 = .ok (.bipush 16, 2) := by decide +kernel
theorem dX2_isWidth_13 : decode cX2_isWidth 13 = .ok (.if_icmp .eq 9, 3) := by decide +kernel
theorem dX2_isWidth_16 : decode cX2_isWidth 16 = .ok (.iload_n 1, 1) := by decide +kernel
theorem dX2_isWidth_17 : decode cX2_isWidth 17 = .ok (.bipush 32, 2) := by decide +kernel
theorem dX2_isWidth_19 : decode cX2_isWidth 19 = .ok (.if_icmp .ne 7, 3) := by decide +kernel
theorem dX2_isWidth_22 : decode cX2_isWidth 22 = .ok (.iconst 1, 1) := by decide +kernel
theorem dX2_isWidth_23 : decode cX2_isWidth 23 = .ok (.goto 4, 3) := by decide +kernel
theorem dX2_isWidth_26 : decode cX2_isWidth 26 = .ok (.iconst 0, 1) := by decide +kernel
theorem dX2_isWidth_27 : decode cX2_isWidth 27 = .ok (.ireturn, 1) := by decide +kernel
theorem dX2_isMissing_0 : decode cX2_isMissing 0 = .ok (.aload_n 0, 1) := by decide +kernel
theorem dX2_isMissing_1 : decode cX2_isMissing 1 = .ok (.getfield 9, 3) := by decide +kernel
theorem dX2_isMissing_4 : decode cX2_isMissing 4 = .ok (.iload_n 1, 1) := by decide +kernel
theorem dX2_isMissing_5 : decode cX2_isMissing 5 = .ok (.iaload, 1) := by decide +kernel
theorem dX2_isMissing_6 : decode cX2_isMissing 6 = .ok (.ifCond .ne 7, 3) := by decide +kernel
theorem dX2_isMissing_9 : decode cX2_isMissing 9 = .ok (.iconst 1, 1) := by decide +kernel
theorem dX2_isMissing_10 : decode cX2_isMissing 10 = .ok (.goto 4, 3) := by decide +kernel
theorem dX2_isMissing_13 : decode cX2_isMissing 13 = .ok (.iconst 0, 1) := by decide +kernel
theorem dX2_isMissing_14 : decode cX2_isMissing 14 = .ok (.ireturn, 1) := by decide +kernel
theorem dX2_lay_0 : decode cX2_lay 0 = .ok (.aload_n 0, 1) := by decide +kernel
theorem dX2_lay_1 : decode cX2_lay 1 = .ok (.getfield 9, 3) := by decide +kernel
theorem dX2_lay_4 : decode cX2_lay 4 = .ok (.iload_n 1, 1) := by decide +kernel
theorem dX2_lay_5 : decode cX2_lay 5 = .ok (.iload_n 2, 1) := by decide +kernel
theorem dX2_lay_6 : decode cX2_lay 6 = .ok (.iastore, 1) := by decide +kernel
theorem dX2_lay_7 : decode cX2_lay 7 = .ok (.aload_n 0, 1) := by decide +kernel
theorem dX2_lay_8 : decode cX2_lay 8 = .ok (.getfield 13, 3) := by decide +kernel
theorem dX2_lay_11 : decode cX2_lay 11 = .ok (.iload_n 1, 1) := by decide +kernel
theorem dX2_lay_12 : decode cX2_lay 12 = .ok (.iload_n 3, 1) := by decide +kernel
theorem dX2_lay_13 : decode cX2_lay 13 = .ok (.iastore, 1) := by decide +kernel
theorem dX2_lay_14 : decode cX2_lay 14 = .ok (.iconst 0, 1) := by decide +kernel
theorem dX2_lay_15 : decode cX2_lay 15 = .ok (.istore 4, 2) := by decide +kernel
theorem dX2_lay_17 : decode cX2_lay 17 = .ok (.iload 4, 2) := by decide +kernel
theorem dX2_lay_19 : decode cX2_lay 19 = .ok (.bipush 40, 2) := by decide +kernel
theorem dX2_lay_21 : decode cX2_lay 21 = .ok (.if_icmp .ge 22, 3) := by decide +kernel
theorem dX2_lay_24 : decode cX2_lay 24 = .ok (.aload_n 0, 1) := by decide +kernel
theorem dX2_lay_25 : decode cX2_lay 25 = .ok (.getfield 16, 3) := by decide +kernel
theorem dX2_lay_28 : decode cX2_lay 28 = .ok (.iload_n 1, 1) := by decide +kernel
theorem dX2_lay_29 : decode cX2_lay 29 = .ok (.bipush 40, 2) := by decide +kernel
theorem dX2_lay_31 : decode cX2_lay 31 = .ok (.imul, 1) := by decide +kernel
theorem dX2_lay_32 : decode cX2_lay 32 = .ok (.iload 4, 2) := by decide +kernel
theorem dX2_lay_34 : decode cX2_lay 34 = .ok (.iadd, 1) := by decide +kernel
theorem dX2_lay_35 : decode cX2_lay 35 = .ok (.iconst 0, 1) := by decide +kernel
theorem dX2_lay_36 : decode cX2_lay 36 = .ok (.iastore, 1) := by decide +kernel
theorem dX2_lay_37 : decode cX2_lay 37 = .ok (.iinc 4 1, 3) := by decide +kernel
theorem dX2_lay_40 : decode cX2_lay 40 = .ok (.goto (-23), 3) := by decide +kernel
theorem dX2_lay_43 : decode cX2_lay 43 = .ok (.return_, 1) := by decide +kernel
theorem dX2_numberAt_0 : decode cX2_numberAt 0 = .ok (.aload_n 0, 1) := by decide +kernel
theorem dX2_numberAt_1 : decode cX2_numberAt 1 = .ok (.getfield 16, 3) := by decide +kernel
theorem dX2_numberAt_4 : decode cX2_numberAt 4 = .ok (.iload_n 1, 1) := by decide +kernel
theorem dX2_numberAt_5 : decode cX2_numberAt 5 = .ok (.bipush 40, 2) := by decide +kernel
theorem dX2_numberAt_7 : decode cX2_numberAt 7 = .ok (.imul, 1) := by decide +kernel
theorem dX2_numberAt_8 : decode cX2_numberAt 8 = .ok (.iload_n 2, 1) := by decide +kernel
theorem dX2_numberAt_9 : decode cX2_numberAt 9 = .ok (.iadd, 1) := by decide +kernel
theorem dX2_numberAt_10 : decode cX2_numberAt 10 = .ok (.iaload, 1) := by decide +kernel
theorem dX2_numberAt_11 : decode cX2_numberAt 11 = .ok (.ireturn, 1) := by decide +kernel
theorem dX2_set_0 : decode cX2_set 0 = .ok (.bipush 32, 2) := by decide +kernel
theorem dX2_set_2 : decode cX2_set 2 = .ok (.aload_n 0, 1) := by decide +kernel
theorem dX2_set_3 : decode cX2_set 3 = .ok (.getfield 9, 3) := by decide +kernel
theorem dX2_set_6 : decode cX2_set 6 = .ok (.iload_n 1, 1) := by decide +kernel
theorem dX2_set_7 : decode cX2_set 7 = .ok (.iaload, 1) := by decide +kernel
theorem dX2_set_8 : decode cX2_set 8 = .ok (.isub, 1) := by decide +kernel
theorem dX2_set_9 : decode cX2_set 9 = .ok (.istore 4, 2) := by decide +kernel
theorem dX2_set_11 : decode cX2_set 11 = .ok (.aload_n 0, 1) := by decide +kernel
theorem dX2_set_12 : decode cX2_set 12 = .ok (.getfield 16, 3) := by decide +kernel
theorem dX2_set_15 : decode cX2_set 15 = .ok (.iload_n 1, 1) := by decide +kernel
theorem dX2_set_16 : decode cX2_set 16 = .ok (.bipush 40, 2) := by decide +kernel
theorem dX2_set_18 : decode cX2_set 18 = .ok (.imul, 1) := by decide +kernel
theorem dX2_set_19 : decode cX2_set 19 = .ok (.iload_n 2, 1) := by decide +kernel
theorem dX2_set_20 : decode cX2_set 20 = .ok (.iadd, 1) := by decide +kernel
theorem dX2_set_21 : decode cX2_set 21 = .ok (.iload_n 3, 1) := by decide +kernel
theorem dX2_set_22 : decode cX2_set 22 = .ok (.iload 4, 2) := by decide +kernel
theorem dX2_set_24 : decode cX2_set 24 = .ok (.ishl, 1) := by decide +kernel
theorem dX2_set_25 : decode cX2_set 25 = .ok (.iload 4, 2) := by decide +kernel
theorem dX2_set_27 : decode cX2_set 27 = .ok (.ishr, 1) := by decide +kernel
theorem dX2_set_28 : decode cX2_set 28 = .ok (.iastore, 1) := by decide +kernel
theorem dX2_set_29 : decode cX2_set 29 = .ok (.return_, 1) := by decide +kernel
theorem dX2_hasRun_0 : decode cX2_hasRun 0 = .ok (.iload_n 3, 1) := by decide +kernel
theorem dX2_hasRun_1 : decode cX2_hasRun 1 = .ok (.ifCond .lt 33, 3) := by decide +kernel
theorem dX2_hasRun_4 : decode cX2_hasRun 4 = .ok (.iload_n 2, 1) := by decide +kernel
theorem dX2_hasRun_5 : decode cX2_hasRun 5 = .ok (.ifCond .lt 29, 3) := by decide +kernel
theorem dX2_hasRun_8 : decode cX2_hasRun 8 = .ok (.iload_n 3, 1) := by decide +kernel
theorem dX2_hasRun_9 : decode cX2_hasRun 9 = .ok (.aload_n 0, 1) := by decide +kernel
theorem dX2_hasRun_10 : decode cX2_hasRun 10 = .ok (.getfield 13, 3) := by decide +kernel
theorem dX2_hasRun_13 : decode cX2_hasRun 13 = .ok (.iload_n 1, 1) := by decide +kernel
theorem dX2_hasRun_14 : decode cX2_hasRun 14 = .ok (.iaload, 1) := by decide +kernel
theorem dX2_hasRun_15 : decode cX2_hasRun 15 = .ok (.if_icmp .gt 19, 3) := by decide +kernel
theorem dX2_hasRun_18 : decode cX2_hasRun 18 = .ok (.iload_n 2, 1) := by decide +kernel
theorem dX2_hasRun_19 : decode cX2_hasRun 19 = .ok (.aload_n 0, 1) := by decide +kernel
theorem dX2_hasRun_20 : decode cX2_hasRun 20 = .ok (.getfield 13, 3) := by decide +kernel
theorem dX2_hasRun_23 : decode cX2_hasRun 23 = .ok (.iload_n 1, 1) := by decide +kernel
theorem dX2_hasRun_24 : decode cX2_hasRun 24 = .ok (.iaload, 1) := by decide +kernel
theorem dX2_hasRun_25 : decode cX2_hasRun 25 = .ok (.iload_n 3, 1) := by decide +kernel
theorem dX2_hasRun_26 : decode cX2_hasRun 26 = .ok (.isub, 1) := by decide +kernel
theorem dX2_hasRun_27 : decode cX2_hasRun 27 = .ok (.if_icmp .gt 7, 3) := by decide +kernel
theorem dX2_hasRun_30 : decode cX2_hasRun 30 = .ok (.iconst 1, 1) := by decide +kernel
theorem dX2_hasRun_31 : decode cX2_hasRun 31 = .ok (.goto 4, 3) := by decide +kernel
theorem dX2_hasRun_34 : decode cX2_hasRun 34 = .ok (.iconst 0, 1) := by decide +kernel
theorem dX2_hasRun_35 : decode cX2_hasRun 35 = .ok (.ireturn, 1) := by decide +kernel
theorem dX2_copyRun_0 : decode cX2_copyRun 0 = .ok (.aload_n 0, 1) := by decide +kernel
theorem dX2_copyRun_1 : decode cX2_copyRun 1 = .ok (.getfield 16, 3) := by decide +kernel
theorem dX2_copyRun_4 : decode cX2_copyRun 4 = .ok (.iload_n 1, 1) := by decide +kernel
theorem dX2_copyRun_5 : decode cX2_copyRun 5 = .ok (.bipush 40, 2) := by decide +kernel
theorem dX2_copyRun_7 : decode cX2_copyRun 7 = .ok (.imul, 1) := by decide +kernel
theorem dX2_copyRun_8 : decode cX2_copyRun 8 = .ok (.iload_n 2, 1) := by decide +kernel
theorem dX2_copyRun_9 : decode cX2_copyRun 9 = .ok (.iadd, 1) := by decide +kernel
theorem dX2_copyRun_10 : decode cX2_copyRun 10 = .ok (.aload_n 0, 1) := by decide +kernel
theorem dX2_copyRun_11 : decode cX2_copyRun 11 = .ok (.getfield 16, 3) := by decide +kernel
theorem dX2_copyRun_14 : decode cX2_copyRun 14 = .ok (.iload_n 3, 1) := by decide +kernel
theorem dX2_copyRun_15 : decode cX2_copyRun 15 = .ok (.bipush 40, 2) := by decide +kernel
theorem dX2_copyRun_17 : decode cX2_copyRun 17 = .ok (.imul, 1) := by decide +kernel
theorem dX2_copyRun_18 : decode cX2_copyRun 18 = .ok (.iload 4, 2) := by decide +kernel
theorem dX2_copyRun_20 : decode cX2_copyRun 20 = .ok (.iadd, 1) := by decide +kernel
theorem dX2_copyRun_21 : decode cX2_copyRun 21 = .ok (.iload 5, 2) := by decide +kernel
theorem dX2_copyRun_23 : decode cX2_copyRun 23 = .ok (.invokestatic 19, 3) := by decide +kernel
theorem dX2_copyRun_26 : decode cX2_copyRun 26 = .ok (.return_, 1) := by decide +kernel
theorem dX4_init_0 : decode cX4_init 0 = .ok (.aload_n 0, 1) := by decide +kernel
theorem dX4_init_1 : decode cX4_init 1 = .ok (.invokespecial 3, 3) := by decide +kernel
theorem dX4_init_4 : decode cX4_init 4 = .ok (.aload_n 0, 1) := by decide +kernel
theorem dX4_init_5 : decode cX4_init 5 = .ok (.bipush 14, 2) := by decide +kernel
theorem dX4_init_7 : decode cX4_init 7 = .ok (.newarray .long, 2) := by decide +kernel
theorem dX4_init_9 : decode cX4_init 9 = .ok (.putfield 9, 3) := by decide +kernel
theorem dX4_init_12 : decode cX4_init 12 = .ok (.aload_n 0, 1) := by decide +kernel
theorem dX4_init_13 : decode cX4_init 13 = .ok (.bipush 14, 2) := by decide +kernel
theorem dX4_init_15 : decode cX4_init 15 = .ok (.newarray .long, 2) := by decide +kernel
theorem dX4_init_17 : decode cX4_init 17 = .ok (.putfield 15, 3) := by decide +kernel
theorem dX4_init_20 : decode cX4_init 20 = .ok (.aload_n 0, 1) := by decide +kernel
theorem dX4_init_21 : decode cX4_init 21 = .ok (.aload_n 1, 1) := by decide +kernel
theorem dX4_init_22 : decode cX4_init 22 = .ok (.putfield 18, 3) := by decide +kernel
theorem dX4_init_25 : decode cX4_init 25 = .ok (.return_, 1) := by decide +kernel
theorem dX4_widestSet_0 : decode cX4_widestSet 0 = .ok (.aload_n 0, 1) := by decide +kernel
theorem dX4_widestSet_1 : decode cX4_widestSet 1 = .ok (.iconst 0, 1) := by decide +kernel
theorem dX4_widestSet_2 : decode cX4_widestSet 2 = .ok (.putfield 22, 3) := by decide +kernel
theorem dX4_widestSet_5 : decode cX4_widestSet 5 = .ok (.aload_n 0, 1) := by decide +kernel
theorem dX4_widestSet_6 : decode cX4_widestSet 6 = .ok (.iconst 0, 1) := by decide +kernel
theorem dX4_widestSet_7 : decode cX4_widestSet 7 = .ok (.putfield 26, 3) := by decide +kernel
theorem dX4_widestSet_10 : decode cX4_widestSet 10 = .ok (.aload_n 0, 1) := by decide +kernel
theorem dX4_widestSet_11 : decode cX4_widestSet 11 = .ok (.aload_n 0, 1) := by decide +kernel
theorem dX4_widestSet_12 : decode cX4_widestSet 12 = .ok (.getfield 18, 3) := by decide +kernel
theorem dX4_widestSet_15 : decode cX4_widestSet 15 = .ok (.getfield 29, 3) := by decide +kernel
theorem dX4_widestSet_18 : decode cX4_widestSet 18 = .ok (.iconst 1, 1) := by decide +kernel
theorem dX4_widestSet_19 : decode cX4_widestSet 19 = .ok (.isub, 1) := by decide +kernel
theorem dX4_widestSet_20 : decode cX4_widestSet 20 = .ok (.iconst 0, 1) := by decide +kernel
theorem dX4_widestSet_21 : decode cX4_widestSet 21 = .ok (.iconst 0, 1) := by decide +kernel
theorem dX4_widestSet_22 : decode cX4_widestSet 22 = .ok (.iconst 0, 1) := by decide +kernel
theorem dX4_widestSet_23 : decode cX4_widestSet 23 = .ok (.invokevirtual 34, 3) := by decide +kernel
theorem dX4_widestSet_26 : decode cX4_widestSet 26 = .ok (.aload_n 0, 1) := by decide +kernel
theorem dX4_widestSet_27 : decode cX4_widestSet 27 = .ok (.getfield 22, 3) := by decide +kernel
theorem dX4_widestSet_30 : decode cX4_widestSet 30 = .ok (.ireturn, 1) := by decide +kernel
theorem dX4_choose_0 : decode cX4_choose 0 = .ok (.iload_n 2, 1) := by decide +kernel
theorem dX4_choose_1 : decode cX4_choose 1 = .ok (.iload_n 1, 1) := by decide +kernel
theorem dX4_choose_2 : decode cX4_choose 2 = .ok (.iadd, 1) := by decide +kernel
theorem dX4_choose_3 : decode cX4_choose 3 = .ok (.iconst 1, 1) := by decide +kernel
theorem dX4_choose_4 : decode cX4_choose 4 = .ok (.iadd, 1) := by decide +kernel
theorem dX4_choose_5 : decode cX4_choose 5 = .ok (.aload_n 0, 1) := by decide +kernel
theorem dX4_choose_6 : decode cX4_choose 6 = .ok (.getfield 26, 3) := by decide +kernel
theorem dX4_choose_9 : decode cX4_choose 9 = .ok (.if_icmp .gt 4, 3) := by decide +kernel
theorem dX4_choose_12 : decode cX4_choose 12 = .ok (.return_, 1) := by decide +kernel
theorem dX4_choose_13 : decode cX4_choose 13 = .ok (.iload_n 1, 1) := by decide +kernel
theorem dX4_choose_14 : decode cX4_choose 14 = .ok (.ifCond .ge 14, 3) := by decide +kernel
theorem dX4_choose_17 : decode cX4_choose 17 = .ok (.aload_n 0, 1) := by decide +kernel
theorem dX4_choose_18 : decode cX4_choose 18 = .ok (.iload_n 3, 1) := by decide +kernel
theorem dX4_choose_19 : decode cX4_choose 19 = .ok (.putfield 22, 3) := by decide +kernel
theorem dX4_choose_22 : decode cX4_choose 22 = .ok (.aload_n 0, 1) := by decide +kernel
theorem dX4_choose_23 : decode cX4_choose 23 = .ok (.iload_n 2, 1) := by decide +kernel
theorem dX4_choose_24 : decode cX4_choose 24 = .ok (.putfield 26, 3) := by decide +kernel
theorem dX4_choose_27 : decode cX4_choose 27 = .ok (.return_, 1) := by decide +kernel
theorem dX4_choose_28 : decode cX4_choose 28 = .ok (.aload_n 0, 1) := by decide +kernel
theorem dX4_choose_29 : decode cX4_choose 29 = .ok (.iload_n 1, 1) := by decide +kernel
theorem dX4_choose_30 : decode cX4_choose 30 = .ok (.iconst 1, 1) := by decide +kernel
theorem dX4_choose_31 : decode cX4_choose 31 = .ok (.isub, 1) := by decide +kernel
theorem dX4_choose_32 : decode cX4_choose 32 = .ok (.iload_n 2, 1) := by decide +kernel
theorem dX4_choose_33 : decode cX4_choose 33 = .ok (.iload_n 3, 1) := by decide +kernel
theorem dX4_choose_34 : decode cX4_choose 34 = .ok (.iload 4, 2) := by decide +kernel
theorem dX4_choose_36 : decode cX4_choose 36 = .ok (.invokevirtual 34, 3) := by decide +kernel
theorem dX4_choose_39 : decode cX4_choose 39 = .ok (.aload_n 0, 1) := by decide +kernel
theorem dX4_choose_40 : decode cX4_choose 40 = .ok (.getfield 18, 3) := by decide +kernel
theorem dX4_choose_43 : decode cX4_choose 43 = .ok (.getfield 38, 3) := by decide +kernel
theorem dX4_choose_46 : decode cX4_choose 46 = .ok (.iload_n 1, 1) := by decide +kernel
theorem dX4_choose_47 : decode cX4_choose 47 = .ok (.iaload, 1) := by decide +kernel
theorem dX4_choose_48 : decode cX4_choose 48 = .ok (.iload 4, 2) := by decide +kernel
theorem dX4_choose_50 : decode cX4_choose 50 = .ok (.iand, 1) := by decide +kernel
theorem dX4_choose_51 : decode cX4_choose 51 = .ok (.ifCond .ne 30, 3) := by decide +kernel
theorem dX4_choose_54 : decode cX4_choose 54 = .ok (.aload_n 0, 1) := by decide +kernel
theorem dX4_choose_55 : decode cX4_choose 55 = .ok (.iload_n 1, 1) := by decide +kernel
theorem dX4_choose_56 : decode cX4_choose 56 = .ok (.iconst 1, 1) := by decide +kernel
theorem dX4_choose_57 : decode cX4_choose 57 = .ok (.isub, 1) := by decide +kernel
theorem dX4_choose_58 : decode cX4_choose 58 = .ok (.iload_n 2, 1) := by decide +kernel
theorem dX4_choose_59 : decode cX4_choose 59 = .ok (.iconst 1, 1) := by decide +kernel
theorem dX4_choose_60 : decode cX4_choose 60 = .ok (.iadd, 1) := by decide +kernel
theorem dX4_choose_61 : decode cX4_choose 61 = .ok (.iload_n 3, 1) := by decide +kernel
theorem dX4_choose_62 : decode cX4_choose 62 = .ok (.iconst 1, 1) := by decide +kernel
theorem dX4_choose_63 : decode cX4_choose 63 = .ok (.iload_n 1, 1) := by decide +kernel
theorem dX4_choose_64 : decode cX4_choose 64 = .ok (.ishl, 1) := by decide +kernel
theorem dX4_choose_65 : decode cX4_choose 65 = .ok (.ior, 1) := by decide +kernel
theorem dX4_choose_66 : decode cX4_choose 66 = .ok (.iload 4, 2) := by decide +kernel
theorem dX4_choose_68 : decode cX4_choose 68 = .ok (.aload_n 0, 1) := by decide +kernel
theorem dX4_choose_69 : decode cX4_choose 69 = .ok (.getfield 18, 3) := by decide +kernel
theorem dX4_choose_72 : decode cX4_choose 72 = .ok (.getfield 38, 3) := by decide +kernel
theorem dX4_choose_75 : decode cX4_choose 75 = .ok (.iload_n 1, 1) := by decide +kernel
theorem dX4_choose_76 : decode cX4_choose 76 = .ok (.iaload, 1) := by decide +kernel
theorem dX4_choose_77 : decode cX4_choose 77 = .ok (.ior, 1) := by decide +kernel
theorem dX4_choose_78 : decode cX4_choose 78 = .ok (.invokevirtual 34, 3) := by decide +kernel
theorem dX4_choose_81 : decode cX4_choose 81 = .ok (.return_, 1) := by decide +kernel
theorem dX4_rowsOf_0 : decode cX4_rowsOf 0 = .ok (.aload_n 0, 1) := by decide +kernel
theorem dX4_rowsOf_1 : decode cX4_rowsOf 1 = .ok (.getfield 9, 3) := by decide +kernel
theorem dX4_rowsOf_4 : decode cX4_rowsOf 4 = .ok (.lconst 1, 1) := by decide +kernel
theorem dX4_rowsOf_5 : decode cX4_rowsOf 5 = .ok (.invokestatic 42, 3) := by decide +kernel
theorem dX4_rowsOf_8 : decode cX4_rowsOf 8 = .ok (.iconst 1, 1) := by decide +kernel
theorem dX4_rowsOf_9 : decode cX4_rowsOf 9 = .ok (.istore_n 2, 1) := by decide +kernel
theorem dX4_rowsOf_10 : decode cX4_rowsOf 10 = .ok (.iload_n 2, 1) := by decide +kernel
theorem dX4_rowsOf_11 : decode cX4_rowsOf 11 = .ok (.iload_n 1, 1) := by decide +kernel
theorem dX4_rowsOf_12 : decode cX4_rowsOf 12 = .ok (.if_icmp .ge 54, 3) := by decide +kernel
theorem dX4_rowsOf_15 : decode cX4_rowsOf 15 = .ok (.iconst 0, 1) := by decide +kernel
theorem dX4_rowsOf_16 : decode cX4_rowsOf 16 = .ok (.istore_n 3, 1) := by decide +kernel
theorem dX4_rowsOf_17 : decode cX4_rowsOf 17 = .ok (.iload_n 3, 1) := by decide +kernel
theorem dX4_rowsOf_18 : decode cX4_rowsOf 18 = .ok (.aload_n 0, 1) := by decide +kernel
theorem dX4_rowsOf_19 : decode cX4_rowsOf 19 = .ok (.getfield 18, 3) := by decide +kernel
theorem dX4_rowsOf_22 : decode cX4_rowsOf 22 = .ok (.getfield 29, 3) := by decide +kernel
theorem dX4_rowsOf_25 : decode cX4_rowsOf 25 = .ok (.if_icmp .ge 20, 3) := by decide +kernel
theorem dX4_rowsOf_28 : decode cX4_rowsOf 28 = .ok (.aload_n 0, 1) := by decide +kernel
theorem dX4_rowsOf_29 : decode cX4_rowsOf 29 = .ok (.getfield 15, 3) := by decide +kernel
theorem dX4_rowsOf_32 : decode cX4_rowsOf 32 = .ok (.iload_n 3, 1) := by decide +kernel
theorem dX4_rowsOf_33 : decode cX4_rowsOf 33 = .ok (.aload_n 0, 1) := by decide +kernel
theorem dX4_rowsOf_34 : decode cX4_rowsOf 34 = .ok (.iload_n 3, 1) := by decide +kernel
theorem dX4_rowsOf_35 : decode cX4_rowsOf 35 = .ok (.invokevirtual 48, 3) := by decide +kernel
theorem dX4_rowsOf_38 : decode cX4_rowsOf 38 = .ok (.lastore, 1) := by decide +kernel
theorem dX4_rowsOf_39 : decode cX4_rowsOf 39 = .ok (.iinc 3 1, 3) := by decide +kernel
theorem dX4_rowsOf_42 : decode cX4_rowsOf 42 = .ok (.goto (-25), 3) := by decide +kernel
theorem dX4_rowsOf_45 : decode cX4_rowsOf 45 = .ok (.aload_n 0, 1) := by decide +kernel
theorem dX4_rowsOf_46 : decode cX4_rowsOf 46 = .ok (.getfield 15, 3) := by decide +kernel
theorem dX4_rowsOf_49 : decode cX4_rowsOf 49 = .ok (.iconst 0, 1) := by decide +kernel
theorem dX4_rowsOf_50 : decode cX4_rowsOf 50 = .ok (.aload_n 0, 1) := by decide +kernel
theorem dX4_rowsOf_51 : decode cX4_rowsOf 51 = .ok (.getfield 9, 3) := by decide +kernel
theorem dX4_rowsOf_54 : decode cX4_rowsOf 54 = .ok (.iconst 0, 1) := by decide +kernel
theorem dX4_rowsOf_55 : decode cX4_rowsOf 55 = .ok (.bipush 14, 2) := by decide +kernel
theorem dX4_rowsOf_57 : decode cX4_rowsOf 57 = .ok (.invokestatic 52, 3) := by decide +kernel
theorem dX4_rowsOf_60 : decode cX4_rowsOf 60 = .ok (.iinc 2 1, 3) := by decide +kernel
theorem dX4_rowsOf_63 : decode cX4_rowsOf 63 = .ok (.goto (-53), 3) := by decide +kernel
theorem dX4_rowsOf_66 : decode cX4_rowsOf 66 = .ok (.lconst 0, 1) := by decide +kernel
theorem dX4_rowsOf_67 : decode cX4_rowsOf 67 = .ok (.lstore_n 2, 1) := by decide +kernel
theorem dX4_rowsOf_68 : decode cX4_rowsOf 68 = .ok (.iconst 0, 1) := by decide +kernel
theorem dX4_rowsOf_69 : decode cX4_rowsOf 69 = .ok (.istore 4, 2) := by decide +kernel
theorem dX4_rowsOf_71 : decode cX4_rowsOf 71 = .ok (.iload 4, 2) := by decide +kernel
theorem dX4_rowsOf_73 : decode cX4_rowsOf 73 = .ok (.aload_n 0, 1) := by decide +kernel
theorem dX4_rowsOf_74 : decode cX4_rowsOf 74 = .ok (.getfield 18, 3) := by decide +kernel
theorem dX4_rowsOf_77 : decode cX4_rowsOf 77 = .ok (.getfield 29, 3) := by decide +kernel
theorem dX4_rowsOf_80 : decode cX4_rowsOf 80 = .ok (.if_icmp .ge 19, 3) := by decide +kernel
theorem dX4_rowsOf_83 : decode cX4_rowsOf 83 = .ok (.lload_n 2, 1) := by decide +kernel
theorem dX4_rowsOf_84 : decode cX4_rowsOf 84 = .ok (.aload_n 0, 1) := by decide +kernel
theorem dX4_rowsOf_85 : decode cX4_rowsOf 85 = .ok (.getfield 9, 3) := by decide +kernel
theorem dX4_rowsOf_88 : decode cX4_rowsOf 88 = .ok (.iload 4, 2) := by decide +kernel
theorem dX4_rowsOf_90 : decode cX4_rowsOf 90 = .ok (.laload, 1) := by decide +kernel
theorem dX4_rowsOf_91 : decode cX4_rowsOf 91 = .ok (.ladd, 1) := by decide +kernel
theorem dX4_rowsOf_92 : decode cX4_rowsOf 92 = .ok (.lstore_n 2, 1) := by decide +kernel
theorem dX4_rowsOf_93 : decode cX4_rowsOf 93 = .ok (.iinc 4 1, 3) := by decide +kernel
theorem dX4_rowsOf_96 : decode cX4_rowsOf 96 = .ok (.goto (-25), 3) := by decide +kernel
theorem dX4_rowsOf_99 : decode cX4_rowsOf 99 = .ok (.lload_n 2, 1) := by decide +kernel
theorem dX4_rowsOf_100 : decode cX4_rowsOf 100 = .ok (.lreturn, 1) := by decide +kernel
theorem dX4_sumApart_0 : decode cX4_sumApart 0 = .ok (.lconst 0, 1) := by decide +kernel
theorem dX4_sumApart_1 : decode cX4_sumApart 1 = .ok (.lstore_n 2, 1) := by decide +kernel
theorem dX4_sumApart_2 : decode cX4_sumApart 2 = .ok (.iconst 0, 1) := by decide +kernel
theorem dX4_sumApart_3 : decode cX4_sumApart 3 = .ok (.istore 4, 2) := by decide +kernel
theorem dX4_sumApart_5 : decode cX4_sumApart 5 = .ok (.iload 4, 2) := by decide +kernel
theorem dX4_sumApart_7 : decode cX4_sumApart 7 = .ok (.aload_n 0, 1) := by decide +kernel
theorem dX4_sumApart_8 : decode cX4_sumApart 8 = .ok (.getfield 18, 3) := by decide +kernel
theorem dX4_sumApart_11 : decode cX4_sumApart 11 = .ok (.getfield 29, 3) := by decide +kernel
theorem dX4_sumApart_14 : decode cX4_sumApart 14 = .ok (.if_icmp .ge 36, 3) := by decide +kernel
theorem dX4_sumApart_17 : decode cX4_sumApart 17 = .ok (.aload_n 0, 1) := by decide +kernel
theorem dX4_sumApart_18 : decode cX4_sumApart 18 = .ok (.getfield 18, 3) := by decide +kernel
theorem dX4_sumApart_21 : decode cX4_sumApart 21 = .ok (.getfield 58, 3) := by decide +kernel
theorem dX4_sumApart_24 : decode cX4_sumApart 24 = .ok (.iload_n 1, 1) := by decide +kernel
theorem dX4_sumApart_25 : decode cX4_sumApart 25 = .ok (.iaload, 1) := by decide +kernel
theorem dX4_sumApart_26 : decode cX4_sumApart 26 = .ok (.iload 4, 2) := by decide +kernel
theorem dX4_sumApart_28 : decode cX4_sumApart 28 = .ok (.ishr, 1) := by decide +kernel
theorem dX4_sumApart_29 : decode cX4_sumApart 29 = .ok (.iconst 1, 1) := by decide +kernel
theorem dX4_sumApart_30 : decode cX4_sumApart 30 = .ok (.iand, 1) := by decide +kernel
theorem dX4_sumApart_31 : decode cX4_sumApart 31 = .ok (.ifCond .eq 13, 3) := by decide +kernel
theorem dX4_sumApart_34 : decode cX4_sumApart 34 = .ok (.lload_n 2, 1) := by decide +kernel
theorem dX4_sumApart_35 : decode cX4_sumApart 35 = .ok (.aload_n 0, 1) := by decide +kernel
theorem dX4_sumApart_36 : decode cX4_sumApart 36 = .ok (.getfield 9, 3) := by decide +kernel
theorem dX4_sumApart_39 : decode cX4_sumApart 39 = .ok (.iload 4, 2) := by decide +kernel
theorem dX4_sumApart_41 : decode cX4_sumApart 41 = .ok (.laload, 1) := by decide +kernel
theorem dX4_sumApart_42 : decode cX4_sumApart 42 = .ok (.ladd, 1) := by decide +kernel
theorem dX4_sumApart_43 : decode cX4_sumApart 43 = .ok (.lstore_n 2, 1) := by decide +kernel
theorem dX4_sumApart_44 : decode cX4_sumApart 44 = .ok (.iinc 4 1, 3) := by decide +kernel
theorem dX4_sumApart_47 : decode cX4_sumApart 47 = .ok (.goto (-42), 3) := by decide +kernel
theorem dX4_sumApart_50 : decode cX4_sumApart 50 = .ok (.lload_n 2, 1) := by decide +kernel
theorem dX4_sumApart_51 : decode cX4_sumApart 51 = .ok (.lreturn, 1) := by decide +kernel
theorem dX5_init_0 : decode cX5_init 0 = .ok (.aload_n 0, 1) := by decide +kernel
theorem dX5_init_1 : decode cX5_init 1 = .ok (.invokespecial 3, 3) := by decide +kernel
theorem dX5_init_4 : decode cX5_init 4 = .ok (.aload_n 0, 1) := by decide +kernel
theorem dX5_init_5 : decode cX5_init 5 = .ok (.bipush 10, 2) := by decide +kernel
theorem dX5_init_7 : decode cX5_init 7 = .ok (.newarray .int, 2) := by decide +kernel
theorem dX5_init_9 : decode cX5_init 9 = .ok (.putfield 9, 3) := by decide +kernel
theorem dX5_init_12 : decode cX5_init 12 = .ok (.aload_n 0, 1) := by decide +kernel
theorem dX5_init_13 : decode cX5_init 13 = .ok (.aload_n 1, 1) := by decide +kernel
theorem dX5_init_14 : decode cX5_init 14 = .ok (.putfield 15, 3) := by decide +kernel
theorem dX5_init_17 : decode cX5_init 17 = .ok (.aload_n 0, 1) := by decide +kernel
theorem dX5_init_18 : decode cX5_init 18 = .ok (.aload_n 2, 1) := by decide +kernel
theorem dX5_init_19 : decode cX5_init 19 = .ok (.putfield 19, 3) := by decide +kernel
theorem dX5_init_22 : decode cX5_init 22 = .ok (.return_, 1) := by decide +kernel
theorem dX5_leastSet_0 : decode cX5_leastSet 0 = .ok (.aload_n 0, 1) := by decide +kernel
theorem dX5_leastSet_1 : decode cX5_leastSet 1 = .ok (.getfield 15, 3) := by decide +kernel
theorem dX5_leastSet_4 : decode cX5_leastSet 4 = .ok (.getfield 23, 3) := by decide +kernel
theorem dX5_leastSet_7 : decode cX5_leastSet 7 = .ok (.iload_n 1, 1) := by decide +kernel
theorem dX5_leastSet_8 : decode cX5_leastSet 8 = .ok (.iaload, 1) := by decide +kernel
theorem dX5_leastSet_9 : decode cX5_leastSet 9 = .ok (.istore_n 3, 1) := by decide +kernel
theorem dX5_leastSet_10 : decode cX5_leastSet 10 = .ok (.aload_n 0, 1) := by decide +kernel
theorem dX5_leastSet_11 : decode cX5_leastSet 11 = .ok (.getfield 15, 3) := by decide +kernel
theorem dX5_leastSet_14 : decode cX5_leastSet 14 = .ok (.getfield 23, 3) := by decide +kernel
theorem dX5_leastSet_17 : decode cX5_leastSet 17 = .ok (.iload_n 1, 1) := by decide +kernel
theorem dX5_leastSet_18 : decode cX5_leastSet 18 = .ok (.iload_n 2, 1) := by decide +kernel
theorem dX5_leastSet_19 : decode cX5_leastSet 19 = .ok (.iastore, 1) := by decide +kernel
theorem dX5_leastSet_20 : decode cX5_leastSet 20 = .ok (.aload_n 0, 1) := by decide +kernel
theorem dX5_leastSet_21 : decode cX5_leastSet 21 = .ok (.invokevirtual 28, 3) := by decide +kernel
theorem dX5_leastSet_24 : decode cX5_leastSet 24 = .ok (.aload_n 0, 1) := by decide +kernel
theorem dX5_leastSet_25 : decode cX5_leastSet 25 = .ok (.getfield 15, 3) := by decide +kernel
theorem dX5_leastSet_28 : decode cX5_leastSet 28 = .ok (.getfield 23, 3) := by decide +kernel
theorem dX5_leastSet_31 : decode cX5_leastSet 31 = .ok (.iload_n 1, 1) := by decide +kernel
theorem dX5_leastSet_32 : decode cX5_leastSet 32 = .ok (.iload_n 3, 1) := by decide +kernel
theorem dX5_leastSet_33 : decode cX5_leastSet 33 = .ok (.iastore, 1) := by decide +kernel
theorem dX5_leastSet_34 : decode cX5_leastSet 34 = .ok (.aload_n 0, 1) := by decide +kernel
theorem dX5_leastSet_35 : decode cX5_leastSet 35 = .ok (.getfield 15, 3) := by decide +kernel
theorem dX5_leastSet_38 : decode cX5_leastSet 38 = .ok (.invokevirtual 31, 3) := by decide +kernel
theorem dX5_leastSet_41 : decode cX5_leastSet 41 = .ok (.iconst (-1), 1) := by decide +kernel
theorem dX5_leastSet_42 : decode cX5_leastSet 42 = .ok (.ixor, 1) := by decide +kernel
theorem dX5_leastSet_43 : decode cX5_leastSet 43 = .ok (.iconst 1, 1) := by decide +kernel
theorem dX5_leastSet_44 : decode cX5_leastSet 44 = .ok (.iload_n 1, 1) := by decide +kernel
theorem dX5_leastSet_45 : decode cX5_leastSet 45 = .ok (.ishl, 1) := by decide +kernel
theorem dX5_leastSet_46 : decode cX5_leastSet 46 = .ok (.iconst (-1), 1) := by decide +kernel
theorem dX5_leastSet_47 : decode cX5_leastSet 47 = .ok (.ixor, 1) := by decide +kernel
theorem dX5_leastSet_48 : decode cX5_leastSet 48 = .ok (.iand, 1) := by decide +kernel
theorem dX5_leastSet_49 : decode cX5_leastSet 49 = .ok (.iconst 1, 1) := by decide +kernel
theorem dX5_leastSet_50 : decode cX5_leastSet 50 = .ok (.aload_n 0, 1) := by decide +kernel
theorem dX5_leastSet_51 : decode cX5_leastSet 51 = .ok (.getfield 15, 3) := by decide +kernel
theorem dX5_leastSet_54 : decode cX5_leastSet 54 = .ok (.getfield 35, 3) := by decide +kernel
theorem dX5_leastSet_57 : decode cX5_leastSet 57 = .ok (.ishl, 1) := by decide +kernel
theorem dX5_leastSet_58 : decode cX5_leastSet 58 = .ok (.iconst 1, 1) := by decide +kernel
theorem dX5_leastSet_59 : decode cX5_leastSet 59 = .ok (.isub, 1) := by decide +kernel
theorem dX5_leastSet_60 : decode cX5_leastSet 60 = .ok (.iand, 1) := by decide +kernel
theorem dX5_leastSet_61 : decode cX5_leastSet 61 = .ok (.istore 4, 2) := by decide +kernel
theorem dX5_leastSet_63 : decode cX5_leastSet 63 = .ok (.iconst 0, 1) := by decide +kernel
theorem dX5_leastSet_64 : decode cX5_leastSet 64 = .ok (.istore 5, 2) := by decide +kernel
theorem dX5_leastSet_66 : decode cX5_leastSet 66 = .ok (.iload 5, 2) := by decide +kernel
theorem dX5_leastSet_68 : decode cX5_leastSet 68 = .ok (.iconst 3, 1) := by decide +kernel
theorem dX5_leastSet_69 : decode cX5_leastSet 69 = .ok (.if_icmp .gt 59, 3) := by decide +kernel
theorem dX5_leastSet_72 : decode cX5_leastSet 72 = .ok (.iconst 0, 1) := by decide +kernel
theorem dX5_leastSet_73 : decode cX5_leastSet 73 = .ok (.istore 6, 2) := by decide +kernel
theorem dX5_leastSet_75 : decode cX5_leastSet 75 = .ok (.iload 6, 2) := by decide +kernel
theorem dX5_leastSet_77 : decode cX5_leastSet 77 = .ok (.iload 4, 2) := by decide +kernel
theorem dX5_leastSet_79 : decode cX5_leastSet 79 = .ok (.if_icmp .gt 43, 3) := by decide +kernel
theorem dX5_leastSet_82 : decode cX5_leastSet 82 = .ok (.iload 6, 2) := by decide +kernel
theorem dX5_leastSet_84 : decode cX5_leastSet 84 = .ok (.iload 4, 2) := by decide +kernel
theorem dX5_leastSet_86 : decode cX5_leastSet 86 = .ok (.iconst (-1), 1) := by decide +kernel
theorem dX5_leastSet_87 : decode cX5_leastSet 87 = .ok (.ixor, 1) := by decide +kernel
theorem dX5_leastSet_88 : decode cX5_leastSet 88 = .ok (.iand, 1) := by decide +kernel
theorem dX5_leastSet_89 : decode cX5_leastSet 89 = .ok (.ifCond .ne 27, 3) := by decide +kernel
theorem dX5_leastSet_92 : decode cX5_leastSet 92 = .ok (.iload 6, 2) := by decide +kernel
theorem dX5_leastSet_94 : decode cX5_leastSet 94 = .ok (.invokestatic 39, 3) := by decide +kernel
theorem dX5_leastSet_97 : decode cX5_leastSet 97 = .ok (.iload 5, 2) := by decide +kernel
theorem dX5_leastSet_99 : decode cX5_leastSet 99 = .ok (.if_icmp .ne 17, 3) := by decide +kernel
theorem dX5_leastSet_102 : decode cX5_leastSet 102 = .ok (.aload_n 0, 1) := by decide +kernel
theorem dX5_leastSet_103 : decode cX5_leastSet 103 = .ok (.iload 6, 2) := by decide +kernel
theorem dX5_leastSet_105 : decode cX5_leastSet 105 = .ok (.iload_n 1, 1) := by decide +kernel
theorem dX5_leastSet_106 : decode cX5_leastSet 106 = .ok (.iload_n 2, 1) := by decide +kernel
theorem dX5_leastSet_107 : decode cX5_leastSet 107 = .ok (.invokevirtual 45, 3) := by decide +kernel
theorem dX5_leastSet_110 : decode cX5_leastSet 110 = .ok (.ifCond .eq 6, 3) := by decide +kernel
theorem dX5_leastSet_113 : decode cX5_leastSet 113 = .ok (.iload 6, 2) := by decide +kernel
theorem dX5_leastSet_115 : decode cX5_leastSet 115 = .ok (.ireturn, 1) := by decide +kernel
theorem dX5_leastSet_116 : decode cX5_leastSet 116 = .ok (.iinc 6 1, 3) := by decide +kernel
theorem dX5_leastSet_119 : decode cX5_leastSet 119 = .ok (.goto (-44), 3) := by decide +kernel
theorem dX5_leastSet_122 : decode cX5_leastSet 122 = .ok (.iinc 5 1, 3) := by decide +kernel
theorem dX5_leastSet_125 : decode cX5_leastSet 125 = .ok (.goto (-59), 3) := by decide +kernel
theorem dX5_leastSet_128 : decode cX5_leastSet 128 = .ok (.iconst (-1), 1) := by decide +kernel
theorem dX5_leastSet_129 : decode cX5_leastSet 129 = .ok (.ireturn, 1) := by decide +kernel
theorem dX5_lookForTrouble_0 : decode cX5_lookForTrouble 0 = .ok (.aload_n 0, 1) := by decide +kernel
theorem dX5_lookForTrouble_1 : decode cX5_lookForTrouble 1 = .ok (.aload_n 0, 1) := by decide +kernel
theorem dX5_lookForTrouble_2 : decode cX5_lookForTrouble 2 = .ok (.getfield 15, 3) := by decide +kernel
theorem dX5_lookForTrouble_5 : decode cX5_lookForTrouble 5 = .ok (.aload_n 0, 1) := by decide +kernel
theorem dX5_lookForTrouble_6 : decode cX5_lookForTrouble 6 = .ok (.getfield 15, 3) := by decide +kernel
theorem dX5_lookForTrouble_9 : decode cX5_lookForTrouble 9 = .ok (.getfield 49, 3) := by decide +kernel
theorem dX5_lookForTrouble_12 : decode cX5_lookForTrouble 12 = .ok (.invokevirtual 52, 3) := by decide +kernel
theorem dX5_lookForTrouble_15 : decode cX5_lookForTrouble 15 = .ok (.putfield 55, 3) := by decide +kernel
theorem dX5_lookForTrouble_18 : decode cX5_lookForTrouble 18 = .ok (.iconst 0, 1) := by decide +kernel
theorem dX5_lookForTrouble_19 : decode cX5_lookForTrouble 19 = .ok (.istore_n 1, 1) := by decide +kernel
theorem dX5_lookForTrouble_20 : decode cX5_lookForTrouble 20 = .ok (.iload_n 1, 1) := by decide +kernel
theorem dX5_lookForTrouble_21 : decode cX5_lookForTrouble 21 = .ok (.aload_n 0, 1) := by decide +kernel
theorem dX5_lookForTrouble_22 : decode cX5_lookForTrouble 22 = .ok (.getfield 15, 3) := by decide +kernel
theorem dX5_lookForTrouble_25 : decode cX5_lookForTrouble 25 = .ok (.getfield 35, 3) := by decide +kernel
theorem dX5_lookForTrouble_28 : decode cX5_lookForTrouble 28 = .ok (.if_icmp .ge 23, 3) := by decide +kernel
theorem dX5_lookForTrouble_31 : decode cX5_lookForTrouble 31 = .ok (.aload_n 0, 1) := by decide +kernel
theorem dX5_lookForTrouble_32 : decode cX5_lookForTrouble 32 = .ok (.getfield 9, 3) := by decide +kernel
theorem dX5_lookForTrouble_35 : decode cX5_lookForTrouble 35 = .ok (.iload_n 1, 1) := by decide +kernel
theorem dX5_lookForTrouble_36 : decode cX5_lookForTrouble 36 = .ok (.aload_n 0, 1) := by decide +kernel
theorem dX5_lookForTrouble_37 : decode cX5_lookForTrouble 37 = .ok (.getfield 15, 3) := by decide +kernel
theorem dX5_lookForTrouble_40 : decode cX5_lookForTrouble 40 = .ok (.iload_n 1, 1) := by decide +kernel
theorem dX5_lookForTrouble_41 : decode cX5_lookForTrouble 41 = .ok (.invokevirtual 58, 3) := by decide +kernel
theorem dX5_lookForTrouble_44 : decode cX5_lookForTrouble 44 = .ok (.iastore, 1) := by decide +kernel
theorem dX5_lookForTrouble_45 : decode cX5_lookForTrouble 45 = .ok (.iinc 1 1, 3) := by decide +kernel
theorem dX5_lookForTrouble_48 : decode cX5_lookForTrouble 48 = .ok (.goto (-28), 3) := by decide +kernel
theorem dX5_lookForTrouble_51 : decode cX5_lookForTrouble 51 = .ok (.return_, 1) := by decide +kernel
theorem dX5_isEnough_0 : decode cX5_isEnough 0 = .ok (.aload_n 0, 1) := by decide +kernel
theorem dX5_isEnough_1 : decode cX5_isEnough 1 = .ok (.iload_n 1, 1) := by decide +kernel
theorem dX5_isEnough_2 : decode cX5_isEnough 2 = .ok (.invokevirtual 61, 3) := by decide +kernel
theorem dX5_isEnough_5 : decode cX5_isEnough 5 = .ok (.ifCond .eq 31, 3) := by decide +kernel
theorem dX5_isEnough_8 : decode cX5_isEnough 8 = .ok (.aload_n 0, 1) := by decide +kernel
theorem dX5_isEnough_9 : decode cX5_isEnough 9 = .ok (.getfield 19, 3) := by decide +kernel
theorem dX5_isEnough_12 : decode cX5_isEnough 12 = .ok (.iload_n 2, 1) := by decide +kernel
theorem dX5_isEnough_13 : decode cX5_isEnough 13 = .ok (.iload_n 3, 1) := by decide +kernel
theorem dX5_isEnough_14 : decode cX5_isEnough 14 = .ok (.iload_n 1, 1) := by decide +kernel
theorem dX5_isEnough_15 : decode cX5_isEnough 15 = .ok (.invokevirtual 65, 3) := by decide +kernel
theorem dX5_isEnough_18 : decode cX5_isEnough 18 = .ok (.ifCond .eq 18, 3) := by decide +kernel
theorem dX5_isEnough_21 : decode cX5_isEnough 21 = .ok (.aload_n 0, 1) := by decide +kernel
theorem dX5_isEnough_22 : decode cX5_isEnough 22 = .ok (.getfield 19, 3) := by decide +kernel
theorem dX5_isEnough_25 : decode cX5_isEnough 25 = .ok (.iconst 0, 1) := by decide +kernel
theorem dX5_isEnough_26 : decode cX5_isEnough 26 = .ok (.invokevirtual 70, 3) := by decide +kernel
theorem dX5_isEnough_29 : decode cX5_isEnough 29 = .ok (.ifCond .eq 7, 3) := by decide +kernel
theorem dX5_isEnough_32 : decode cX5_isEnough 32 = .ok (.iconst 1, 1) := by decide +kernel
theorem dX5_isEnough_33 : decode cX5_isEnough 33 = .ok (.goto 4, 3) := by decide +kernel
theorem dX5_isEnough_36 : decode cX5_isEnough 36 = .ok (.iconst 0, 1) := by decide +kernel
theorem dX5_isEnough_37 : decode cX5_isEnough 37 = .ok (.ireturn, 1) := by decide +kernel
theorem dX5_othersStandWell_0 : decode cX5_othersStandWell 0 = .ok (.aload_n 0, 1) := by decide +kernel
theorem dX5_othersStandWell_1 : decode cX5_othersStandWell 1 = .ok (.getfield 55, 3) := by decide +kernel
theorem dX5_othersStandWell_4 : decode cX5_othersStandWell 4 = .ok (.iload_n 1, 1) := by decide +kernel
theorem dX5_othersStandWell_5 : decode cX5_othersStandWell 5 = .ok (.iconst (-1), 1) := by decide +kernel
theorem dX5_othersStandWell_6 : decode cX5_othersStandWell 6 = .ok (.ixor, 1) := by decide +kernel
theorem dX5_othersStandWell_7 : decode cX5_othersStandWell 7 = .ok (.iand, 1) := by decide +kernel
theorem dX5_othersStandWell_8 : decode cX5_othersStandWell 8 = .ok (.ifCond .eq 5, 3) := by decide +kernel
theorem dX5_othersStandWell_11 : decode cX5_othersStandWell 11 = .ok (.iconst 0, 1) := by decide +kernel
theorem dX5_othersStandWell_12 : decode cX5_othersStandWell 12 = .ok (.ireturn, 1) := by decide +kernel
theorem dX5_othersStandWell_13 : decode cX5_othersStandWell 13 = .ok (.iconst 0, 1) := by decide +kernel
theorem dX5_othersStandWell_14 : decode cX5_othersStandWell 14 = .ok (.istore_n 2, 1) := by decide +kernel
theorem dX5_othersStandWell_15 : decode cX5_othersStandWell 15 = .ok (.iload_n 2, 1) := by decide +kernel
theorem dX5_othersStandWell_16 : decode cX5_othersStandWell 16 = .ok (.aload_n 0, 1) := by decide +kernel
theorem dX5_othersStandWell_17 : decode cX5_othersStandWell 17 = .ok (.getfield 15, 3) := by decide +kernel
theorem dX5_othersStandWell_20 : decode cX5_othersStandWell 20 = .ok (.getfield 35, 3) := by decide +kernel
theorem dX5_othersStandWell_23 : decode cX5_othersStandWell 23 = .ok (.if_icmp .ge 32, 3) := by decide +kernel
theorem dX5_othersStandWell_26 : decode cX5_othersStandWell 26 = .ok (.iload_n 1, 1) := by decide +kernel
theorem dX5_othersStandWell_27 : decode cX5_othersStandWell 27 = .ok (.iload_n 2, 1) := by decide +kernel
theorem dX5_othersStandWell_28 : decode cX5_othersStandWell 28 = .ok (.ishr, 1) := by decide +kernel
theorem dX5_othersStandWell_29 : decode cX5_othersStandWell 29 = .ok (.iconst 1, 1) := by decide +kernel
theorem dX5_othersStandWell_30 : decode cX5_othersStandWell 30 = .ok (.iand, 1) := by decide +kernel
theorem dX5_othersStandWell_31 : decode cX5_othersStandWell 31 = .ok (.ifCond .ne 18, 3) := by decide +kernel
theorem dX5_othersStandWell_34 : decode cX5_othersStandWell 34 = .ok (.aload_n 0, 1) := by decide +kernel
theorem dX5_othersStandWell_35 : decode cX5_othersStandWell 35 = .ok (.getfield 9, 3) := by decide +kernel
theorem dX5_othersStandWell_38 : decode cX5_othersStandWell 38 = .ok (.iload_n 2, 1) := by decide +kernel
theorem dX5_othersStandWell_39 : decode cX5_othersStandWell 39 = .ok (.iaload, 1) := by decide +kernel
theorem dX5_othersStandWell_40 : decode cX5_othersStandWell 40 = .ok (.iload_n 1, 1) := by decide +kernel
theorem dX5_othersStandWell_41 : decode cX5_othersStandWell 41 = .ok (.iconst (-1), 1) := by decide +kernel
theorem dX5_othersStandWell_42 : decode cX5_othersStandWell 42 = .ok (.ixor, 1) := by decide +kernel
theorem dX5_othersStandWell_43 : decode cX5_othersStandWell 43 = .ok (.iand, 1) := by decide +kernel
theorem dX5_othersStandWell_44 : decode cX5_othersStandWell 44 = .ok (.ifCond .eq 5, 3) := by decide +kernel
theorem dX5_othersStandWell_47 : decode cX5_othersStandWell 47 = .ok (.iconst 0, 1) := by decide +kernel
theorem dX5_othersStandWell_48 : decode cX5_othersStandWell 48 = .ok (.ireturn, 1) := by decide +kernel
theorem dX5_othersStandWell_49 : decode cX5_othersStandWell 49 = .ok (.iinc 2 1, 3) := by decide +kernel
theorem dX5_othersStandWell_52 : decode cX5_othersStandWell 52 = .ok (.goto (-37), 3) := by decide +kernel
theorem dX5_othersStandWell_55 : decode cX5_othersStandWell 55 = .ok (.iconst 1, 1) := by decide +kernel
theorem dX5_othersStandWell_56 : decode cX5_othersStandWell 56 = .ok (.ireturn, 1) := by decide +kernel
theorem dX6_init_0 : decode cX6_init 0 = .ok (.aload_n 0, 1) := by decide +kernel
theorem dX6_init_1 : decode cX6_init 1 = .ok (.invokespecial 3, 3) := by decide +kernel
theorem dX6_init_4 : decode cX6_init 4 = .ok (.aload_n 0, 1) := by decide +kernel
theorem dX6_init_5 : decode cX6_init 5 = .ok (.bipush 50, 2) := by decide +kernel
theorem dX6_init_7 : decode cX6_init 7 = .ok (.newarray .int, 2) := by decide +kernel
theorem dX6_init_9 : decode cX6_init 9 = .ok (.putfield 9, 3) := by decide +kernel
theorem dX6_init_12 : decode cX6_init 12 = .ok (.aload_n 0, 1) := by decide +kernel
theorem dX6_init_13 : decode cX6_init 13 = .ok (.bipush 50, 2) := by decide +kernel
theorem dX6_init_15 : decode cX6_init 15 = .ok (.newarray .int, 2) := by decide +kernel
theorem dX6_init_17 : decode cX6_init 17 = .ok (.putfield 15, 3) := by decide +kernel
theorem dX6_init_20 : decode cX6_init 20 = .ok (.return_, 1) := by decide +kernel
theorem dX6_isEmpty_0 : decode cX6_isEmpty 0 = .ok (.aload_n 0, 1) := by decide +kernel
theorem dX6_isEmpty_1 : decode cX6_isEmpty 1 = .ok (.getfield 18, 3) := by decide +kernel
theorem dX6_isEmpty_4 : decode cX6_isEmpty 4 = .ok (.ifCond .ne 7, 3) := by decide +kernel
theorem dX6_isEmpty_7 : decode cX6_isEmpty 7 = .ok (.iconst 1, 1) := by decide +kernel
theorem dX6_isEmpty_8 : decode cX6_isEmpty 8 = .ok (.goto 4, 3) := by decide +kernel
theorem dX6_isEmpty_11 : decode cX6_isEmpty 11 = .ok (.iconst 0, 1) := by decide +kernel
theorem dX6_isEmpty_12 : decode cX6_isEmpty 12 = .ok (.ireturn, 1) := by decide +kernel
theorem dX6_copyFrom_0 : decode cX6_copyFrom 0 = .ok (.aload_n 1, 1) := by decide +kernel
theorem dX6_copyFrom_1 : decode cX6_copyFrom 1 = .ok (.getfield 9, 3) := by decide +kernel
theorem dX6_copyFrom_4 : decode cX6_copyFrom 4 = .ok (.iconst 0, 1) := by decide +kernel
theorem dX6_copyFrom_5 : decode cX6_copyFrom 5 = .ok (.aload_n 0, 1) := by decide +kernel
theorem dX6_copyFrom_6 : decode cX6_copyFrom 6 = .ok (.getfield 9, 3) := by decide +kernel
theorem dX6_copyFrom_9 : decode cX6_copyFrom 9 = .ok (.iconst 0, 1) := by decide +kernel
theorem dX6_copyFrom_10 : decode cX6_copyFrom 10 = .ok (.bipush 50, 2) := by decide +kernel
theorem dX6_copyFrom_12 : decode cX6_copyFrom 12 = .ok (.invokestatic 22, 3) := by decide +kernel
theorem dX6_copyFrom_15 : decode cX6_copyFrom 15 = .ok (.aload_n 0, 1) := by decide +kernel
theorem dX6_copyFrom_16 : decode cX6_copyFrom 16 = .ok (.aload_n 1, 1) := by decide +kernel
theorem dX6_copyFrom_17 : decode cX6_copyFrom 17 = .ok (.getfield 18, 3) := by decide +kernel
theorem dX6_copyFrom_20 : decode cX6_copyFrom 20 = .ok (.putfield 18, 3) := by decide +kernel
theorem dX6_copyFrom_23 : decode cX6_copyFrom 23 = .ok (.return_, 1) := by decide +kernel
theorem dX6_add_0 : decode cX6_add 0 = .ok (.aload_n 0, 1) := by decide +kernel
theorem dX6_add_1 : decode cX6_add 1 = .ok (.getfield 18, 3) := by decide +kernel
theorem dX6_add_4 : decode cX6_add 4 = .ok (.bipush 50, 2) := by decide +kernel
theorem dX6_add_6 : decode cX6_add 6 = .ok (.if_icmp .ge 23, 3) := by decide +kernel
theorem dX6_add_9 : decode cX6_add 9 = .ok (.aload_n 0, 1) := by decide +kernel
theorem dX6_add_10 : decode cX6_add 10 = .ok (.getfield 9, 3) := by decide +kernel
theorem dX6_add_13 : decode cX6_add 13 = .ok (.aload_n 0, 1) := by decide +kernel
theorem dX6_add_14 : decode cX6_add 14 = .ok (.getfield 18, 3) := by decide +kernel
theorem dX6_add_17 : decode cX6_add 17 = .ok (.iload_n 1, 1) := by decide +kernel
theorem dX6_add_18 : decode cX6_add 18 = .ok (.iastore, 1) := by decide +kernel
theorem dX6_add_19 : decode cX6_add 19 = .ok (.aload_n 0, 1) := by decide +kernel
theorem dX6_add_20 : decode cX6_add 20 = .ok (.dup, 1) := by decide +kernel
theorem dX6_add_21 : decode cX6_add 21 = .ok (.getfield 18, 3) := by decide +kernel
theorem dX6_add_24 : decode cX6_add 24 = .ok (.iconst 1, 1) := by decide +kernel
theorem dX6_add_25 : decode cX6_add 25 = .ok (.iadd, 1) := by decide +kernel
theorem dX6_add_26 : decode cX6_add 26 = .ok (.putfield 18, 3) := by decide +kernel
theorem dX6_add_29 : decode cX6_add 29 = .ok (.return_, 1) := by decide +kernel
theorem dX6_workOut_0 : decode cX6_workOut 0 = .ok (.iconst 0, 1) := by decide +kernel
theorem dX6_workOut_1 : decode cX6_workOut 1 = .ok (.istore 4, 2) := by decide +kernel
theorem dX6_workOut_3 : decode cX6_workOut 3 = .ok (.iconst 0, 1) := by decide +kernel
theorem dX6_workOut_4 : decode cX6_workOut 4 = .ok (.istore 5, 2) := by decide +kernel
theorem dX6_workOut_6 : decode cX6_workOut 6 = .ok (.iload 5, 2) := by decide +kernel
theorem dX6_workOut_8 : decode cX6_workOut 8 = .ok (.aload_n 0, 1) := by decide +kernel
theorem dX6_workOut_9 : decode cX6_workOut 9 = .ok (.getfield 18, 3) := by decide +kernel
theorem dX6_workOut_12 : decode cX6_workOut 12 = .ok (.if_icmp .ge 135, 3) := by decide +kernel
theorem dX6_workOut_15 : decode cX6_workOut 15 = .ok (.aload_n 0, 1) := by decide +kernel
theorem dX6_workOut_16 : decode cX6_workOut 16 = .ok (.getfield 9, 3) := by decide +kernel
theorem dX6_workOut_19 : decode cX6_workOut 19 = .ok (.iload 5, 2) := by decide +kernel
theorem dX6_workOut_21 : decode cX6_workOut 21 = .ok (.iaload, 1) := by decide +kernel
theorem dX6_workOut_22 : decode cX6_workOut 22 = .ok (.istore 6, 2) := by decide +kernel
theorem dX6_workOut_24 : decode cX6_workOut 24 = .ok (.iload 6, 2) := by decide +kernel
theorem dX6_workOut_26 : decode cX6_workOut 26 = .ok (.bipush (-3), 2) := by decide +kernel
theorem dX6_workOut_28 : decode cX6_workOut 28 = .ok (.if_icmp .lt 31, 3) := by decide +kernel
theorem dX6_workOut_31 : decode cX6_workOut 31 = .ok (.iload 4, 2) := by decide +kernel
theorem dX6_workOut_33 : decode cX6_workOut 33 = .ok (.bipush 50, 2) := by decide +kernel
theorem dX6_workOut_35 : decode cX6_workOut 35 = .ok (.if_icmp .ge 24, 3) := by decide +kernel
theorem dX6_workOut_38 : decode cX6_workOut 38 = .ok (.aload_n 0, 1) := by decide +kernel
theorem dX6_workOut_39 : decode cX6_workOut 39 = .ok (.getfield 15, 3) := by decide +kernel
theorem dX6_workOut_42 : decode cX6_workOut 42 = .ok (.iload 4, 2) := by decide +kernel
theorem dX6_workOut_44 : decode cX6_workOut 44 = .ok (.iload 6, 2) := by decide +kernel
theorem dX6_workOut_46 : decode cX6_workOut 46 = .ok (.iload_n 1, 1) := by decide +kernel
theorem dX6_workOut_47 : decode cX6_workOut 47 = .ok (.iload_n 2, 1) := by decide +kernel
theorem dX6_workOut_48 : decode cX6_workOut 48 = .ok (.iload_n 3, 1) := by decide +kernel
theorem dX6_workOut_49 : decode cX6_workOut 49 = .ok (.invokestatic 28, 3) := by decide +kernel
theorem dX6_workOut_52 : decode cX6_workOut 52 = .ok (.iastore, 1) := by decide +kernel
theorem dX6_workOut_53 : decode cX6_workOut 53 = .ok (.iinc 4 1, 3) := by decide +kernel
theorem dX6_workOut_56 : decode cX6_workOut 56 = .ok (.goto 85, 3) := by decide +kernel
theorem dX6_workOut_59 : decode cX6_workOut 59 = .ok (.iload 6, 2) := by decide +kernel
theorem dX6_workOut_61 : decode cX6_workOut 61 = .ok (.bipush (-33), 2) := by decide +kernel
theorem dX6_workOut_63 : decode cX6_workOut 63 = .ok (.if_icmp .ne 38, 3) := by decide +kernel
theorem dX6_workOut_66 : decode cX6_workOut 66 = .ok (.iload 4, 2) := by decide +kernel
theorem dX6_workOut_68 : decode cX6_workOut 68 = .ok (.iconst 1, 1) := by decide +kernel
theorem dX6_workOut_69 : decode cX6_workOut 69 = .ok (.if_icmp .lt 32, 3) := by decide +kernel
theorem dX6_workOut_72 : decode cX6_workOut 72 = .ok (.aload_n 0, 1) := by decide +kernel
theorem dX6_workOut_73 : decode cX6_workOut 73 = .ok (.getfield 15, 3) := by decide +kernel
theorem dX6_workOut_76 : decode cX6_workOut 76 = .ok (.iload 4, 2) := by decide +kernel
theorem dX6_workOut_78 : decode cX6_workOut 78 = .ok (.iconst 1, 1) := by decide +kernel
theorem dX6_workOut_79 : decode cX6_workOut 79 = .ok (.isub, 1) := by decide +kernel
theorem dX6_workOut_80 : decode cX6_workOut 80 = .ok (.aload_n 0, 1) := by decide +kernel
theorem dX6_workOut_81 : decode cX6_workOut 81 = .ok (.getfield 15, 3) := by decide +kernel
theorem dX6_workOut_84 : decode cX6_workOut 84 = .ok (.iload 4, 2) := by decide +kernel
theorem dX6_workOut_86 : decode cX6_workOut 86 = .ok (.iconst 1, 1) := by decide +kernel
theorem dX6_workOut_87 : decode cX6_workOut 87 = .ok (.isub, 1) := by decide +kernel
theorem dX6_workOut_88 : decode cX6_workOut 88 = .ok (.iaload, 1) := by decide +kernel
theorem dX6_workOut_89 : decode cX6_workOut 89 = .ok (.ifCond .ne 7, 3) := by decide +kernel
theorem dX6_workOut_92 : decode cX6_workOut 92 = .ok (.iconst 1, 1) := by decide +kernel
theorem dX6_workOut_93 : decode cX6_workOut 93 = .ok (.goto 4, 3) := by decide +kernel
theorem dX6_workOut_96 : decode cX6_workOut 96 = .ok (.iconst 0, 1) := by decide +kernel
theorem dX6_workOut_97 : decode cX6_workOut 97 = .ok (.iastore, 1) := by decide +kernel
theorem dX6_workOut_98 : decode cX6_workOut 98 = .ok (.goto 43, 3) := by decide +kernel
theorem dX6_workOut_101 : decode cX6_workOut 101 = .ok (.iload 4, 2) := by decide +kernel
theorem dX6_workOut_103 : decode cX6_workOut 103 = .ok (.iconst 2, 1) := by decide +kernel
theorem dX6_workOut_104 : decode cX6_workOut 104 = .ok (.if_icmp .lt 37, 3) := by decide +kernel
theorem dX6_workOut_107 : decode cX6_workOut 107 = .ok (.iinc 4 (-1), 3) := by decide +kernel
theorem dX6_workOut_110 : decode cX6_workOut 110 = .ok (.aload_n 0, 1) := by decide +kernel
theorem dX6_workOut_111 : decode cX6_workOut 111 = .ok (.getfield 15, 3) := by decide +kernel
theorem dX6_workOut_114 : decode cX6_workOut 114 = .ok (.iload 4, 2) := by decide +kernel
theorem dX6_workOut_116 : decode cX6_workOut 116 = .ok (.iconst 1, 1) := by decide +kernel
theorem dX6_workOut_117 : decode cX6_workOut 117 = .ok (.isub, 1) := by decide +kernel
theorem dX6_workOut_118 : decode cX6_workOut 118 = .ok (.iload 6, 2) := by decide +kernel
theorem dX6_workOut_120 : decode cX6_workOut 120 = .ok (.ineg, 1) := by decide +kernel
theorem dX6_workOut_121 : decode cX6_workOut 121 = .ok (.aload_n 0, 1) := by decide +kernel
theorem dX6_workOut_122 : decode cX6_workOut 122 = .ok (.getfield 15, 3) := by decide +kernel
theorem dX6_workOut_125 : decode cX6_workOut 125 = .ok (.iload 4, 2) := by decide +kernel
theorem dX6_workOut_127 : decode cX6_workOut 127 = .ok (.iconst 1, 1) := by decide +kernel
theorem dX6_workOut_128 : decode cX6_workOut 128 = .ok (.isub, 1) := by decide +kernel
theorem dX6_workOut_129 : decode cX6_workOut 129 = .ok (.iaload, 1) := by decide +kernel
theorem dX6_workOut_130 : decode cX6_workOut 130 = .ok (.aload_n 0, 1) := by decide +kernel
theorem dX6_workOut_131 : decode cX6_workOut 131 = .ok (.getfield 15, 3) := by decide +kernel
theorem dX6_workOut_134 : decode cX6_workOut 134 = .ok (.iload 4, 2) := by decide +kernel
theorem dX6_workOut_136 : decode cX6_workOut 136 = .ok (.iaload, 1) := by decide +kernel
theorem dX6_workOut_137 : decode cX6_workOut 137 = .ok (.invokestatic 32, 3) := by decide +kernel
theorem dX6_workOut_140 : decode cX6_workOut 140 = .ok (.iastore, 1) := by decide +kernel
theorem dX6_workOut_141 : decode cX6_workOut 141 = .ok (.iinc 5 1, 3) := by decide +kernel
theorem dX6_workOut_144 : decode cX6_workOut 144 = .ok (.goto (-138), 3) := by decide +kernel
theorem dX6_workOut_147 : decode cX6_workOut 147 = .ok (.aload_n 0, 1) := by decide +kernel
theorem dX6_workOut_148 : decode cX6_workOut 148 = .ok (.getfield 15, 3) := by decide +kernel
theorem dX6_workOut_151 : decode cX6_workOut 151 = .ok (.iconst 0, 1) := by decide +kernel
theorem dX6_workOut_152 : decode cX6_workOut 152 = .ok (.iaload, 1) := by decide +kernel
theorem dX6_workOut_153 : decode cX6_workOut 153 = .ok (.ireturn, 1) := by decide +kernel
theorem dX6_valueOf_0 : decode cX6_valueOf 0 = .ok (.iload_n 0, 1) := by decide +kernel
theorem dX6_valueOf_1 : decode cX6_valueOf 1 = .ok (.tableswitch 33 (-3) (-1) #[31, 29, 27], 27) := by decide +kernel
theorem dX6_valueOf_28 : decode cX6_valueOf 28 = .ok (.iload_n 1, 1) := by decide +kernel
theorem dX6_valueOf_29 : decode cX6_valueOf 29 = .ok (.ireturn, 1) := by decide +kernel
theorem dX6_valueOf_30 : decode cX6_valueOf 30 = .ok (.iload_n 2, 1) := by decide +kernel
theorem dX6_valueOf_31 : decode cX6_valueOf 31 = .ok (.ireturn, 1) := by decide +kernel
theorem dX6_valueOf_32 : decode cX6_valueOf 32 = .ok (.iload_n 3, 1) := by decide +kernel
theorem dX6_valueOf_33 : decode cX6_valueOf 33 = .ok (.ireturn, 1) := by decide +kernel
theorem dX6_valueOf_34 : decode cX6_valueOf 34 = .ok (.iload_n 0, 1) := by decide +kernel
theorem dX6_valueOf_35 : decode cX6_valueOf 35 = .ok (.ireturn, 1) := by decide +kernel
theorem dX6_join_0 : decode cX6_join 0 = .ok (.iload_n 0, 1) := by decide +kernel
theorem dX6_join_1 : decode cX6_join 1 = .ok (.lookupswitch 188 #[(37, 176), (38, 105), (42, 160), (43, 152), (45, 156), (47, 164), (60, 119), (61, 130), (62, 141), (124, 91)], 91) := by decide +kernel
theorem dX6_join_92 : decode cX6_join 92 = .ok (.iload_n 1, 1) := by decide +kernel
theorem dX6_join_93 : decode cX6_join 93 = .ok (.ifCond .ne 7, 3) := by decide +kernel
theorem dX6_join_96 : decode cX6_join 96 = .ok (.iload_n 2, 1) := by decide +kernel
theorem dX6_join_97 : decode cX6_join 97 = .ok (.ifCond .eq 7, 3) := by decide +kernel
theorem dX6_join_100 : decode cX6_join 100 = .ok (.iconst 1, 1) := by decide +kernel
theorem dX6_join_101 : decode cX6_join 101 = .ok (.goto 4, 3) := by decide +kernel
theorem dX6_join_104 : decode cX6_join 104 = .ok (.iconst 0, 1) := by decide +kernel
theorem dX6_join_105 : decode cX6_join 105 = .ok (.ireturn, 1) := by decide +kernel
theorem dX6_join_106 : decode cX6_join 106 = .ok (.iload_n 1, 1) := by decide +kernel
theorem dX6_join_107 : decode cX6_join 107 = .ok (.ifCond .eq 11, 3) := by decide +kernel
theorem dX6_join_110 : decode cX6_join 110 = .ok (.iload_n 2, 1) := by decide +kernel
theorem dX6_join_111 : decode cX6_join 111 = .ok (.ifCond .eq 7, 3) := by decide +kernel
theorem dX6_join_114 : decode cX6_join 114 = .ok (.iconst 1, 1) := by decide +kernel
theorem dX6_join_115 : decode cX6_join 115 = .ok (.goto 4, 3) := by decide +kernel
theorem dX6_join_118 : decode cX6_join 118 = .ok (.iconst 0, 1) := by decide +kernel
theorem dX6_join_119 : decode cX6_join 119 = .ok (.ireturn, 1) := by decide +kernel
theorem dX6_join_120 : decode cX6_join 120 = .ok (.iload_n 1, 1) := by decide +kernel
theorem dX6_join_121 : decode cX6_join 121 = .ok (.iload_n 2, 1) := by decide +kernel
theorem dX6_join_122 : decode cX6_join 122 = .ok (.if_icmp .ge 7, 3) := by decide +kernel
theorem dX6_join_125 : decode cX6_join 125 = .ok (.iconst 1, 1) := by decide +kernel
theorem dX6_join_126 : decode cX6_join 126 = .ok (.goto 4, 3) := by decide +kernel
theorem dX6_join_129 : decode cX6_join 129 = .ok (.iconst 0, 1) := by decide +kernel
theorem dX6_join_130 : decode cX6_join 130 = .ok (.ireturn, 1) := by decide +kernel
theorem dX6_join_131 : decode cX6_join 131 = .ok (.iload_n 1, 1) := by decide +kernel
theorem dX6_join_132 : decode cX6_join 132 = .ok (.iload_n 2, 1) := by decide +kernel
theorem dX6_join_133 : decode cX6_join 133 = .ok (.if_icmp .ne 7, 3) := by decide +kernel
theorem dX6_join_136 : decode cX6_join 136 = .ok (.iconst 1, 1) := by decide +kernel
theorem dX6_join_137 : decode cX6_join 137 = .ok (.goto 4, 3) := by decide +kernel
theorem dX6_join_140 : decode cX6_join 140 = .ok (.iconst 0, 1) := by decide +kernel
theorem dX6_join_141 : decode cX6_join 141 = .ok (.ireturn, 1) := by decide +kernel
theorem dX6_join_142 : decode cX6_join 142 = .ok (.iload_n 1, 1) := by decide +kernel
theorem dX6_join_143 : decode cX6_join 143 = .ok (.iload_n 2, 1) := by decide +kernel
theorem dX6_join_144 : decode cX6_join 144 = .ok (.if_icmp .le 7, 3) := by decide +kernel
theorem dX6_join_147 : decode cX6_join 147 = .ok (.iconst 1, 1) := by decide +kernel
theorem dX6_join_148 : decode cX6_join 148 = .ok (.goto 4, 3) := by decide +kernel
theorem dX6_join_151 : decode cX6_join 151 = .ok (.iconst 0, 1) := by decide +kernel
theorem dX6_join_152 : decode cX6_join 152 = .ok (.ireturn, 1) := by decide +kernel
theorem dX6_join_153 : decode cX6_join 153 = .ok (.iload_n 1, 1) := by decide +kernel
theorem dX6_join_154 : decode cX6_join 154 = .ok (.iload_n 2, 1) := by decide +kernel
theorem dX6_join_155 : decode cX6_join 155 = .ok (.iadd, 1) := by decide +kernel
theorem dX6_join_156 : decode cX6_join 156 = .ok (.ireturn, 1) := by decide +kernel
theorem dX6_join_157 : decode cX6_join 157 = .ok (.iload_n 1, 1) := by decide +kernel
theorem dX6_join_158 : decode cX6_join 158 = .ok (.iload_n 2, 1) := by decide +kernel
theorem dX6_join_159 : decode cX6_join 159 = .ok (.isub, 1) := by decide +kernel
theorem dX6_join_160 : decode cX6_join 160 = .ok (.ireturn, 1) := by decide +kernel
theorem dX6_join_161 : decode cX6_join 161 = .ok (.iload_n 1, 1) := by decide +kernel
theorem dX6_join_162 : decode cX6_join 162 = .ok (.iload_n 2, 1) := by decide +kernel
theorem dX6_join_163 : decode cX6_join 163 = .ok (.imul, 1) := by decide +kernel
theorem dX6_join_164 : decode cX6_join 164 = .ok (.ireturn, 1) := by decide +kernel
theorem dX6_join_165 : decode cX6_join 165 = .ok (.iload_n 2, 1) := by decide +kernel
theorem dX6_join_166 : decode cX6_join 166 = .ok (.ifCond .ne 7, 3) := by decide +kernel
theorem dX6_join_169 : decode cX6_join 169 = .ok (.iconst 0, 1) := by decide +kernel
theorem dX6_join_170 : decode cX6_join 170 = .ok (.goto 6, 3) := by decide +kernel
theorem dX6_join_173 : decode cX6_join 173 = .ok (.iload_n 1, 1) := by decide +kernel
theorem dX6_join_174 : decode cX6_join 174 = .ok (.iload_n 2, 1) := by decide +kernel
theorem dX6_join_175 : decode cX6_join 175 = .ok (.idiv, 1) := by decide +kernel
theorem dX6_join_176 : decode cX6_join 176 = .ok (.ireturn, 1) := by decide +kernel
theorem dX6_join_177 : decode cX6_join 177 = .ok (.iload_n 2, 1) := by decide +kernel
theorem dX6_join_178 : decode cX6_join 178 = .ok (.ifCond .ne 7, 3) := by decide +kernel
theorem dX6_join_181 : decode cX6_join 181 = .ok (.iconst 0, 1) := by decide +kernel
theorem dX6_join_182 : decode cX6_join 182 = .ok (.goto 6, 3) := by decide +kernel
theorem dX6_join_185 : decode cX6_join 185 = .ok (.iload_n 1, 1) := by decide +kernel
theorem dX6_join_186 : decode cX6_join 186 = .ok (.iload_n 2, 1) := by decide +kernel
theorem dX6_join_187 : decode cX6_join 187 = .ok (.irem, 1) := by decide +kernel
theorem dX6_join_188 : decode cX6_join 188 = .ok (.ireturn, 1) := by decide +kernel
theorem dX6_join_189 : decode cX6_join 189 = .ok (.iconst 0, 1) := by decide +kernel
theorem dX6_join_190 : decode cX6_join 190 = .ok (.ireturn, 1) := by decide +kernel
theorem dX7_init_0 : decode cX7_init 0 = .ok (.aload_n 0, 1) := by decide +kernel
theorem dX7_init_1 : decode cX7_init 1 = .ok (.invokespecial 3, 3) := by decide +kernel
theorem dX7_init_4 : decode cX7_init 4 = .ok (.aload_n 0, 1) := by decide +kernel
theorem dX7_init_5 : decode cX7_init 5 = .ok (.bipush 40, 2) := by decide +kernel
theorem dX7_init_7 : decode cX7_init 7 = .ok (.newarray .int, 2) := by decide +kernel
theorem dX7_init_9 : decode cX7_init 9 = .ok (.putfield 11, 3) := by decide +kernel
theorem dX7_init_12 : decode cX7_init 12 = .ok (.return_, 1) := by decide +kernel
theorem dX7_raise_0 : decode cX7_raise 0 = .ok (.aload_n 0, 1) := by decide +kernel
theorem dX7_raise_1 : decode cX7_raise 1 = .ok (.iload_n 1, 1) := by decide +kernel
theorem dX7_raise_2 : decode cX7_raise 2 = .ok (.putfield 15, 3) := by decide +kernel
theorem dX7_raise_5 : decode cX7_raise 5 = .ok (.aload_n 0, 1) := by decide +kernel
theorem dX7_raise_6 : decode cX7_raise 6 = .ok (.iload_n 2, 1) := by decide +kernel
theorem dX7_raise_7 : decode cX7_raise 7 = .ok (.putfield 19, 3) := by decide +kernel
theorem dX7_raise_10 : decode cX7_raise 10 = .ok (.aload_n 0, 1) := by decide +kernel
theorem dX7_raise_11 : decode cX7_raise 11 = .ok (.iload_n 3, 1) := by decide +kernel
theorem dX7_raise_12 : decode cX7_raise 12 = .ok (.putfield 22, 3) := by decide +kernel
theorem dX7_raise_15 : decode cX7_raise 15 = .ok (.aload_n 0, 1) := by decide +kernel
theorem dX7_raise_16 : decode cX7_raise 16 = .ok (.iconst 0, 1) := by decide +kernel
theorem dX7_raise_17 : decode cX7_raise 17 = .ok (.putfield 25, 3) := by decide +kernel
theorem dX7_raise_20 : decode cX7_raise 20 = .ok (.aload_n 0, 1) := by decide +kernel
theorem dX7_raise_21 : decode cX7_raise 21 = .ok (.aload_n 0, 1) := by decide +kernel
theorem dX7_raise_22 : decode cX7_raise 22 = .ok (.getfield 22, 3) := by decide +kernel
theorem dX7_raise_25 : decode cX7_raise 25 = .ok (.iload 4, 2) := by decide +kernel
theorem dX7_raise_27 : decode cX7_raise 27 = .ok (.iload 5, 2) := by decide +kernel
theorem dX7_raise_29 : decode cX7_raise 29 = .ok (.iconst 0, 1) := by decide +kernel
theorem dX7_raise_30 : decode cX7_raise 30 = .ok (.invokevirtual 28, 3) := by decide +kernel
theorem dX7_raise_33 : decode cX7_raise 33 = .ok (.ireturn, 1) := by decide +kernel
theorem dX7_speak_0 : decode cX7_speak 0 = .ok (.iload_n 1, 1) := by decide +kernel
theorem dX7_speak_1 : decode cX7_speak 1 = .ok (.istore 5, 2) := by decide +kernel
theorem dX7_speak_3 : decode cX7_speak 3 = .ok (.iconst 0, 1) := by decide +kernel
theorem dX7_speak_4 : decode cX7_speak 4 = .ok (.istore 6, 2) := by decide +kernel
theorem dX7_speak_6 : decode cX7_speak 6 = .ok (.iload 6, 2) := by decide +kernel
theorem dX7_speak_8 : decode cX7_speak 8 = .ok (.bipush 7, 2) := by decide +kernel
theorem dX7_speak_10 : decode cX7_speak 10 = .ok (.if_icmp .ge 38, 3) := by decide +kernel
theorem dX7_speak_13 : decode cX7_speak 13 = .ok (.iload 5, 2) := by decide +kernel
theorem dX7_speak_15 : decode cX7_speak 15 = .ok (.invokestatic 32, 3) := by decide +kernel
theorem dX7_speak_18 : decode cX7_speak 18 = .ok (.ifCond .eq 30, 3) := by decide +kernel
theorem dX7_speak_21 : decode cX7_speak 21 = .ok (.getstatic 36, 3) := by decide +kernel
theorem dX7_speak_24 : decode cX7_speak 24 = .ok (.iload 5, 2) := by decide +kernel
theorem dX7_speak_26 : decode cX7_speak 26 = .ok (.iconst 4, 1) := by decide +kernel
theorem dX7_speak_27 : decode cX7_speak 27 = .ok (.imul, 1) := by decide +kernel
theorem dX7_speak_28 : decode cX7_speak 28 = .ok (.iload_n 2, 1) := by decide +kernel
theorem dX7_speak_29 : decode cX7_speak 29 = .ok (.iadd, 1) := by decide +kernel
theorem dX7_speak_30 : decode cX7_speak 30 = .ok (.iaload, 1) := by decide +kernel
theorem dX7_speak_31 : decode cX7_speak 31 = .ok (.ifCond .ne 17, 3) := by decide +kernel
theorem dX7_speak_34 : decode cX7_speak 34 = .ok (.getstatic 39, 3) := by decide +kernel
theorem dX7_speak_37 : decode cX7_speak 37 = .ok (.iload 5, 2) := by decide +kernel
theorem dX7_speak_39 : decode cX7_speak 39 = .ok (.iaload, 1) := by decide +kernel
theorem dX7_speak_40 : decode cX7_speak 40 = .ok (.istore 5, 2) := by decide +kernel
theorem dX7_speak_42 : decode cX7_speak 42 = .ok (.iinc 6 1, 3) := by decide +kernel
theorem dX7_speak_45 : decode cX7_speak 45 = .ok (.goto (-39), 3) := by decide +kernel
theorem dX7_speak_48 : decode cX7_speak 48 = .ok (.iload 5, 2) := by decide +kernel
theorem dX7_speak_50 : decode cX7_speak 50 = .ok (.invokestatic 32, 3) := by decide +kernel
theorem dX7_speak_53 : decode cX7_speak 53 = .ok (.ifCond .eq 10, 3) := by decide +kernel
theorem dX7_speak_56 : decode cX7_speak 56 = .ok (.iload 4, 2) := by decide +kernel
theorem dX7_speak_58 : decode cX7_speak 58 = .ok (.bipush 30, 2) := by decide +kernel
theorem dX7_speak_60 : decode cX7_speak 60 = .ok (.if_icmp .le 5, 3) := by decide +kernel
theorem dX7_speak_63 : decode cX7_speak 63 = .ok (.iconst 0, 1) := by decide +kernel
theorem dX7_speak_64 : decode cX7_speak 64 = .ok (.ireturn, 1) := by decide +kernel
theorem dX7_speak_65 : decode cX7_speak 65 = .ok (.getstatic 36, 3) := by decide +kernel
theorem dX7_speak_68 : decode cX7_speak 68 = .ok (.iload 5, 2) := by decide +kernel
theorem dX7_speak_70 : decode cX7_speak 70 = .ok (.iconst 4, 1) := by decide +kernel
theorem dX7_speak_71 : decode cX7_speak 71 = .ok (.imul, 1) := by decide +kernel
theorem dX7_speak_72 : decode cX7_speak 72 = .ok (.iload_n 2, 1) := by decide +kernel
theorem dX7_speak_73 : decode cX7_speak 73 = .ok (.iadd, 1) := by decide +kernel
theorem dX7_speak_74 : decode cX7_speak 74 = .ok (.iaload, 1) := by decide +kernel
theorem dX7_speak_75 : decode cX7_speak 75 = .ok (.istore 6, 2) := by decide +kernel
theorem dX7_speak_77 : decode cX7_speak 77 = .ok (.aload_n 0, 1) := by decide +kernel
theorem dX7_speak_78 : decode cX7_speak 78 = .ok (.iload 6, 2) := by decide +kernel
theorem dX7_speak_80 : decode cX7_speak 80 = .ok (.invokevirtual 42, 3) := by decide +kernel
theorem dX7_speak_83 : decode cX7_speak 83 = .ok (.aload_n 0, 1) := by decide +kernel
theorem dX7_speak_84 : decode cX7_speak 84 = .ok (.iload 6, 2) := by decide +kernel
theorem dX7_speak_86 : decode cX7_speak 86 = .ok (.getstatic 39, 3) := by decide +kernel
theorem dX7_speak_89 : decode cX7_speak 89 = .ok (.iload 5, 2) := by decide +kernel
theorem dX7_speak_91 : decode cX7_speak 91 = .ok (.iaload, 1) := by decide +kernel
theorem dX7_speak_92 : decode cX7_speak 92 = .ok (.iload_n 3, 1) := by decide +kernel
theorem dX7_speak_93 : decode cX7_speak 93 = .ok (.iload 4, 2) := by decide +kernel
theorem dX7_speak_95 : decode cX7_speak 95 = .ok (.iconst 1, 1) := by decide +kernel
theorem dX7_speak_96 : decode cX7_speak 96 = .ok (.iadd, 1) := by decide +kernel
theorem dX7_speak_97 : decode cX7_speak 97 = .ok (.invokevirtual 46, 3) := by decide +kernel
theorem dX7_speak_100 : decode cX7_speak 100 = .ok (.ireturn, 1) := by decide +kernel
theorem dX7_begin_0 : decode cX7_begin 0 = .ok (.aload_n 0, 1) := by decide +kernel
theorem dX7_begin_1 : decode cX7_begin 1 = .ok (.getfield 25, 3) := by decide +kernel
theorem dX7_begin_4 : decode cX7_begin 4 = .ok (.bipush 40, 2) := by decide +kernel
theorem dX7_begin_6 : decode cX7_begin 6 = .ok (.if_icmp .ge 23, 3) := by decide +kernel
theorem dX7_begin_9 : decode cX7_begin 9 = .ok (.aload_n 0, 1) := by decide +kernel
theorem dX7_begin_10 : decode cX7_begin 10 = .ok (.getfield 11, 3) := by decide +kernel
theorem dX7_begin_13 : decode cX7_begin 13 = .ok (.aload_n 0, 1) := by decide +kernel
theorem dX7_begin_14 : decode cX7_begin 14 = .ok (.getfield 25, 3) := by decide +kernel
theorem dX7_begin_17 : decode cX7_begin 17 = .ok (.iload_n 1, 1) := by decide +kernel
theorem dX7_begin_18 : decode cX7_begin 18 = .ok (.iastore, 1) := by decide +kernel
theorem dX7_begin_19 : decode cX7_begin 19 = .ok (.aload_n 0, 1) := by decide +kernel
theorem dX7_begin_20 : decode cX7_begin 20 = .ok (.dup, 1) := by decide +kernel
theorem dX7_begin_21 : decode cX7_begin 21 = .ok (.getfield 25, 3) := by decide +kernel
theorem dX7_begin_24 : decode cX7_begin 24 = .ok (.iconst 1, 1) := by decide +kernel
theorem dX7_begin_25 : decode cX7_begin 25 = .ok (.iadd, 1) := by decide +kernel
theorem dX7_begin_26 : decode cX7_begin 26 = .ok (.putfield 25, 3) := by decide +kernel
theorem dX7_begin_29 : decode cX7_begin 29 = .ok (.return_, 1) := by decide +kernel
theorem dX7_run_0 : decode cX7_run 0 = .ok (.iload_n 1, 1) := by decide +kernel
theorem dX7_run_1 : decode cX7_run 1 = .ok (.lookupswitch 296 #[(10, 107), (11, 114), (12, 129), (13, 136), (20, 162), (30, 185), (40, 197), (50, 208), (51, 220), (60, 243), (70, 258), (71, 273)], 107) := by decide +kernel
theorem dX7_run_108 : decode cX7_run 108 = .ok (.iload_n 3, 1) := by decide +kernel
theorem dX7_run_109 : decode cX7_run 109 = .ok (.aload_n 0, 1) := by decide +kernel
theorem dX7_run_110 : decode cX7_run 110 = .ok (.getfield 15, 3) := by decide +kernel
theorem dX7_run_113 : decode cX7_run 113 = .ok (.iadd, 1) := by decide +kernel
theorem dX7_run_114 : decode cX7_run 114 = .ok (.ireturn, 1) := by decide +kernel
theorem dX7_run_115 : decode cX7_run 115 = .ok (.aload_n 0, 1) := by decide +kernel
theorem dX7_run_116 : decode cX7_run 116 = .ok (.aload_n 0, 1) := by decide +kernel
theorem dX7_run_117 : decode cX7_run 117 = .ok (.getfield 22, 3) := by decide +kernel
theorem dX7_run_120 : decode cX7_run 120 = .ok (.iconst 0, 1) := by decide +kernel
theorem dX7_run_121 : decode cX7_run 121 = .ok (.iload_n 3, 1) := by decide +kernel
theorem dX7_run_122 : decode cX7_run 122 = .ok (.iload 4, 2) := by decide +kernel
theorem dX7_run_124 : decode cX7_run 124 = .ok (.invokevirtual 28, 3) := by decide +kernel
theorem dX7_run_127 : decode cX7_run 127 = .ok (.iconst 2, 1) := by decide +kernel
theorem dX7_run_128 : decode cX7_run 128 = .ok (.imul, 1) := by decide +kernel
theorem dX7_run_129 : decode cX7_run 129 = .ok (.ireturn, 1) := by decide +kernel
theorem dX7_run_130 : decode cX7_run 130 = .ok (.iload_n 3, 1) := by decide +kernel
theorem dX7_run_131 : decode cX7_run 131 = .ok (.aload_n 0, 1) := by decide +kernel
theorem dX7_run_132 : decode cX7_run 132 = .ok (.getfield 19, 3) := by decide +kernel
theorem dX7_run_135 : decode cX7_run 135 = .ok (.isub, 1) := by decide +kernel
theorem dX7_run_136 : decode cX7_run 136 = .ok (.ireturn, 1) := by decide +kernel
theorem dX7_run_137 : decode cX7_run 137 = .ok (.aload_n 0, 1) := by decide +kernel
theorem dX7_run_138 : decode cX7_run 138 = .ok (.aload_n 0, 1) := by decide +kernel
theorem dX7_run_139 : decode cX7_run 139 = .ok (.getfield 22, 3) := by decide +kernel
theorem dX7_run_142 : decode cX7_run 142 = .ok (.iconst 1, 1) := by decide +kernel
theorem dX7_run_143 : decode cX7_run 143 = .ok (.iload_n 3, 1) := by decide +kernel
theorem dX7_run_144 : decode cX7_run 144 = .ok (.iload 4, 2) := by decide +kernel
theorem dX7_run_146 : decode cX7_run 146 = .ok (.invokevirtual 28, 3) := by decide +kernel
theorem dX7_run_149 : decode cX7_run 149 = .ok (.aload_n 0, 1) := by decide +kernel
theorem dX7_run_150 : decode cX7_run 150 = .ok (.aload_n 0, 1) := by decide +kernel
theorem dX7_run_151 : decode cX7_run 151 = .ok (.getfield 22, 3) := by decide +kernel
theorem dX7_run_154 : decode cX7_run 154 = .ok (.iconst 2, 1) := by decide +kernel
theorem dX7_run_155 : decode cX7_run 155 = .ok (.iload_n 3, 1) := by decide +kernel
theorem dX7_run_156 : decode cX7_run 156 = .ok (.iload 4, 2) := by decide +kernel
theorem dX7_run_158 : decode cX7_run 158 = .ok (.invokevirtual 28, 3) := by decide +kernel
theorem dX7_run_161 : decode cX7_run 161 = .ok (.ixor, 1) := by decide +kernel
theorem dX7_run_162 : decode cX7_run 162 = .ok (.ireturn, 1) := by decide +kernel
theorem dX7_run_163 : decode cX7_run 163 = .ok (.aload_n 0, 1) := by decide +kernel
theorem dX7_run_164 : decode cX7_run 164 = .ok (.iload_n 2, 1) := by decide +kernel
theorem dX7_run_165 : decode cX7_run 165 = .ok (.iconst 1, 1) := by decide +kernel
theorem dX7_run_166 : decode cX7_run 166 = .ok (.iload_n 3, 1) := by decide +kernel
theorem dX7_run_167 : decode cX7_run 167 = .ok (.iload 4, 2) := by decide +kernel
theorem dX7_run_169 : decode cX7_run 169 = .ok (.invokevirtual 28, 3) := by decide +kernel
theorem dX7_run_172 : decode cX7_run 172 = .ok (.aload_n 0, 1) := by decide +kernel
theorem dX7_run_173 : decode cX7_run 173 = .ok (.aload_n 0, 1) := by decide +kernel
theorem dX7_run_174 : decode cX7_run 174 = .ok (.getfield 22, 3) := by decide +kernel
theorem dX7_run_177 : decode cX7_run 177 = .ok (.iconst 2, 1) := by decide +kernel
theorem dX7_run_178 : decode cX7_run 178 = .ok (.iconst 1, 1) := by decide +kernel
theorem dX7_run_179 : decode cX7_run 179 = .ok (.iload 4, 2) := by decide +kernel
theorem dX7_run_181 : decode cX7_run 181 = .ok (.invokevirtual 28, 3) := by decide +kernel
theorem dX7_run_184 : decode cX7_run 184 = .ok (.isub, 1) := by decide +kernel
theorem dX7_run_185 : decode cX7_run 185 = .ok (.ireturn, 1) := by decide +kernel
theorem dX7_run_186 : decode cX7_run 186 = .ok (.aload_n 0, 1) := by decide +kernel
theorem dX7_run_187 : decode cX7_run 187 = .ok (.iload_n 2, 1) := by decide +kernel
theorem dX7_run_188 : decode cX7_run 188 = .ok (.iconst 0, 1) := by decide +kernel
theorem dX7_run_189 : decode cX7_run 189 = .ok (.iload_n 3, 1) := by decide +kernel
theorem dX7_run_190 : decode cX7_run 190 = .ok (.iload 4, 2) := by decide +kernel
theorem dX7_run_192 : decode cX7_run 192 = .ok (.invokevirtual 28, 3) := by decide +kernel
theorem dX7_run_195 : decode cX7_run 195 = .ok (.iconst 3, 1) := by decide +kernel
theorem dX7_run_196 : decode cX7_run 196 = .ok (.imul, 1) := by decide +kernel
theorem dX7_run_197 : decode cX7_run 197 = .ok (.ireturn, 1) := by decide +kernel
theorem dX7_run_198 : decode cX7_run 198 = .ok (.aload_n 0, 1) := by decide +kernel
theorem dX7_run_199 : decode cX7_run 199 = .ok (.iload_n 2, 1) := by decide +kernel
theorem dX7_run_200 : decode cX7_run 200 = .ok (.iconst 2, 1) := by decide +kernel
theorem dX7_run_201 : decode cX7_run 201 = .ok (.iload_n 3, 1) := by decide +kernel
theorem dX7_run_202 : decode cX7_run 202 = .ok (.iload 4, 2) := by decide +kernel
theorem dX7_run_204 : decode cX7_run 204 = .ok (.invokevirtual 28, 3) := by decide +kernel
theorem dX7_run_207 : decode cX7_run 207 = .ok (.ineg, 1) := by decide +kernel
theorem dX7_run_208 : decode cX7_run 208 = .ok (.ireturn, 1) := by decide +kernel
theorem dX7_run_209 : decode cX7_run 209 = .ok (.aload_n 0, 1) := by decide +kernel
theorem dX7_run_210 : decode cX7_run 210 = .ok (.iload_n 2, 1) := by decide +kernel
theorem dX7_run_211 : decode cX7_run 211 = .ok (.iconst 0, 1) := by decide +kernel
theorem dX7_run_212 : decode cX7_run 212 = .ok (.iload_n 3, 1) := by decide +kernel
theorem dX7_run_213 : decode cX7_run 213 = .ok (.iconst 1, 1) := by decide +kernel
theorem dX7_run_214 : decode cX7_run 214 = .ok (.iadd, 1) := by decide +kernel
theorem dX7_run_215 : decode cX7_run 215 = .ok (.iload 4, 2) := by decide +kernel
theorem dX7_run_217 : decode cX7_run 217 = .ok (.invokevirtual 28, 3) := by decide +kernel
theorem dX7_run_220 : decode cX7_run 220 = .ok (.ireturn, 1) := by decide +kernel
theorem dX7_run_221 : decode cX7_run 221 = .ok (.aload_n 0, 1) := by decide +kernel
theorem dX7_run_222 : decode cX7_run 222 = .ok (.iload_n 2, 1) := by decide +kernel
theorem dX7_run_223 : decode cX7_run 223 = .ok (.iconst 3, 1) := by decide +kernel
theorem dX7_run_224 : decode cX7_run 224 = .ok (.iload_n 3, 1) := by decide +kernel
theorem dX7_run_225 : decode cX7_run 225 = .ok (.iload 4, 2) := by decide +kernel
theorem dX7_run_227 : decode cX7_run 227 = .ok (.invokevirtual 28, 3) := by decide +kernel
theorem dX7_run_230 : decode cX7_run 230 = .ok (.aload_n 0, 1) := by decide +kernel
theorem dX7_run_231 : decode cX7_run 231 = .ok (.aload_n 0, 1) := by decide +kernel
theorem dX7_run_232 : decode cX7_run 232 = .ok (.getfield 22, 3) := by decide +kernel
theorem dX7_run_235 : decode cX7_run 235 = .ok (.iconst 0, 1) := by decide +kernel
theorem dX7_run_236 : decode cX7_run 236 = .ok (.iconst 2, 1) := by decide +kernel
theorem dX7_run_237 : decode cX7_run 237 = .ok (.iload 4, 2) := by decide +kernel
theorem dX7_run_239 : decode cX7_run 239 = .ok (.invokevirtual 28, 3) := by decide +kernel
theorem dX7_run_242 : decode cX7_run 242 = .ok (.isub, 1) := by decide +kernel
theorem dX7_run_243 : decode cX7_run 243 = .ok (.ireturn, 1) := by decide +kernel
theorem dX7_run_244 : decode cX7_run 244 = .ok (.aload_n 0, 1) := by decide +kernel
theorem dX7_run_245 : decode cX7_run 245 = .ok (.iload_n 2, 1) := by decide +kernel
theorem dX7_run_246 : decode cX7_run 246 = .ok (.iconst 1, 1) := by decide +kernel
theorem dX7_run_247 : decode cX7_run 247 = .ok (.iload_n 3, 1) := by decide +kernel
theorem dX7_run_248 : decode cX7_run 248 = .ok (.iload 4, 2) := by decide +kernel
theorem dX7_run_250 : decode cX7_run 250 = .ok (.invokevirtual 28, 3) := by decide +kernel
theorem dX7_run_253 : decode cX7_run 253 = .ok (.aload_n 0, 1) := by decide +kernel
theorem dX7_run_254 : decode cX7_run 254 = .ok (.getfield 15, 3) := by decide +kernel
theorem dX7_run_257 : decode cX7_run 257 = .ok (.ixor, 1) := by decide +kernel
theorem dX7_run_258 : decode cX7_run 258 = .ok (.ireturn, 1) := by decide +kernel
theorem dX7_run_259 : decode cX7_run 259 = .ok (.aload_n 0, 1) := by decide +kernel
theorem dX7_run_260 : decode cX7_run 260 = .ok (.iload_n 2, 1) := by decide +kernel
theorem dX7_run_261 : decode cX7_run 261 = .ok (.iconst 2, 1) := by decide +kernel
theorem dX7_run_262 : decode cX7_run 262 = .ok (.iload_n 3, 1) := by decide +kernel
theorem dX7_run_263 : decode cX7_run 263 = .ok (.iload 4, 2) := by decide +kernel
theorem dX7_run_265 : decode cX7_run 265 = .ok (.invokevirtual 28, 3) := by decide +kernel
theorem dX7_run_268 : decode cX7_run 268 = .ok (.aload_n 0, 1) := by decide +kernel
theorem dX7_run_269 : decode cX7_run 269 = .ok (.getfield 19, 3) := by decide +kernel
theorem dX7_run_272 : decode cX7_run 272 = .ok (.iadd, 1) := by decide +kernel
theorem dX7_run_273 : decode cX7_run 273 = .ok (.ireturn, 1) := by decide +kernel
theorem dX7_run_274 : decode cX7_run 274 = .ok (.aload_n 0, 1) := by decide +kernel
theorem dX7_run_275 : decode cX7_run 275 = .ok (.aload_n 0, 1) := by decide +kernel
theorem dX7_run_276 : decode cX7_run 276 = .ok (.getfield 22, 3) := by decide +kernel
theorem dX7_run_279 : decode cX7_run 279 = .ok (.iconst 1, 1) := by decide +kernel
theorem dX7_run_280 : decode cX7_run 280 = .ok (.iload_n 3, 1) := by decide +kernel
theorem dX7_run_281 : decode cX7_run 281 = .ok (.iload 4, 2) := by decide +kernel
theorem dX7_run_283 : decode cX7_run 283 = .ok (.invokevirtual 28, 3) := by decide +kernel
theorem dX7_run_286 : decode cX7_run 286 = .ok (.aload_n 0, 1) := by decide +kernel
theorem dX7_run_287 : decode cX7_run 287 = .ok (.iload_n 2, 1) := by decide +kernel
theorem dX7_run_288 : decode cX7_run 288 = .ok (.iconst 3, 1) := by decide +kernel
theorem dX7_run_289 : decode cX7_run 289 = .ok (.iload_n 3, 1) := by decide +kernel
theorem dX7_run_290 : decode cX7_run 290 = .ok (.iload 4, 2) := by decide +kernel
theorem dX7_run_292 : decode cX7_run 292 = .ok (.invokevirtual 28, 3) := by decide +kernel
theorem dX7_run_295 : decode cX7_run 295 = .ok (.isub, 1) := by decide +kernel
theorem dX7_run_296 : decode cX7_run 296 = .ok (.ireturn, 1) := by decide +kernel
theorem dX7_run_297 : decode cX7_run 297 = .ok (.iconst 0, 1) := by decide +kernel
theorem dX7_run_298 : decode cX7_run 298 = .ok (.ireturn, 1) := by decide +kernel
theorem dX8_init_0 : decode cX8_init 0 = .ok (.aload_n 0, 1) := by decide +kernel
theorem dX8_init_1 : decode cX8_init 1 = .ok (.invokespecial 3, 3) := by decide +kernel
theorem dX8_init_4 : decode cX8_init 4 = .ok (.aload_n 0, 1) := by decide +kernel
theorem dX8_init_5 : decode cX8_init 5 = .ok (.sipush 162, 3) := by decide +kernel
theorem dX8_init_8 : decode cX8_init 8 = .ok (.newarray .int, 2) := by decide +kernel
theorem dX8_init_10 : decode cX8_init 10 = .ok (.putfield 11, 3) := by decide +kernel
theorem dX8_init_13 : decode cX8_init 13 = .ok (.aload_n 0, 1) := by decide +kernel
theorem dX8_init_14 : decode cX8_init 14 = .ok (.sipush 189, 3) := by decide +kernel
theorem dX8_init_17 : decode cX8_init 17 = .ok (.newarray .long, 2) := by decide +kernel
theorem dX8_init_19 : decode cX8_init 19 = .ok (.putfield 15, 3) := by decide +kernel
theorem dX8_init_22 : decode cX8_init 22 = .ok (.aload_n 0, 1) := by decide +kernel
theorem dX8_init_23 : decode cX8_init 23 = .ok (.aload_n 1, 1) := by decide +kernel
theorem dX8_init_24 : decode cX8_init 24 = .ok (.putfield 19, 3) := by decide +kernel
theorem dX8_init_27 : decode cX8_init 27 = .ok (.aload_n 0, 1) := by decide +kernel
theorem dX8_init_28 : decode cX8_init 28 = .ok (.getfield 11, 3) := by decide +kernel
theorem dX8_init_31 : decode cX8_init 31 = .ok (.iconst (-1), 1) := by decide +kernel
theorem dX8_init_32 : decode cX8_init 32 = .ok (.invokestatic 23, 3) := by decide +kernel
theorem dX8_init_35 : decode cX8_init 35 = .ok (.return_, 1) := by decide +kernel
theorem dX8_forget_0 : decode cX8_forget 0 = .ok (.aload_n 0, 1) := by decide +kernel
theorem dX8_forget_1 : decode cX8_forget 1 = .ok (.getfield 11, 3) := by decide +kernel
theorem dX8_forget_4 : decode cX8_forget 4 = .ok (.iconst (-1), 1) := by decide +kernel
theorem dX8_forget_5 : decode cX8_forget 5 = .ok (.invokestatic 23, 3) := by decide +kernel
theorem dX8_forget_8 : decode cX8_forget 8 = .ok (.return_, 1) := by decide +kernel
theorem dX8_howMany_0 : decode cX8_howMany 0 = .ok (.aload_n 0, 1) := by decide +kernel
theorem dX8_howMany_1 : decode cX8_howMany 1 = .ok (.getfield 15, 3) := by decide +kernel
theorem dX8_howMany_4 : decode cX8_howMany 4 = .ok (.lconst 1, 1) := by decide +kernel
theorem dX8_howMany_5 : decode cX8_howMany 5 = .ok (.invokestatic 29, 3) := by decide +kernel
theorem dX8_howMany_8 : decode cX8_howMany 8 = .ok (.iload_n 1, 1) := by decide +kernel
theorem dX8_howMany_9 : decode cX8_howMany 9 = .ok (.iconst 1, 1) := by decide +kernel
theorem dX8_howMany_10 : decode cX8_howMany 10 = .ok (.isub, 1) := by decide +kernel
theorem dX8_howMany_11 : decode cX8_howMany 11 = .ok (.istore_n 3, 1) := by decide +kernel
theorem dX8_howMany_12 : decode cX8_howMany 12 = .ok (.iload_n 3, 1) := by decide +kernel
theorem dX8_howMany_13 : decode cX8_howMany 13 = .ok (.ifCond .le 53, 3) := by decide +kernel
theorem dX8_howMany_16 : decode cX8_howMany 16 = .ok (.iconst 0, 1) := by decide +kernel
theorem dX8_howMany_17 : decode cX8_howMany 17 = .ok (.istore 4, 2) := by decide +kernel
theorem dX8_howMany_19 : decode cX8_howMany 19 = .ok (.iload 4, 2) := by decide +kernel
theorem dX8_howMany_21 : decode cX8_howMany 21 = .ok (.bipush 26, 2) := by decide +kernel
theorem dX8_howMany_23 : decode cX8_howMany 23 = .ok (.if_icmp .ge 37, 3) := by decide +kernel
theorem dX8_howMany_26 : decode cX8_howMany 26 = .ok (.iload_n 2, 1) := by decide +kernel
theorem dX8_howMany_27 : decode cX8_howMany 27 = .ok (.iload 4, 2) := by decide +kernel
theorem dX8_howMany_29 : decode cX8_howMany 29 = .ok (.ishr, 1) := by decide +kernel
theorem dX8_howMany_30 : decode cX8_howMany 30 = .ok (.iconst 1, 1) := by decide +kernel
theorem dX8_howMany_31 : decode cX8_howMany 31 = .ok (.iand, 1) := by decide +kernel
theorem dX8_howMany_32 : decode cX8_howMany 32 = .ok (.ifCond .ne 22, 3) := by decide +kernel
theorem dX8_howMany_35 : decode cX8_howMany 35 = .ok (.aload_n 0, 1) := by decide +kernel
theorem dX8_howMany_36 : decode cX8_howMany 36 = .ok (.getfield 15, 3) := by decide +kernel
theorem dX8_howMany_39 : decode cX8_howMany 39 = .ok (.iload_n 3, 1) := by decide +kernel
theorem dX8_howMany_40 : decode cX8_howMany 40 = .ok (.iload 4, 2) := by decide +kernel
theorem dX8_howMany_42 : decode cX8_howMany 42 = .ok (.invokestatic 32, 3) := by decide +kernel
theorem dX8_howMany_45 : decode cX8_howMany 45 = .ok (.aload_n 0, 1) := by decide +kernel
theorem dX8_howMany_46 : decode cX8_howMany 46 = .ok (.iload_n 3, 1) := by decide +kernel
theorem dX8_howMany_47 : decode cX8_howMany 47 = .ok (.iload 4, 2) := by decide +kernel
theorem dX8_howMany_49 : decode cX8_howMany 49 = .ok (.iload_n 2, 1) := by decide +kernel
theorem dX8_howMany_50 : decode cX8_howMany 50 = .ok (.invokevirtual 36, 3) := by decide +kernel
theorem dX8_howMany_53 : decode cX8_howMany 53 = .ok (.lastore, 1) := by decide +kernel
theorem dX8_howMany_54 : decode cX8_howMany 54 = .ok (.iinc 4 1, 3) := by decide +kernel
theorem dX8_howMany_57 : decode cX8_howMany 57 = .ok (.goto (-38), 3) := by decide +kernel
theorem dX8_howMany_60 : decode cX8_howMany 60 = .ok (.iinc 3 (-1), 3) := by decide +kernel
theorem dX8_howMany_63 : decode cX8_howMany 63 = .ok (.goto (-51), 3) := by decide +kernel
theorem dX8_howMany_66 : decode cX8_howMany 66 = .ok (.aload_n 0, 1) := by decide +kernel
theorem dX8_howMany_67 : decode cX8_howMany 67 = .ok (.iconst 0, 1) := by decide +kernel
theorem dX8_howMany_68 : decode cX8_howMany 68 = .ok (.iconst (-1), 1) := by decide +kernel
theorem dX8_howMany_69 : decode cX8_howMany 69 = .ok (.iload_n 2, 1) := by decide +kernel
theorem dX8_howMany_70 : decode cX8_howMany 70 = .ok (.invokevirtual 36, 3) := by decide +kernel
theorem dX8_howMany_73 : decode cX8_howMany 73 = .ok (.lreturn, 1) := by decide +kernel
theorem dX8_waysFrom_0 : decode cX8_waysFrom 0 = .ok (.aload_n 0, 1) := by decide +kernel
theorem dX8_waysFrom_1 : decode cX8_waysFrom 1 = .ok (.iload_n 1, 1) := by decide +kernel
theorem dX8_waysFrom_2 : decode cX8_waysFrom 2 = .ok (.iload_n 2, 1) := by decide +kernel
theorem dX8_waysFrom_3 : decode cX8_waysFrom 3 = .ok (.invokevirtual 40, 3) := by decide +kernel
theorem dX8_waysFrom_6 : decode cX8_waysFrom 6 = .ok (.iload_n 3, 1) := by decide +kernel
theorem dX8_waysFrom_7 : decode cX8_waysFrom 7 = .ok (.iconst (-1), 1) := by decide +kernel
theorem dX8_waysFrom_8 : decode cX8_waysFrom 8 = .ok (.ixor, 1) := by decide +kernel
theorem dX8_waysFrom_9 : decode cX8_waysFrom 9 = .ok (.iand, 1) := by decide +kernel
theorem dX8_waysFrom_10 : decode cX8_waysFrom 10 = .ok (.istore 4, 2) := by decide +kernel
theorem dX8_waysFrom_12 : decode cX8_waysFrom 12 = .ok (.lconst 0, 1) := by decide +kernel
theorem dX8_waysFrom_13 : decode cX8_waysFrom 13 = .ok (.lstore 5, 2) := by decide +kernel
theorem dX8_waysFrom_15 : decode cX8_waysFrom 15 = .ok (.iconst 0, 1) := by decide +kernel
theorem dX8_waysFrom_16 : decode cX8_waysFrom 16 = .ok (.istore 7, 2) := by decide +kernel
theorem dX8_waysFrom_18 : decode cX8_waysFrom 18 = .ok (.iload 7, 2) := by decide +kernel
theorem dX8_waysFrom_20 : decode cX8_waysFrom 20 = .ok (.bipush 26, 2) := by decide +kernel
theorem dX8_waysFrom_22 : decode cX8_waysFrom 22 = .ok (.if_icmp .ge 37, 3) := by decide +kernel
theorem dX8_waysFrom_25 : decode cX8_waysFrom 25 = .ok (.iload 4, 2) := by decide +kernel
theorem dX8_waysFrom_27 : decode cX8_waysFrom 27 = .ok (.iload 7, 2) := by decide +kernel
theorem dX8_waysFrom_29 : decode cX8_waysFrom 29 = .ok (.ishr, 1) := by decide +kernel
theorem dX8_waysFrom_30 : decode cX8_waysFrom 30 = .ok (.iconst 1, 1) := by decide +kernel
theorem dX8_waysFrom_31 : decode cX8_waysFrom 31 = .ok (.iand, 1) := by decide +kernel
theorem dX8_waysFrom_32 : decode cX8_waysFrom 32 = .ok (.ifCond .eq 21, 3) := by decide +kernel
theorem dX8_waysFrom_35 : decode cX8_waysFrom 35 = .ok (.lload 5, 2) := by decide +kernel
theorem dX8_waysFrom_37 : decode cX8_waysFrom 37 = .ok (.aload_n 0, 1) := by decide +kernel
theorem dX8_waysFrom_38 : decode cX8_waysFrom 38 = .ok (.getfield 15, 3) := by decide +kernel
theorem dX8_waysFrom_41 : decode cX8_waysFrom 41 = .ok (.iload_n 1, 1) := by decide +kernel
theorem dX8_waysFrom_42 : decode cX8_waysFrom 42 = .ok (.iconst 1, 1) := by decide +kernel
theorem dX8_waysFrom_43 : decode cX8_waysFrom 43 = .ok (.iadd, 1) := by decide +kernel
theorem dX8_waysFrom_44 : decode cX8_waysFrom 44 = .ok (.iload 7, 2) := by decide +kernel
theorem dX8_waysFrom_46 : decode cX8_waysFrom 46 = .ok (.invokestatic 32, 3) := by decide +kernel
theorem dX8_waysFrom_49 : decode cX8_waysFrom 49 = .ok (.laload, 1) := by decide +kernel
theorem dX8_waysFrom_50 : decode cX8_waysFrom 50 = .ok (.ladd, 1) := by decide +kernel
theorem dX8_waysFrom_51 : decode cX8_waysFrom 51 = .ok (.lstore 5, 2) := by decide +kernel
theorem dX8_waysFrom_53 : decode cX8_waysFrom 53 = .ok (.iinc 7 1, 3) := by decide +kernel
theorem dX8_waysFrom_56 : decode cX8_waysFrom 56 = .ok (.goto (-38), 3) := by decide +kernel
theorem dX8_waysFrom_59 : decode cX8_waysFrom 59 = .ok (.lload 5, 2) := by decide +kernel
theorem dX8_waysFrom_61 : decode cX8_waysFrom 61 = .ok (.lreturn, 1) := by decide +kernel
theorem dX8_letterOfFirst_0 : decode cX8_letterOfFirst 0 = .ok (.iconst (-1), 1) := by decide +kernel
theorem dX8_letterOfFirst_1 : decode cX8_letterOfFirst 1 = .ok (.istore_n 3, 1) := by decide +kernel
theorem dX8_letterOfFirst_2 : decode cX8_letterOfFirst 2 = .ok (.iconst 0, 1) := by decide +kernel
theorem dX8_letterOfFirst_3 : decode cX8_letterOfFirst 3 = .ok (.istore 4, 2) := by decide +kernel
theorem dX8_letterOfFirst_5 : decode cX8_letterOfFirst 5 = .ok (.iload 4, 2) := by decide +kernel
theorem dX8_letterOfFirst_7 : decode cX8_letterOfFirst 7 = .ok (.iload_n 2, 1) := by decide +kernel
theorem dX8_letterOfFirst_8 : decode cX8_letterOfFirst 8 = .ok (.if_icmp .gt 27, 3) := by decide +kernel
theorem dX8_letterOfFirst_11 : decode cX8_letterOfFirst 11 = .ok (.aload_n 0, 1) := by decide +kernel
theorem dX8_letterOfFirst_12 : decode cX8_letterOfFirst 12 = .ok (.iload 4, 2) := by decide +kernel
theorem dX8_letterOfFirst_14 : decode cX8_letterOfFirst 14 = .ok (.aload_n 0, 1) := by decide +kernel
theorem dX8_letterOfFirst_15 : decode cX8_letterOfFirst 15 = .ok (.iload 4, 2) := by decide +kernel
theorem dX8_letterOfFirst_17 : decode cX8_letterOfFirst 17 = .ok (.iload_n 3, 1) := by decide +kernel
theorem dX8_letterOfFirst_18 : decode cX8_letterOfFirst 18 = .ok (.invokevirtual 40, 3) := by decide +kernel
theorem dX8_letterOfFirst_21 : decode cX8_letterOfFirst 21 = .ok (.iload_n 1, 1) := by decide +kernel
theorem dX8_letterOfFirst_22 : decode cX8_letterOfFirst 22 = .ok (.iconst (-1), 1) := by decide +kernel
theorem dX8_letterOfFirst_23 : decode cX8_letterOfFirst 23 = .ok (.ixor, 1) := by decide +kernel
theorem dX8_letterOfFirst_24 : decode cX8_letterOfFirst 24 = .ok (.iand, 1) := by decide +kernel
theorem dX8_letterOfFirst_25 : decode cX8_letterOfFirst 25 = .ok (.invokevirtual 43, 3) := by decide +kernel
theorem dX8_letterOfFirst_28 : decode cX8_letterOfFirst 28 = .ok (.istore_n 3, 1) := by decide +kernel
theorem dX8_letterOfFirst_29 : decode cX8_letterOfFirst 29 = .ok (.iinc 4 1, 3) := by decide +kernel
theorem dX8_letterOfFirst_32 : decode cX8_letterOfFirst 32 = .ok (.goto (-27), 3) := by decide +kernel
theorem dX8_letterOfFirst_35 : decode cX8_letterOfFirst 35 = .ok (.iload_n 3, 1) := by decide +kernel
theorem dX8_letterOfFirst_36 : decode cX8_letterOfFirst 36 = .ok (.ireturn, 1) := by decide +kernel
theorem dX8_firstFrom_0 : decode cX8_firstFrom 0 = .ok (.iconst 0, 1) := by decide +kernel
theorem dX8_firstFrom_1 : decode cX8_firstFrom 1 = .ok (.istore_n 3, 1) := by decide +kernel
theorem dX8_firstFrom_2 : decode cX8_firstFrom 2 = .ok (.iload_n 3, 1) := by decide +kernel
theorem dX8_firstFrom_3 : decode cX8_firstFrom 3 = .ok (.bipush 26, 2) := by decide +kernel
theorem dX8_firstFrom_5 : decode cX8_firstFrom 5 = .ok (.if_icmp .ge 36, 3) := by decide +kernel
theorem dX8_firstFrom_8 : decode cX8_firstFrom 8 = .ok (.iload_n 2, 1) := by decide +kernel
theorem dX8_firstFrom_9 : decode cX8_firstFrom 9 = .ok (.iload_n 3, 1) := by decide +kernel
theorem dX8_firstFrom_10 : decode cX8_firstFrom 10 = .ok (.ishr, 1) := by decide +kernel
theorem dX8_firstFrom_11 : decode cX8_firstFrom 11 = .ok (.iconst 1, 1) := by decide +kernel
theorem dX8_firstFrom_12 : decode cX8_firstFrom 12 = .ok (.iand, 1) := by decide +kernel
theorem dX8_firstFrom_13 : decode cX8_firstFrom 13 = .ok (.ifCond .eq 22, 3) := by decide +kernel
theorem dX8_firstFrom_16 : decode cX8_firstFrom 16 = .ok (.aload_n 0, 1) := by decide +kernel
theorem dX8_firstFrom_17 : decode cX8_firstFrom 17 = .ok (.getfield 15, 3) := by decide +kernel
theorem dX8_firstFrom_20 : decode cX8_firstFrom 20 = .ok (.iload_n 1, 1) := by decide +kernel
theorem dX8_firstFrom_21 : decode cX8_firstFrom 21 = .ok (.iconst 1, 1) := by decide +kernel
theorem dX8_firstFrom_22 : decode cX8_firstFrom 22 = .ok (.iadd, 1) := by decide +kernel
theorem dX8_firstFrom_23 : decode cX8_firstFrom 23 = .ok (.iload_n 3, 1) := by decide +kernel
theorem dX8_firstFrom_24 : decode cX8_firstFrom 24 = .ok (.invokestatic 32, 3) := by decide +kernel
theorem dX8_firstFrom_27 : decode cX8_firstFrom 27 = .ok (.laload, 1) := by decide +kernel
theorem dX8_firstFrom_28 : decode cX8_firstFrom 28 = .ok (.lconst 0, 1) := by decide +kernel
theorem dX8_firstFrom_29 : decode cX8_firstFrom 29 = .ok (.lcmp, 1) := by decide +kernel
theorem dX8_firstFrom_30 : decode cX8_firstFrom 30 = .ok (.ifCond .le 5, 3) := by decide +kernel
theorem dX8_firstFrom_33 : decode cX8_firstFrom 33 = .ok (.iload_n 3, 1) := by decide +kernel
theorem dX8_firstFrom_34 : decode cX8_firstFrom 34 = .ok (.ireturn, 1) := by decide +kernel
theorem dX8_firstFrom_35 : decode cX8_firstFrom 35 = .ok (.iinc 3 1, 3) := by decide +kernel
theorem dX8_firstFrom_38 : decode cX8_firstFrom 38 = .ok (.goto (-36), 3) := by decide +kernel
theorem dX8_firstFrom_41 : decode cX8_firstFrom 41 = .ok (.iconst (-1), 1) := by decide +kernel
theorem dX8_firstFrom_42 : decode cX8_firstFrom 42 = .ok (.ireturn, 1) := by decide +kernel
theorem dX8_placeOf_0 : decode cX8_placeOf 0 = .ok (.iload_n 0, 1) := by decide +kernel
theorem dX8_placeOf_1 : decode cX8_placeOf 1 = .ok (.bipush 27, 2) := by decide +kernel
theorem dX8_placeOf_3 : decode cX8_placeOf 3 = .ok (.imul, 1) := by decide +kernel
theorem dX8_placeOf_4 : decode cX8_placeOf 4 = .ok (.iload_n 1, 1) := by decide +kernel
theorem dX8_placeOf_5 : decode cX8_placeOf 5 = .ok (.iadd, 1) := by decide +kernel
theorem dX8_placeOf_6 : decode cX8_placeOf 6 = .ok (.iconst 1, 1) := by decide +kernel
theorem dX8_placeOf_7 : decode cX8_placeOf 7 = .ok (.iadd, 1) := by decide +kernel
theorem dX8_placeOf_8 : decode cX8_placeOf 8 = .ok (.ireturn, 1) := by decide +kernel
theorem dX8_followersOf_0 : decode cX8_followersOf 0 = .ok (.iload_n 1, 1) := by decide +kernel
theorem dX8_followersOf_1 : decode cX8_followersOf 1 = .ok (.iload_n 2, 1) := by decide +kernel
theorem dX8_followersOf_2 : decode cX8_followersOf 2 = .ok (.invokestatic 32, 3) := by decide +kernel
theorem dX8_followersOf_5 : decode cX8_followersOf 5 = .ok (.istore_n 3, 1) := by decide +kernel
theorem dX8_followersOf_6 : decode cX8_followersOf 6 = .ok (.aload_n 0, 1) := by decide +kernel
theorem dX8_followersOf_7 : decode cX8_followersOf 7 = .ok (.getfield 11, 3) := by decide +kernel
theorem dX8_followersOf_10 : decode cX8_followersOf 10 = .ok (.iload_n 3, 1) := by decide +kernel
theorem dX8_followersOf_11 : decode cX8_followersOf 11 = .ok (.iaload, 1) := by decide +kernel
theorem dX8_followersOf_12 : decode cX8_followersOf 12 = .ok (.ifCond .ge 49, 3) := by decide +kernel
theorem dX8_followersOf_15 : decode cX8_followersOf 15 = .ok (.iconst 0, 1) := by decide +kernel
theorem dX8_followersOf_16 : decode cX8_followersOf 16 = .ok (.istore 4, 2) := by decide +kernel
theorem dX8_followersOf_18 : decode cX8_followersOf 18 = .ok (.iconst 0, 1) := by decide +kernel
theorem dX8_followersOf_19 : decode cX8_followersOf 19 = .ok (.istore 5, 2) := by decide +kernel
theorem dX8_followersOf_21 : decode cX8_followersOf 21 = .ok (.iload 5, 2) := by decide +kernel
theorem dX8_followersOf_23 : decode cX8_followersOf 23 = .ok (.bipush 26, 2) := by decide +kernel
theorem dX8_followersOf_25 : decode cX8_followersOf 25 = .ok (.if_icmp .ge 28, 3) := by decide +kernel
theorem dX8_followersOf_28 : decode cX8_followersOf 28 = .ok (.iload 4, 2) := by decide +kernel
theorem dX8_followersOf_30 : decode cX8_followersOf 30 = .ok (.aload_n 0, 1) := by decide +kernel
theorem dX8_followersOf_31 : decode cX8_followersOf 31 = .ok (.getfield 19, 3) := by decide +kernel
theorem dX8_followersOf_34 : decode cX8_followersOf 34 = .ok (.iload_n 2, 1) := by decide +kernel
theorem dX8_followersOf_35 : decode cX8_followersOf 35 = .ok (.iload 5, 2) := by decide +kernel
theorem dX8_followersOf_37 : decode cX8_followersOf 37 = .ok (.iload_n 1, 1) := by decide +kernel
theorem dX8_followersOf_38 : decode cX8_followersOf 38 = .ok (.invokevirtual 46, 3) := by decide +kernel
theorem dX8_followersOf_41 : decode cX8_followersOf 41 = .ok (.iload 5, 2) := by decide +kernel
theorem dX8_followersOf_43 : decode cX8_followersOf 43 = .ok (.ishl, 1) := by decide +kernel
theorem dX8_followersOf_44 : decode cX8_followersOf 44 = .ok (.ior, 1) := by decide +kernel
theorem dX8_followersOf_45 : decode cX8_followersOf 45 = .ok (.istore 4, 2) := by decide +kernel
theorem dX8_followersOf_47 : decode cX8_followersOf 47 = .ok (.iinc 5 1, 3) := by decide +kernel
theorem dX8_followersOf_50 : decode cX8_followersOf 50 = .ok (.goto (-29), 3) := by decide +kernel
theorem dX8_followersOf_53 : decode cX8_followersOf 53 = .ok (.aload_n 0, 1) := by decide +kernel
theorem dX8_followersOf_54 : decode cX8_followersOf 54 = .ok (.getfield 11, 3) := by decide +kernel
theorem dX8_followersOf_57 : decode cX8_followersOf 57 = .ok (.iload_n 3, 1) := by decide +kernel
theorem dX8_followersOf_58 : decode cX8_followersOf 58 = .ok (.iload 4, 2) := by decide +kernel
theorem dX8_followersOf_60 : decode cX8_followersOf 60 = .ok (.iastore, 1) := by decide +kernel
theorem dX8_followersOf_61 : decode cX8_followersOf 61 = .ok (.aload_n 0, 1) := by decide +kernel
theorem dX8_followersOf_62 : decode cX8_followersOf 62 = .ok (.getfield 11, 3) := by decide +kernel
theorem dX8_followersOf_65 : decode cX8_followersOf 65 = .ok (.iload_n 3, 1) := by decide +kernel
theorem dX8_followersOf_66 : decode cX8_followersOf 66 = .ok (.iaload, 1) := by decide +kernel
theorem dX8_followersOf_67 : decode cX8_followersOf 67 = .ok (.ireturn, 1) := by decide +kernel
theorem dJ6_bitCount_0f7a4_0 : decode cJ6_bitCount_0f7a4 0 = .ok (.iload_n 0, 1) := by decide +kernel
theorem dJ6_bitCount_0f7a4_1 : decode cJ6_bitCount_0f7a4 1 = .ok (.iload_n 0, 1) := by decide +kernel
theorem dJ6_bitCount_0f7a4_2 : decode cJ6_bitCount_0f7a4 2 = .ok (.iconst 1, 1) := by decide +kernel
theorem dJ6_bitCount_0f7a4_3 : decode cJ6_bitCount_0f7a4 3 = .ok (.iushr, 1) := by decide +kernel
theorem dJ6_bitCount_0f7a4_4 : decode cJ6_bitCount_0f7a4 4 = .ok (.ldc_w 265, 3) := by decide +kernel
theorem dJ6_bitCount_0f7a4_7 : decode cJ6_bitCount_0f7a4 7 = .ok (.iand, 1) := by decide +kernel
theorem dJ6_bitCount_0f7a4_8 : decode cJ6_bitCount_0f7a4 8 = .ok (.isub, 1) := by decide +kernel
theorem dJ6_bitCount_0f7a4_9 : decode cJ6_bitCount_0f7a4 9 = .ok (.istore_n 0, 1) := by decide +kernel
theorem dJ6_bitCount_0f7a4_10 : decode cJ6_bitCount_0f7a4 10 = .ok (.iload_n 0, 1) := by decide +kernel
theorem dJ6_bitCount_0f7a4_11 : decode cJ6_bitCount_0f7a4 11 = .ok (.ldc_w 266, 3) := by decide +kernel
theorem dJ6_bitCount_0f7a4_14 : decode cJ6_bitCount_0f7a4 14 = .ok (.iand, 1) := by decide +kernel
theorem dJ6_bitCount_0f7a4_15 : decode cJ6_bitCount_0f7a4 15 = .ok (.iload_n 0, 1) := by decide +kernel
theorem dJ6_bitCount_0f7a4_16 : decode cJ6_bitCount_0f7a4 16 = .ok (.iconst 2, 1) := by decide +kernel
theorem dJ6_bitCount_0f7a4_17 : decode cJ6_bitCount_0f7a4 17 = .ok (.iushr, 1) := by decide +kernel
theorem dJ6_bitCount_0f7a4_18 : decode cJ6_bitCount_0f7a4 18 = .ok (.ldc_w 266, 3) := by decide +kernel
theorem dJ6_bitCount_0f7a4_21 : decode cJ6_bitCount_0f7a4 21 = .ok (.iand, 1) := by decide +kernel
theorem dJ6_bitCount_0f7a4_22 : decode cJ6_bitCount_0f7a4 22 = .ok (.iadd, 1) := by decide +kernel
theorem dJ6_bitCount_0f7a4_23 : decode cJ6_bitCount_0f7a4 23 = .ok (.istore_n 0, 1) := by decide +kernel
theorem dJ6_bitCount_0f7a4_24 : decode cJ6_bitCount_0f7a4 24 = .ok (.iload_n 0, 1) := by decide +kernel
theorem dJ6_bitCount_0f7a4_25 : decode cJ6_bitCount_0f7a4 25 = .ok (.iload_n 0, 1) := by decide +kernel
theorem dJ6_bitCount_0f7a4_26 : decode cJ6_bitCount_0f7a4 26 = .ok (.iconst 4, 1) := by decide +kernel
theorem dJ6_bitCount_0f7a4_27 : decode cJ6_bitCount_0f7a4 27 = .ok (.iushr, 1) := by decide +kernel
theorem dJ6_bitCount_0f7a4_28 : decode cJ6_bitCount_0f7a4 28 = .ok (.iadd, 1) := by decide +kernel
theorem dJ6_bitCount_0f7a4_29 : decode cJ6_bitCount_0f7a4 29 = .ok (.ldc_w 267, 3) := by decide +kernel
theorem dJ6_bitCount_0f7a4_32 : decode cJ6_bitCount_0f7a4 32 = .ok (.iand, 1) := by decide +kernel
theorem dJ6_bitCount_0f7a4_33 : decode cJ6_bitCount_0f7a4 33 = .ok (.istore_n 0, 1) := by decide +kernel
theorem dJ6_bitCount_0f7a4_34 : decode cJ6_bitCount_0f7a4 34 = .ok (.iload_n 0, 1) := by decide +kernel
theorem dJ6_bitCount_0f7a4_35 : decode cJ6_bitCount_0f7a4 35 = .ok (.iload_n 0, 1) := by decide +kernel
theorem dJ6_bitCount_0f7a4_36 : decode cJ6_bitCount_0f7a4 36 = .ok (.bipush 8, 2) := by decide +kernel
theorem dJ6_bitCount_0f7a4_38 : decode cJ6_bitCount_0f7a4 38 = .ok (.iushr, 1) := by decide +kernel
theorem dJ6_bitCount_0f7a4_39 : decode cJ6_bitCount_0f7a4 39 = .ok (.iadd, 1) := by decide +kernel
theorem dJ6_bitCount_0f7a4_40 : decode cJ6_bitCount_0f7a4 40 = .ok (.istore_n 0, 1) := by decide +kernel
theorem dJ6_bitCount_0f7a4_41 : decode cJ6_bitCount_0f7a4 41 = .ok (.iload_n 0, 1) := by decide +kernel
theorem dJ6_bitCount_0f7a4_42 : decode cJ6_bitCount_0f7a4 42 = .ok (.iload_n 0, 1) := by decide +kernel
theorem dJ6_bitCount_0f7a4_43 : decode cJ6_bitCount_0f7a4 43 = .ok (.bipush 16, 2) := by decide +kernel
theorem dJ6_bitCount_0f7a4_45 : decode cJ6_bitCount_0f7a4 45 = .ok (.iushr, 1) := by decide +kernel
theorem dJ6_bitCount_0f7a4_46 : decode cJ6_bitCount_0f7a4 46 = .ok (.iadd, 1) := by decide +kernel
theorem dJ6_bitCount_0f7a4_47 : decode cJ6_bitCount_0f7a4 47 = .ok (.istore_n 0, 1) := by decide +kernel
theorem dJ6_bitCount_0f7a4_48 : decode cJ6_bitCount_0f7a4 48 = .ok (.iload_n 0, 1) := by decide +kernel
theorem dJ6_bitCount_0f7a4_49 : decode cJ6_bitCount_0f7a4 49 = .ok (.bipush 63, 2) := by decide +kernel
theorem dJ6_bitCount_0f7a4_51 : decode cJ6_bitCount_0f7a4 51 = .ok (.iand, 1) := by decide +kernel
theorem dJ6_bitCount_0f7a4_52 : decode cJ6_bitCount_0f7a4 52 = .ok (.ireturn, 1) := by decide +kernel
theorem dJ9_max_7cf53_0 : decode cJ9_max_7cf53 0 = .ok (.iload_n 0, 1) := by decide +kernel
theorem dJ9_max_7cf53_1 : decode cJ9_max_7cf53 1 = .ok (.iload_n 1, 1) := by decide +kernel
theorem dJ9_max_7cf53_2 : decode cJ9_max_7cf53 2 = .ok (.if_icmp .lt 7, 3) := by decide +kernel
theorem dJ9_max_7cf53_5 : decode cJ9_max_7cf53 5 = .ok (.iload_n 0, 1) := by decide +kernel
theorem dJ9_max_7cf53_6 : decode cJ9_max_7cf53 6 = .ok (.goto 4, 3) := by decide +kernel
theorem dJ9_max_7cf53_9 : decode cJ9_max_7cf53 9 = .ok (.iload_n 1, 1) := by decide +kernel
theorem dJ9_max_7cf53_10 : decode cJ9_max_7cf53 10 = .ok (.ireturn, 1) := by decide +kernel
theorem dJ9_min_7cf53_0 : decode cJ9_min_7cf53 0 = .ok (.iload_n 0, 1) := by decide +kernel
theorem dJ9_min_7cf53_1 : decode cJ9_min_7cf53 1 = .ok (.iload_n 1, 1) := by decide +kernel
theorem dJ9_min_7cf53_2 : decode cJ9_min_7cf53 2 = .ok (.if_icmp .gt 7, 3) := by decide +kernel
theorem dJ9_min_7cf53_5 : decode cJ9_min_7cf53 5 = .ok (.iload_n 0, 1) := by decide +kernel
theorem dJ9_min_7cf53_6 : decode cJ9_min_7cf53 6 = .ok (.goto 4, 3) := by decide +kernel
theorem dJ9_min_7cf53_9 : decode cJ9_min_7cf53 9 = .ok (.iload_n 1, 1) := by decide +kernel
theorem dJ9_min_7cf53_10 : decode cJ9_min_7cf53 10 = .ok (.ireturn, 1) := by decide +kernel
theorem dJ7_fill_d0a16_0 : decode cJ7_fill_d0a16 0 = .ok (.iconst 0, 1) := by decide +kernel
theorem dJ7_fill_d0a16_1 : decode cJ7_fill_d0a16 1 = .ok (.istore_n 3, 1) := by decide +kernel
theorem dJ7_fill_d0a16_2 : decode cJ7_fill_d0a16 2 = .ok (.aload_n 0, 1) := by decide +kernel
theorem dJ7_fill_d0a16_3 : decode cJ7_fill_d0a16 3 = .ok (.arraylength, 1) := by decide +kernel
theorem dJ7_fill_d0a16_4 : decode cJ7_fill_d0a16 4 = .ok (.istore 4, 2) := by decide +kernel
theorem dJ7_fill_d0a16_6 : decode cJ7_fill_d0a16 6 = .ok (.iload_n 3, 1) := by decide +kernel
theorem dJ7_fill_d0a16_7 : decode cJ7_fill_d0a16 7 = .ok (.iload 4, 2) := by decide +kernel
theorem dJ7_fill_d0a16_9 : decode cJ7_fill_d0a16 9 = .ok (.if_icmp .ge 13, 3) := by decide +kernel
theorem dJ7_fill_d0a16_12 : decode cJ7_fill_d0a16 12 = .ok (.aload_n 0, 1) := by decide +kernel
theorem dJ7_fill_d0a16_13 : decode cJ7_fill_d0a16 13 = .ok (.iload_n 3, 1) := by decide +kernel
theorem dJ7_fill_d0a16_14 : decode cJ7_fill_d0a16 14 = .ok (.lload_n 1, 1) := by decide +kernel
theorem dJ7_fill_d0a16_15 : decode cJ7_fill_d0a16 15 = .ok (.lastore, 1) := by decide +kernel
theorem dJ7_fill_d0a16_16 : decode cJ7_fill_d0a16 16 = .ok (.iinc 3 1, 3) := by decide +kernel
theorem dJ7_fill_d0a16_19 : decode cJ7_fill_d0a16 19 = .ok (.goto (-13), 3) := by decide +kernel
theorem dJ7_fill_d0a16_22 : decode cJ7_fill_d0a16 22 = .ok (.return_, 1) := by decide +kernel
theorem dJ7_fill_53178_0 : decode cJ7_fill_53178 0 = .ok (.iconst 0, 1) := by decide +kernel
theorem dJ7_fill_53178_1 : decode cJ7_fill_53178 1 = .ok (.istore_n 2, 1) := by decide +kernel
theorem dJ7_fill_53178_2 : decode cJ7_fill_53178 2 = .ok (.aload_n 0, 1) := by decide +kernel
theorem dJ7_fill_53178_3 : decode cJ7_fill_53178 3 = .ok (.arraylength, 1) := by decide +kernel
theorem dJ7_fill_53178_4 : decode cJ7_fill_53178 4 = .ok (.istore_n 3, 1) := by decide +kernel
theorem dJ7_fill_53178_5 : decode cJ7_fill_53178 5 = .ok (.iload_n 2, 1) := by decide +kernel
theorem dJ7_fill_53178_6 : decode cJ7_fill_53178 6 = .ok (.iload_n 3, 1) := by decide +kernel
theorem dJ7_fill_53178_7 : decode cJ7_fill_53178 7 = .ok (.if_icmp .ge 13, 3) := by decide +kernel
theorem dJ7_fill_53178_10 : decode cJ7_fill_53178 10 = .ok (.aload_n 0, 1) := by decide +kernel
theorem dJ7_fill_53178_11 : decode cJ7_fill_53178 11 = .ok (.iload_n 2, 1) := by decide +kernel
theorem dJ7_fill_53178_12 : decode cJ7_fill_53178 12 = .ok (.iload_n 1, 1) := by decide +kernel
theorem dJ7_fill_53178_13 : decode cJ7_fill_53178 13 = .ok (.iastore, 1) := by decide +kernel
theorem dJ7_fill_53178_14 : decode cJ7_fill_53178 14 = .ok (.iinc 2 1, 3) := by decide +kernel
theorem dJ7_fill_53178_17 : decode cJ7_fill_53178 17 = .ok (.goto (-12), 3) := by decide +kernel
theorem dJ7_fill_53178_20 : decode cJ7_fill_53178 20 = .ok (.return_, 1) := by decide +kernel
