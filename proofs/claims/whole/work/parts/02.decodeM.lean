theorem dX10_init_0 : decode cX10_init 0 = .ok (.aload_n 0, 1) := by decide +kernel
theorem dX10_init_1 : decode cX10_init 1 = .ok (.invokespecial 3, 3) := by decide +kernel
theorem dX10_init_4 : decode cX10_init 4 = .ok (.aload_n 0, 1) := by decide +kernel
theorem dX10_init_5 : decode cX10_init 5 = .ok (.sipush 372, 3) := by decide +kernel
theorem dX10_init_8 : decode cX10_init 8 = .ok (.newarray .int, 2) := by decide +kernel
theorem dX10_init_10 : decode cX10_init 10 = .ok (.putfield 9, 3) := by decide +kernel
theorem dX10_init_13 : decode cX10_init 13 = .ok (.aload_n 0, 1) := by decide +kernel
theorem dX10_init_14 : decode cX10_init 14 = .ok (.sipush 372, 3) := by decide +kernel
theorem dX10_init_17 : decode cX10_init 17 = .ok (.newarray .int, 2) := by decide +kernel
theorem dX10_init_19 : decode cX10_init 19 = .ok (.putfield 13, 3) := by decide +kernel
theorem dX10_init_22 : decode cX10_init 22 = .ok (.aload_n 0, 1) := by decide +kernel
theorem dX10_init_23 : decode cX10_init 23 = .ok (.bipush 6, 2) := by decide +kernel
theorem dX10_init_25 : decode cX10_init 25 = .ok (.newarray .int, 2) := by decide +kernel
theorem dX10_init_27 : decode cX10_init 27 = .ok (.putfield 16, 3) := by decide +kernel
theorem dX10_init_30 : decode cX10_init 30 = .ok (.aload_n 0, 1) := by decide +kernel
theorem dX10_init_31 : decode cX10_init 31 = .ok (.bipush 51, 2) := by decide +kernel
theorem dX10_init_33 : decode cX10_init 33 = .ok (.newarray .int, 2) := by decide +kernel
theorem dX10_init_35 : decode cX10_init 35 = .ok (.putfield 19, 3) := by decide +kernel
theorem dX10_init_38 : decode cX10_init 38 = .ok (.aload_n 0, 1) := by decide +kernel
theorem dX10_init_39 : decode cX10_init 39 = .ok (.bipush 51, 2) := by decide +kernel
theorem dX10_init_41 : decode cX10_init 41 = .ok (.newarray .int, 2) := by decide +kernel
theorem dX10_init_43 : decode cX10_init 43 = .ok (.putfield 22, 3) := by decide +kernel
theorem dX10_init_46 : decode cX10_init 46 = .ok (.aload_n 0, 1) := by decide +kernel
theorem dX10_init_47 : decode cX10_init 47 = .ok (.bipush 10, 2) := by decide +kernel
theorem dX10_init_49 : decode cX10_init 49 = .ok (.newarray .int, 2) := by decide +kernel
theorem dX10_init_51 : decode cX10_init 51 = .ok (.putfield 25, 3) := by decide +kernel
theorem dX10_init_54 : decode cX10_init 54 = .ok (.aload_n 0, 1) := by decide +kernel
theorem dX10_init_55 : decode cX10_init 55 = .ok (.iconst 4, 1) := by decide +kernel
theorem dX10_init_56 : decode cX10_init 56 = .ok (.newarray .int, 2) := by decide +kernel
theorem dX10_init_58 : decode cX10_init 58 = .ok (.putfield 28, 3) := by decide +kernel
theorem dX10_init_61 : decode cX10_init 61 = .ok (.aload_n 0, 1) := by decide +kernel
theorem dX10_init_62 : decode cX10_init 62 = .ok (.sipush 182, 3) := by decide +kernel
theorem dX10_init_65 : decode cX10_init 65 = .ok (.newarray .long, 2) := by decide +kernel
theorem dX10_init_67 : decode cX10_init 67 = .ok (.putfield 31, 3) := by decide +kernel
theorem dX10_init_70 : decode cX10_init 70 = .ok (.aload_n 0, 1) := by decide +kernel
theorem dX10_init_71 : decode cX10_init 71 = .ok (.bipush 40, 2) := by decide +kernel
theorem dX10_init_73 : decode cX10_init 73 = .ok (.newarray .int, 2) := by decide +kernel
theorem dX10_init_75 : decode cX10_init 75 = .ok (.putfield 35, 3) := by decide +kernel
theorem dX10_init_78 : decode cX10_init 78 = .ok (.aload_n 0, 1) := by decide +kernel
theorem dX10_init_79 : decode cX10_init 79 = .ok (.iconst 4, 1) := by decide +kernel
theorem dX10_init_80 : decode cX10_init 80 = .ok (.newarray .int, 2) := by decide +kernel
theorem dX10_init_82 : decode cX10_init 82 = .ok (.putfield 38, 3) := by decide +kernel
theorem dX10_init_85 : decode cX10_init 85 = .ok (.aload_n 0, 1) := by decide +kernel
theorem dX10_init_86 : decode cX10_init 86 = .ok (.iconst 4, 1) := by decide +kernel
theorem dX10_init_87 : decode cX10_init 87 = .ok (.newarray .int, 2) := by decide +kernel
theorem dX10_init_89 : decode cX10_init 89 = .ok (.putfield 41, 3) := by decide +kernel
theorem dX10_init_92 : decode cX10_init 92 = .ok (.aload_n 0, 1) := by decide +kernel
theorem dX10_init_93 : decode cX10_init 93 = .ok (.sipush 160, 3) := by decide +kernel
theorem dX10_init_96 : decode cX10_init 96 = .ok (.newarray .int, 2) := by decide +kernel
theorem dX10_init_98 : decode cX10_init 98 = .ok (.putfield 44, 3) := by decide +kernel
theorem dX10_init_101 : decode cX10_init 101 = .ok (.aload_n 0, 1) := by decide +kernel
theorem dX10_init_102 : decode cX10_init 102 = .ok (.getfield 9, 3) := by decide +kernel
theorem dX10_init_105 : decode cX10_init 105 = .ok (.iconst 3, 1) := by decide +kernel
theorem dX10_init_106 : decode cX10_init 106 = .ok (.iconst 1, 1) := by decide +kernel
theorem dX10_init_107 : decode cX10_init 107 = .ok (.iastore, 1) := by decide +kernel
theorem dX10_init_108 : decode cX10_init 108 = .ok (.return_, 1) := by decide +kernel
theorem dX10_fails_0 : decode cX10_fails 0 = .ok (.aload_n 0, 1) := by decide +kernel
theorem dX10_fails_1 : decode cX10_fails 1 = .ok (.getfield 16, 3) := by decide +kernel
theorem dX10_fails_4 : decode cX10_fails 4 = .ok (.ldc 47, 2) := by decide +kernel
theorem dX10_fails_6 : decode cX10_fails 6 = .ok (.iload_n 1, 1) := by decide +kernel
theorem dX10_fails_7 : decode cX10_fails 7 = .ok (.isub, 1) := by decide +kernel
theorem dX10_fails_8 : decode cX10_fails 8 = .ok (.dup2, 1) := by decide +kernel
theorem dX10_fails_9 : decode cX10_fails 9 = .ok (.iaload, 1) := by decide +kernel
theorem dX10_fails_10 : decode cX10_fails 10 = .ok (.iconst 1, 1) := by decide +kernel
theorem dX10_fails_11 : decode cX10_fails 11 = .ok (.iadd, 1) := by decide +kernel
theorem dX10_fails_12 : decode cX10_fails 12 = .ok (.iastore, 1) := by decide +kernel
theorem dX10_fails_13 : decode cX10_fails 13 = .ok (.iload_n 1, 1) := by decide +kernel
theorem dX10_fails_14 : decode cX10_fails 14 = .ok (.ireturn, 1) := by decide +kernel
theorem dX10_in_0 : decode cX10_in 0 = .ok (.lload_n 0, 1) := by decide +kernel
theorem dX10_in_1 : decode cX10_in 1 = .ok (.lload_n 2, 1) := by decide +kernel
theorem dX10_in_2 : decode cX10_in 2 = .ok (.lcmp, 1) := by decide +kernel
theorem dX10_in_3 : decode cX10_in 3 = .ok (.ifCond .lt 14, 3) := by decide +kernel
theorem dX10_in_6 : decode cX10_in 6 = .ok (.lload_n 0, 1) := by decide +kernel
theorem dX10_in_7 : decode cX10_in 7 = .ok (.lload 4, 2) := by decide +kernel
theorem dX10_in_9 : decode cX10_in 9 = .ok (.lcmp, 1) := by decide +kernel
theorem dX10_in_10 : decode cX10_in 10 = .ok (.ifCond .gt 7, 3) := by decide +kernel
theorem dX10_in_13 : decode cX10_in 13 = .ok (.iconst 1, 1) := by decide +kernel
theorem dX10_in_14 : decode cX10_in 14 = .ok (.goto 4, 3) := by decide +kernel
theorem dX10_in_17 : decode cX10_in 17 = .ok (.iconst 0, 1) := by decide +kernel
theorem dX10_in_18 : decode cX10_in 18 = .ok (.ireturn, 1) := by decide +kernel
theorem dX10_has_0 : decode cX10_has 0 = .ok (.iload_n 0, 1) := by decide +kernel
theorem dX10_has_1 : decode cX10_has 1 = .ok (.iload_n 1, 1) := by decide +kernel
theorem dX10_has_2 : decode cX10_has 2 = .ok (.ishr, 1) := by decide +kernel
theorem dX10_has_3 : decode cX10_has 3 = .ok (.iconst 1, 1) := by decide +kernel
theorem dX10_has_4 : decode cX10_has 4 = .ok (.iand, 1) := by decide +kernel
theorem dX10_has_5 : decode cX10_has 5 = .ok (.iconst 1, 1) := by decide +kernel
theorem dX10_has_6 : decode cX10_has 6 = .ok (.if_icmp .ne 7, 3) := by decide +kernel
theorem dX10_has_9 : decode cX10_has 9 = .ok (.iconst 1, 1) := by decide +kernel
theorem dX10_has_10 : decode cX10_has 10 = .ok (.goto 4, 3) := by decide +kernel
theorem dX10_has_13 : decode cX10_has 13 = .ok (.iconst 0, 1) := by decide +kernel
theorem dX10_has_14 : decode cX10_has 14 = .ok (.ireturn, 1) := by decide +kernel
theorem dX10_many_0 : decode cX10_many 0 = .ok (.iconst 0, 1) := by decide +kernel
theorem dX10_many_1 : decode cX10_many 1 = .ok (.istore_n 1, 1) := by decide +kernel
theorem dX10_many_2 : decode cX10_many 2 = .ok (.iconst 0, 1) := by decide +kernel
theorem dX10_many_3 : decode cX10_many 3 = .ok (.istore_n 2, 1) := by decide +kernel
theorem dX10_many_4 : decode cX10_many 4 = .ok (.iload_n 2, 1) := by decide +kernel
theorem dX10_many_5 : decode cX10_many 5 = .ok (.bipush 26, 2) := by decide +kernel
theorem dX10_many_7 : decode cX10_many 7 = .ok (.if_icmp .ge 17, 3) := by decide +kernel
theorem dX10_many_10 : decode cX10_many 10 = .ok (.iload_n 1, 1) := by decide +kernel
theorem dX10_many_11 : decode cX10_many 11 = .ok (.iload_n 0, 1) := by decide +kernel
theorem dX10_many_12 : decode cX10_many 12 = .ok (.iload_n 2, 1) := by decide +kernel
theorem dX10_many_13 : decode cX10_many 13 = .ok (.ishr, 1) := by decide +kernel
theorem dX10_many_14 : decode cX10_many 14 = .ok (.iconst 1, 1) := by decide +kernel
theorem dX10_many_15 : decode cX10_many 15 = .ok (.iand, 1) := by decide +kernel
theorem dX10_many_16 : decode cX10_many 16 = .ok (.iadd, 1) := by decide +kernel
theorem dX10_many_17 : decode cX10_many 17 = .ok (.istore_n 1, 1) := by decide +kernel
theorem dX10_many_18 : decode cX10_many 18 = .ok (.iinc 2 1, 3) := by decide +kernel
theorem dX10_many_21 : decode cX10_many 21 = .ok (.goto (-17), 3) := by decide +kernel
theorem dX10_many_24 : decode cX10_many 24 = .ok (.iload_n 1, 1) := by decide +kernel
theorem dX10_many_25 : decode cX10_many 25 = .ok (.ireturn, 1) := by decide +kernel
theorem dX10_becomes_0 : decode cX10_becomes 0 = .ok (.aload_n 0, 1) := by decide +kernel
theorem dX10_becomes_1 : decode cX10_becomes 1 = .ok (.getfield 9, 3) := by decide +kernel
theorem dX10_becomes_4 : decode cX10_becomes 4 = .ok (.iload_n 1, 1) := by decide +kernel
theorem dX10_becomes_5 : decode cX10_becomes 5 = .ok (.iaload, 1) := by decide +kernel
theorem dX10_becomes_6 : decode cX10_becomes 6 = .ok (.istore_n 3, 1) := by decide +kernel
theorem dX10_becomes_7 : decode cX10_becomes 7 = .ok (.aload_n 0, 1) := by decide +kernel
theorem dX10_becomes_8 : decode cX10_becomes 8 = .ok (.getfield 9, 3) := by decide +kernel
theorem dX10_becomes_11 : decode cX10_becomes 11 = .ok (.iload_n 1, 1) := by decide +kernel
theorem dX10_becomes_12 : decode cX10_becomes 12 = .ok (.iload_n 2, 1) := by decide +kernel
theorem dX10_becomes_13 : decode cX10_becomes 13 = .ok (.iastore, 1) := by decide +kernel
theorem dX10_becomes_14 : decode cX10_becomes 14 = .ok (.iload_n 3, 1) := by decide +kernel
theorem dX10_becomes_15 : decode cX10_becomes 15 = .ok (.ireturn, 1) := by decide +kernel
theorem dX10_isName_0 : decode cX10_isName 0 = .ok (.iload_n 1, 1) := by decide +kernel
theorem dX10_isName_1 : decode cX10_isName 1 = .ok (.i2l, 1) := by decide +kernel
theorem dX10_isName_2 : decode cX10_isName 2 = .ok (.lconst 0, 1) := by decide +kernel
theorem dX10_isName_3 : decode cX10_isName 3 = .ok (.aload_n 0, 1) := by decide +kernel
theorem dX10_isName_4 : decode cX10_isName 4 = .ok (.getfield 9, 3) := by decide +kernel
theorem dX10_isName_7 : decode cX10_isName 7 = .ok (.iconst 0, 1) := by decide +kernel
theorem dX10_isName_8 : decode cX10_isName 8 = .ok (.iaload, 1) := by decide +kernel
theorem dX10_isName_9 : decode cX10_isName 9 = .ok (.iconst 1, 1) := by decide +kernel
theorem dX10_isName_10 : decode cX10_isName 10 = .ok (.isub, 1) := by decide +kernel
theorem dX10_isName_11 : decode cX10_isName 11 = .ok (.i2l, 1) := by decide +kernel
theorem dX10_isName_12 : decode cX10_isName 12 = .ok (.invokestatic 48, 3) := by decide +kernel
theorem dX10_isName_15 : decode cX10_isName 15 = .ok (.ireturn, 1) := by decide +kernel
theorem dX10_ofIt_0 : decode cX10_ofIt 0 = .ok (.aload_n 0, 1) := by decide +kernel
theorem dX10_ofIt_1 : decode cX10_ofIt 1 = .ok (.getfield 9, 3) := by decide +kernel
theorem dX10_ofIt_4 : decode cX10_ofIt 4 = .ok (.bipush 6, 2) := by decide +kernel
theorem dX10_ofIt_6 : decode cX10_ofIt 6 = .ok (.bipush 11, 2) := by decide +kernel
theorem dX10_ofIt_8 : decode cX10_ofIt 8 = .ok (.iload_n 1, 1) := by decide +kernel
theorem dX10_ofIt_9 : decode cX10_ofIt 9 = .ok (.imul, 1) := by decide +kernel
theorem dX10_ofIt_10 : decode cX10_ofIt 10 = .ok (.iadd, 1) := by decide +kernel
theorem dX10_ofIt_11 : decode cX10_ofIt 11 = .ok (.iload_n 2, 1) := by decide +kernel
theorem dX10_ofIt_12 : decode cX10_ofIt 12 = .ok (.iadd, 1) := by decide +kernel
theorem dX10_ofIt_13 : decode cX10_ofIt 13 = .ok (.iaload, 1) := by decide +kernel
theorem dX10_ofIt_14 : decode cX10_ofIt 14 = .ok (.ireturn, 1) := by decide +kernel
theorem dX10_soundOf_0 : decode cX10_soundOf 0 = .ok (.aload_n 0, 1) := by decide +kernel
theorem dX10_soundOf_1 : decode cX10_soundOf 1 = .ok (.iload_n 1, 1) := by decide +kernel
theorem dX10_soundOf_2 : decode cX10_soundOf 2 = .ok (.iconst 0, 1) := by decide +kernel
theorem dX10_soundOf_3 : decode cX10_soundOf 3 = .ok (.invokevirtual 52, 3) := by decide +kernel
theorem dX10_soundOf_6 : decode cX10_soundOf 6 = .ok (.ireturn, 1) := by decide +kernel
theorem dX10_longOf_0 : decode cX10_longOf 0 = .ok (.aload_n 0, 1) := by decide +kernel
theorem dX10_longOf_1 : decode cX10_longOf 1 = .ok (.iload_n 1, 1) := by decide +kernel
theorem dX10_longOf_2 : decode cX10_longOf 2 = .ok (.iconst 1, 1) := by decide +kernel
theorem dX10_longOf_3 : decode cX10_longOf 3 = .ok (.invokevirtual 52, 3) := by decide +kernel
theorem dX10_longOf_6 : decode cX10_longOf 6 = .ok (.ireturn, 1) := by decide +kernel
theorem dX10_setOf_0 : decode cX10_setOf 0 = .ok (.iload_n 1, 1) := by decide +kernel
theorem dX10_setOf_1 : decode cX10_setOf 1 = .ok (.ifCond .ge 7, 3) := by decide +kernel
theorem dX10_setOf_4 : decode cX10_setOf 4 = .ok (.iconst 0, 1) := by decide +kernel
theorem dX10_setOf_5 : decode cX10_setOf 5 = .ok (.goto 9, 3) := by decide +kernel
theorem dX10_setOf_8 : decode cX10_setOf 8 = .ok (.aload_n 0, 1) := by decide +kernel
theorem dX10_setOf_9 : decode cX10_setOf 9 = .ok (.iload_n 1, 1) := by decide +kernel
theorem dX10_setOf_10 : decode cX10_setOf 10 = .ok (.iconst 2, 1) := by decide +kernel
theorem dX10_setOf_11 : decode cX10_setOf 11 = .ok (.invokevirtual 52, 3) := by decide +kernel
theorem dX10_setOf_14 : decode cX10_setOf 14 = .ok (.ireturn, 1) := by decide +kernel
theorem dX10_clashes_0 : decode cX10_clashes 0 = .ok (.aload_n 0, 1) := by decide +kernel
theorem dX10_clashes_1 : decode cX10_clashes 1 = .ok (.iload_n 1, 1) := by decide +kernel
theorem dX10_clashes_2 : decode cX10_clashes 2 = .ok (.invokevirtual 56, 3) := by decide +kernel
theorem dX10_clashes_5 : decode cX10_clashes 5 = .ok (.aload_n 0, 1) := by decide +kernel
theorem dX10_clashes_6 : decode cX10_clashes 6 = .ok (.iload_n 2, 1) := by decide +kernel
theorem dX10_clashes_7 : decode cX10_clashes 7 = .ok (.invokevirtual 56, 3) := by decide +kernel
theorem dX10_clashes_10 : decode cX10_clashes 10 = .ok (.iand, 1) := by decide +kernel
theorem dX10_clashes_11 : decode cX10_clashes 11 = .ok (.ifCond .eq 7, 3) := by decide +kernel
theorem dX10_clashes_14 : decode cX10_clashes 14 = .ok (.iconst 1, 1) := by decide +kernel
theorem dX10_clashes_15 : decode cX10_clashes 15 = .ok (.goto 4, 3) := by decide +kernel
theorem dX10_clashes_18 : decode cX10_clashes 18 = .ok (.iconst 0, 1) := by decide +kernel
theorem dX10_clashes_19 : decode cX10_clashes 19 = .ok (.ireturn, 1) := by decide +kernel
theorem dX10_isStruck_0 : decode cX10_isStruck 0 = .ok (.aload_n 0, 1) := by decide +kernel
theorem dX10_isStruck_1 : decode cX10_isStruck 1 = .ok (.iload_n 1, 1) := by decide +kernel
theorem dX10_isStruck_2 : decode cX10_isStruck 2 = .ok (.invokevirtual 56, 3) := by decide +kernel
theorem dX10_isStruck_5 : decode cX10_isStruck 5 = .ok (.aload_n 0, 1) := by decide +kernel
theorem dX10_isStruck_6 : decode cX10_isStruck 6 = .ok (.getfield 9, 3) := by decide +kernel
theorem dX10_isStruck_9 : decode cX10_isStruck 9 = .ok (.iconst 2, 1) := by decide +kernel
theorem dX10_isStruck_10 : decode cX10_isStruck 10 = .ok (.iaload, 1) := by decide +kernel
theorem dX10_isStruck_11 : decode cX10_isStruck 11 = .ok (.iand, 1) := by decide +kernel
theorem dX10_isStruck_12 : decode cX10_isStruck 12 = .ok (.ifCond .eq 7, 3) := by decide +kernel
theorem dX10_isStruck_15 : decode cX10_isStruck 15 = .ok (.iconst 1, 1) := by decide +kernel
theorem dX10_isStruck_16 : decode cX10_isStruck 16 = .ok (.goto 4, 3) := by decide +kernel
theorem dX10_isStruck_19 : decode cX10_isStruck 19 = .ok (.iconst 0, 1) := by decide +kernel
theorem dX10_isStruck_20 : decode cX10_isStruck 20 = .ok (.ireturn, 1) := by decide +kernel
theorem dX10_feed_0 : decode cX10_feed 0 = .ok (.iload_n 3, 1) := by decide +kernel
theorem dX10_feed_1 : decode cX10_feed 1 = .ok (.i2l, 1) := by decide +kernel
theorem dX10_feed_2 : decode cX10_feed 2 = .ok (.lconst 1, 1) := by decide +kernel
theorem dX10_feed_3 : decode cX10_feed 3 = .ok (.ldc2_w 60, 3) := by decide +kernel
theorem dX10_feed_6 : decode cX10_feed 6 = .ok (.invokestatic 48, 3) := by decide +kernel
theorem dX10_feed_9 : decode cX10_feed 9 = .ok (.ifCond .ne 10, 3) := by decide +kernel
theorem dX10_feed_12 : decode cX10_feed 12 = .ok (.aload_n 0, 1) := by decide +kernel
theorem dX10_feed_13 : decode cX10_feed 13 = .ok (.ldc 62, 2) := by decide +kernel
theorem dX10_feed_15 : decode cX10_feed 15 = .ok (.invokevirtual 63, 3) := by decide +kernel
theorem dX10_feed_18 : decode cX10_feed 18 = .ok (.ireturn, 1) := by decide +kernel
theorem dX10_feed_19 : decode cX10_feed 19 = .ok (.aload_n 0, 1) := by decide +kernel
theorem dX10_feed_20 : decode cX10_feed 20 = .ok (.getfield 9, 3) := by decide +kernel
theorem dX10_feed_23 : decode cX10_feed 23 = .ok (.iconst 4, 1) := by decide +kernel
theorem dX10_feed_24 : decode cX10_feed 24 = .ok (.iaload, 1) := by decide +kernel
theorem dX10_feed_25 : decode cX10_feed 25 = .ok (.iload_n 3, 1) := by decide +kernel
theorem dX10_feed_26 : decode cX10_feed 26 = .ok (.iadd, 1) := by decide +kernel
theorem dX10_feed_27 : decode cX10_feed 27 = .ok (.bipush 50, 2) := by decide +kernel
theorem dX10_feed_29 : decode cX10_feed 29 = .ok (.if_icmp .le 10, 3) := by decide +kernel
theorem dX10_feed_32 : decode cX10_feed 32 = .ok (.aload_n 0, 1) := by decide +kernel
theorem dX10_feed_33 : decode cX10_feed 33 = .ok (.ldc 66, 2) := by decide +kernel
theorem dX10_feed_35 : decode cX10_feed 35 = .ok (.invokevirtual 63, 3) := by decide +kernel
theorem dX10_feed_38 : decode cX10_feed 38 = .ok (.ireturn, 1) := by decide +kernel
theorem dX10_feed_39 : decode cX10_feed 39 = .ok (.iconst 0, 1) := by decide +kernel
theorem dX10_feed_40 : decode cX10_feed 40 = .ok (.istore 4, 2) := by decide +kernel
theorem dX10_feed_42 : decode cX10_feed 42 = .ok (.iload 4, 2) := by decide +kernel
theorem dX10_feed_44 : decode cX10_feed 44 = .ok (.iload_n 3, 1) := by decide +kernel
theorem dX10_feed_45 : decode cX10_feed 45 = .ok (.if_icmp .ge 46, 3) := by decide +kernel
theorem dX10_feed_48 : decode cX10_feed 48 = .ok (.aload_n 0, 1) := by decide +kernel
theorem dX10_feed_49 : decode cX10_feed 49 = .ok (.getfield 9, 3) := by decide +kernel
theorem dX10_feed_52 : decode cX10_feed 52 = .ok (.sipush 200, 3) := by decide +kernel
theorem dX10_feed_55 : decode cX10_feed 55 = .ok (.aload_n 0, 1) := by decide +kernel
theorem dX10_feed_56 : decode cX10_feed 56 = .ok (.getfield 9, 3) := by decide +kernel
theorem dX10_feed_59 : decode cX10_feed 59 = .ok (.iconst 4, 1) := by decide +kernel
theorem dX10_feed_60 : decode cX10_feed 60 = .ok (.iaload, 1) := by decide +kernel
theorem dX10_feed_61 : decode cX10_feed 61 = .ok (.iadd, 1) := by decide +kernel
theorem dX10_feed_62 : decode cX10_feed 62 = .ok (.lload_n 1, 1) := by decide +kernel
theorem dX10_feed_63 : decode cX10_feed 63 = .ok (.bipush 8, 2) := by decide +kernel
theorem dX10_feed_65 : decode cX10_feed 65 = .ok (.iload 4, 2) := by decide +kernel
theorem dX10_feed_67 : decode cX10_feed 67 = .ok (.imul, 1) := by decide +kernel
theorem dX10_feed_68 : decode cX10_feed 68 = .ok (.lshr, 1) := by decide +kernel
theorem dX10_feed_69 : decode cX10_feed 69 = .ok (.ldc2_w 67, 3) := by decide +kernel
theorem dX10_feed_72 : decode cX10_feed 72 = .ok (.land, 1) := by decide +kernel
theorem dX10_feed_73 : decode cX10_feed 73 = .ok (.l2i, 1) := by decide +kernel
theorem dX10_feed_74 : decode cX10_feed 74 = .ok (.iastore, 1) := by decide +kernel
theorem dX10_feed_75 : decode cX10_feed 75 = .ok (.aload_n 0, 1) := by decide +kernel
theorem dX10_feed_76 : decode cX10_feed 76 = .ok (.getfield 9, 3) := by decide +kernel
theorem dX10_feed_79 : decode cX10_feed 79 = .ok (.iconst 4, 1) := by decide +kernel
theorem dX10_feed_80 : decode cX10_feed 80 = .ok (.dup2, 1) := by decide +kernel
theorem dX10_feed_81 : decode cX10_feed 81 = .ok (.iaload, 1) := by decide +kernel
theorem dX10_feed_82 : decode cX10_feed 82 = .ok (.iconst 1, 1) := by decide +kernel
theorem dX10_feed_83 : decode cX10_feed 83 = .ok (.iadd, 1) := by decide +kernel
theorem dX10_feed_84 : decode cX10_feed 84 = .ok (.iastore, 1) := by decide +kernel
theorem dX10_feed_85 : decode cX10_feed 85 = .ok (.iinc 4 1, 3) := by decide +kernel
theorem dX10_feed_88 : decode cX10_feed 88 = .ok (.goto (-46), 3) := by decide +kernel
theorem dX10_feed_91 : decode cX10_feed 91 = .ok (.aload_n 0, 1) := by decide +kernel
theorem dX10_feed_92 : decode cX10_feed 92 = .ok (.getfield 9, 3) := by decide +kernel
theorem dX10_feed_95 : decode cX10_feed 95 = .ok (.iconst 4, 1) := by decide +kernel
theorem dX10_feed_96 : decode cX10_feed 96 = .ok (.iaload, 1) := by decide +kernel
theorem dX10_feed_97 : decode cX10_feed 97 = .ok (.ireturn, 1) := by decide +kernel
theorem dX10_byteAt_0 : decode cX10_byteAt 0 = .ok (.iload_n 1, 1) := by decide +kernel
theorem dX10_byteAt_1 : decode cX10_byteAt 1 = .ok (.aload_n 0, 1) := by decide +kernel
theorem dX10_byteAt_2 : decode cX10_byteAt 2 = .ok (.getfield 9, 3) := by decide +kernel
theorem dX10_byteAt_5 : decode cX10_byteAt 5 = .ok (.iconst 4, 1) := by decide +kernel
theorem dX10_byteAt_6 : decode cX10_byteAt 6 = .ok (.iaload, 1) := by decide +kernel
theorem dX10_byteAt_7 : decode cX10_byteAt 7 = .ok (.if_icmp .ge 16, 3) := by decide +kernel
theorem dX10_byteAt_10 : decode cX10_byteAt 10 = .ok (.aload_n 0, 1) := by decide +kernel
theorem dX10_byteAt_11 : decode cX10_byteAt 11 = .ok (.getfield 9, 3) := by decide +kernel
theorem dX10_byteAt_14 : decode cX10_byteAt 14 = .ok (.sipush 200, 3) := by decide +kernel
theorem dX10_byteAt_17 : decode cX10_byteAt 17 = .ok (.iload_n 1, 1) := by decide +kernel
theorem dX10_byteAt_18 : decode cX10_byteAt 18 = .ok (.iadd, 1) := by decide +kernel
theorem dX10_byteAt_19 : decode cX10_byteAt 19 = .ok (.iaload, 1) := by decide +kernel
theorem dX10_byteAt_20 : decode cX10_byteAt 20 = .ok (.goto 4, 3) := by decide +kernel
theorem dX10_byteAt_23 : decode cX10_byteAt 23 = .ok (.iconst (-1), 1) := by decide +kernel
theorem dX10_byteAt_24 : decode cX10_byteAt 24 = .ok (.ireturn, 1) := by decide +kernel
theorem dX10_name_0 : decode cX10_name 0 = .ok (.iload_n 1, 1) := by decide +kernel
theorem dX10_name_1 : decode cX10_name 1 = .ok (.i2l, 1) := by decide +kernel
theorem dX10_name_2 : decode cX10_name 2 = .ok (.lconst 0, 1) := by decide +kernel
theorem dX10_name_3 : decode cX10_name 3 = .ok (.ldc2_w 69, 3) := by decide +kernel
theorem dX10_name_6 : decode cX10_name 6 = .ok (.invokestatic 48, 3) := by decide +kernel
theorem dX10_name_9 : decode cX10_name 9 = .ok (.ifCond .ne 10, 3) := by decide +kernel
theorem dX10_name_12 : decode cX10_name 12 = .ok (.aload_n 0, 1) := by decide +kernel
theorem dX10_name_13 : decode cX10_name 13 = .ok (.ldc 62, 2) := by decide +kernel
theorem dX10_name_15 : decode cX10_name 15 = .ok (.invokevirtual 63, 3) := by decide +kernel
theorem dX10_name_18 : decode cX10_name 18 = .ok (.ireturn, 1) := by decide +kernel
theorem dX10_name_19 : decode cX10_name 19 = .ok (.aload_n 0, 1) := by decide +kernel
theorem dX10_name_20 : decode cX10_name 20 = .ok (.getfield 9, 3) := by decide +kernel
theorem dX10_name_23 : decode cX10_name 23 = .ok (.iconst 0, 1) := by decide +kernel
theorem dX10_name_24 : decode cX10_name 24 = .ok (.iaload, 1) := by decide +kernel
theorem dX10_name_25 : decode cX10_name 25 = .ok (.bipush 14, 2) := by decide +kernel
theorem dX10_name_27 : decode cX10_name 27 = .ok (.if_icmp .ne 10, 3) := by decide +kernel
theorem dX10_name_30 : decode cX10_name 30 = .ok (.aload_n 0, 1) := by decide +kernel
theorem dX10_name_31 : decode cX10_name 31 = .ok (.ldc 66, 2) := by decide +kernel
theorem dX10_name_33 : decode cX10_name 33 = .ok (.invokevirtual 63, 3) := by decide +kernel
theorem dX10_name_36 : decode cX10_name 36 = .ok (.ireturn, 1) := by decide +kernel
theorem dX10_name_37 : decode cX10_name 37 = .ok (.aload_n 0, 1) := by decide +kernel
theorem dX10_name_38 : decode cX10_name 38 = .ok (.getfield 9, 3) := by decide +kernel
theorem dX10_name_41 : decode cX10_name 41 = .ok (.iconst 4, 1) := by decide +kernel
theorem dX10_name_42 : decode cX10_name 42 = .ok (.iaload, 1) := by decide +kernel
theorem dX10_name_43 : decode cX10_name 43 = .ok (.istore_n 2, 1) := by decide +kernel
theorem dX10_name_44 : decode cX10_name 44 = .ok (.iconst 0, 1) := by decide +kernel
theorem dX10_name_45 : decode cX10_name 45 = .ok (.istore_n 3, 1) := by decide +kernel
theorem dX10_name_46 : decode cX10_name 46 = .ok (.iload_n 3, 1) := by decide +kernel
theorem dX10_name_47 : decode cX10_name 47 = .ok (.iload_n 2, 1) := by decide +kernel
theorem dX10_name_48 : decode cX10_name 48 = .ok (.if_icmp .ge 33, 3) := by decide +kernel
theorem dX10_name_51 : decode cX10_name 51 = .ok (.iload_n 3, 1) := by decide +kernel
theorem dX10_name_52 : decode cX10_name 52 = .ok (.bipush 8, 2) := by decide +kernel
theorem dX10_name_54 : decode cX10_name 54 = .ok (.if_icmp .ge 27, 3) := by decide +kernel
theorem dX10_name_57 : decode cX10_name 57 = .ok (.aload_n 0, 1) := by decide +kernel
theorem dX10_name_58 : decode cX10_name 58 = .ok (.iload_n 3, 1) := by decide +kernel
theorem dX10_name_59 : decode cX10_name 59 = .ok (.invokevirtual 71, 3) := by decide +kernel
theorem dX10_name_62 : decode cX10_name 62 = .ok (.i2l, 1) := by decide +kernel
theorem dX10_name_63 : decode cX10_name 63 = .ok (.ldc2_w 74, 3) := by decide +kernel
theorem dX10_name_66 : decode cX10_name 66 = .ok (.ldc2_w 76, 3) := by decide +kernel
theorem dX10_name_69 : decode cX10_name 69 = .ok (.invokestatic 48, 3) := by decide +kernel
theorem dX10_name_72 : decode cX10_name 72 = .ok (.ifCond .eq 9, 3) := by decide +kernel
theorem dX10_name_75 : decode cX10_name 75 = .ok (.iinc 3 1, 3) := by decide +kernel
theorem dX10_name_78 : decode cX10_name 78 = .ok (.goto (-32), 3) := by decide +kernel
theorem dX10_name_81 : decode cX10_name 81 = .ok (.aload_n 0, 1) := by decide +kernel
theorem dX10_name_82 : decode cX10_name 82 = .ok (.getfield 9, 3) := by decide +kernel
theorem dX10_name_85 : decode cX10_name 85 = .ok (.iconst 4, 1) := by decide +kernel
theorem dX10_name_86 : decode cX10_name 86 = .ok (.iconst 0, 1) := by decide +kernel
theorem dX10_name_87 : decode cX10_name 87 = .ok (.iastore, 1) := by decide +kernel
theorem dX10_name_88 : decode cX10_name 88 = .ok (.iload_n 3, 1) := by decide +kernel
theorem dX10_name_89 : decode cX10_name 89 = .ok (.iload_n 2, 1) := by decide +kernel
theorem dX10_name_90 : decode cX10_name 90 = .ok (.if_icmp .lt 7, 3) := by decide +kernel
theorem dX10_name_93 : decode cX10_name 93 = .ok (.iload_n 2, 1) := by decide +kernel
theorem dX10_name_94 : decode cX10_name 94 = .ok (.ifCond .ne 8, 3) := by decide +kernel
theorem dX10_name_97 : decode cX10_name 97 = .ok (.bipush (-10), 2) := by decide +kernel
theorem dX10_name_99 : decode cX10_name 99 = .ok (.iload_n 3, 1) := by decide +kernel
theorem dX10_name_100 : decode cX10_name 100 = .ok (.isub, 1) := by decide +kernel
theorem dX10_name_101 : decode cX10_name 101 = .ok (.ireturn, 1) := by decide +kernel
theorem dX10_name_102 : decode cX10_name 102 = .ok (.bipush 6, 2) := by decide +kernel
theorem dX10_name_104 : decode cX10_name 104 = .ok (.bipush 11, 2) := by decide +kernel
theorem dX10_name_106 : decode cX10_name 106 = .ok (.aload_n 0, 1) := by decide +kernel
theorem dX10_name_107 : decode cX10_name 107 = .ok (.getfield 9, 3) := by decide +kernel
theorem dX10_name_110 : decode cX10_name 110 = .ok (.iconst 0, 1) := by decide +kernel
theorem dX10_name_111 : decode cX10_name 111 = .ok (.iaload, 1) := by decide +kernel
theorem dX10_name_112 : decode cX10_name 112 = .ok (.imul, 1) := by decide +kernel
theorem dX10_name_113 : decode cX10_name 113 = .ok (.iadd, 1) := by decide +kernel
theorem dX10_name_114 : decode cX10_name 114 = .ok (.istore 4, 2) := by decide +kernel
theorem dX10_name_116 : decode cX10_name 116 = .ok (.aload_n 0, 1) := by decide +kernel
theorem dX10_name_117 : decode cX10_name 117 = .ok (.getfield 9, 3) := by decide +kernel
theorem dX10_name_120 : decode cX10_name 120 = .ok (.iload 4, 2) := by decide +kernel
theorem dX10_name_122 : decode cX10_name 122 = .ok (.iload_n 1, 1) := by decide +kernel
theorem dX10_name_123 : decode cX10_name 123 = .ok (.iastore, 1) := by decide +kernel
theorem dX10_name_124 : decode cX10_name 124 = .ok (.aload_n 0, 1) := by decide +kernel
theorem dX10_name_125 : decode cX10_name 125 = .ok (.getfield 9, 3) := by decide +kernel
theorem dX10_name_128 : decode cX10_name 128 = .ok (.iload 4, 2) := by decide +kernel
theorem dX10_name_130 : decode cX10_name 130 = .ok (.iconst 1, 1) := by decide +kernel
theorem dX10_name_131 : decode cX10_name 131 = .ok (.iadd, 1) := by decide +kernel
theorem dX10_name_132 : decode cX10_name 132 = .ok (.iload_n 2, 1) := by decide +kernel
theorem dX10_name_133 : decode cX10_name 133 = .ok (.iastore, 1) := by decide +kernel
theorem dX10_name_134 : decode cX10_name 134 = .ok (.aload_n 0, 1) := by decide +kernel
theorem dX10_name_135 : decode cX10_name 135 = .ok (.getfield 9, 3) := by decide +kernel
theorem dX10_name_138 : decode cX10_name 138 = .ok (.iload 4, 2) := by decide +kernel
theorem dX10_name_140 : decode cX10_name 140 = .ok (.iconst 2, 1) := by decide +kernel
theorem dX10_name_141 : decode cX10_name 141 = .ok (.iadd, 1) := by decide +kernel
theorem dX10_name_142 : decode cX10_name 142 = .ok (.iconst 0, 1) := by decide +kernel
theorem dX10_name_143 : decode cX10_name 143 = .ok (.iastore, 1) := by decide +kernel
theorem dX10_name_144 : decode cX10_name 144 = .ok (.iconst 0, 1) := by decide +kernel
theorem dX10_name_145 : decode cX10_name 145 = .ok (.istore 5, 2) := by decide +kernel
theorem dX10_name_147 : decode cX10_name 147 = .ok (.iload 5, 2) := by decide +kernel
theorem dX10_name_149 : decode cX10_name 149 = .ok (.bipush 8, 2) := by decide +kernel
theorem dX10_name_151 : decode cX10_name 151 = .ok (.if_icmp .ge 81, 3) := by decide +kernel
theorem dX10_name_154 : decode cX10_name 154 = .ok (.aload_n 0, 1) := by decide +kernel
theorem dX10_name_155 : decode cX10_name 155 = .ok (.getfield 9, 3) := by decide +kernel
theorem dX10_name_158 : decode cX10_name 158 = .ok (.iload 4, 2) := by decide +kernel
theorem dX10_name_160 : decode cX10_name 160 = .ok (.iconst 3, 1) := by decide +kernel
theorem dX10_name_161 : decode cX10_name 161 = .ok (.iadd, 1) := by decide +kernel
theorem dX10_name_162 : decode cX10_name 162 = .ok (.iload 5, 2) := by decide +kernel
theorem dX10_name_164 : decode cX10_name 164 = .ok (.iadd, 1) := by decide +kernel
theorem dX10_name_165 : decode cX10_name 165 = .ok (.iload 5, 2) := by decide +kernel
theorem dX10_name_167 : decode cX10_name 167 = .ok (.iload_n 2, 1) := by decide +kernel
theorem dX10_name_168 : decode cX10_name 168 = .ok (.if_icmp .ge 20, 3) := by decide +kernel
theorem dX10_name_171 : decode cX10_name 171 = .ok (.aload_n 0, 1) := by decide +kernel
theorem dX10_name_172 : decode cX10_name 172 = .ok (.getfield 9, 3) := by decide +kernel
theorem dX10_name_175 : decode cX10_name 175 = .ok (.sipush 200, 3) := by decide +kernel
theorem dX10_name_178 : decode cX10_name 178 = .ok (.iload 5, 2) := by decide +kernel
theorem dX10_name_180 : decode cX10_name 180 = .ok (.iadd, 1) := by decide +kernel
theorem dX10_name_181 : decode cX10_name 181 = .ok (.iaload, 1) := by decide +kernel
theorem dX10_name_182 : decode cX10_name 182 = .ok (.bipush 97, 2) := by decide +kernel
theorem dX10_name_184 : decode cX10_name 184 = .ok (.isub, 1) := by decide +kernel
theorem dX10_name_185 : decode cX10_name 185 = .ok (.goto 4, 3) := by decide +kernel
theorem dX10_name_188 : decode cX10_name 188 = .ok (.iconst (-1), 1) := by decide +kernel
theorem dX10_name_189 : decode cX10_name 189 = .ok (.iastore, 1) := by decide +kernel
theorem dX10_name_190 : decode cX10_name 190 = .ok (.aload_n 0, 1) := by decide +kernel
theorem dX10_name_191 : decode cX10_name 191 = .ok (.getfield 9, 3) := by decide +kernel
theorem dX10_name_194 : decode cX10_name 194 = .ok (.iload 4, 2) := by decide +kernel
theorem dX10_name_196 : decode cX10_name 196 = .ok (.iconst 2, 1) := by decide +kernel
theorem dX10_name_197 : decode cX10_name 197 = .ok (.iadd, 1) := by decide +kernel
theorem dX10_name_198 : decode cX10_name 198 = .ok (.dup2, 1) := by decide +kernel
theorem dX10_name_199 : decode cX10_name 199 = .ok (.iaload, 1) := by decide +kernel
theorem dX10_name_200 : decode cX10_name 200 = .ok (.iload 5, 2) := by decide +kernel
theorem dX10_name_202 : decode cX10_name 202 = .ok (.iload_n 2, 1) := by decide +kernel
theorem dX10_name_203 : decode cX10_name 203 = .ok (.if_icmp .ge 20, 3) := by decide +kernel
theorem dX10_name_206 : decode cX10_name 206 = .ok (.iconst 1, 1) := by decide +kernel
theorem dX10_name_207 : decode cX10_name 207 = .ok (.aload_n 0, 1) := by decide +kernel
theorem dX10_name_208 : decode cX10_name 208 = .ok (.getfield 9, 3) := by decide +kernel
theorem dX10_name_211 : decode cX10_name 211 = .ok (.iload 4, 2) := by decide +kernel
theorem dX10_name_213 : decode cX10_name 213 = .ok (.iconst 3, 1) := by decide +kernel
theorem dX10_name_214 : decode cX10_name 214 = .ok (.iadd, 1) := by decide +kernel
theorem dX10_name_215 : decode cX10_name 215 = .ok (.iload 5, 2) := by decide +kernel
theorem dX10_name_217 : decode cX10_name 217 = .ok (.iadd, 1) := by decide +kernel
theorem dX10_name_218 : decode cX10_name 218 = .ok (.iaload, 1) := by decide +kernel
theorem dX10_name_219 : decode cX10_name 219 = .ok (.ishl, 1) := by decide +kernel
theorem dX10_name_220 : decode cX10_name 220 = .ok (.goto 4, 3) := by decide +kernel
theorem dX10_name_223 : decode cX10_name 223 = .ok (.iconst 0, 1) := by decide +kernel
theorem dX10_name_224 : decode cX10_name 224 = .ok (.ior, 1) := by decide +kernel
theorem dX10_name_225 : decode cX10_name 225 = .ok (.iastore, 1) := by decide +kernel
theorem dX10_name_226 : decode cX10_name 226 = .ok (.iinc 5 1, 3) := by decide +kernel
theorem dX10_name_229 : decode cX10_name 229 = .ok (.goto (-82), 3) := by decide +kernel
theorem dX10_name_232 : decode cX10_name 232 = .ok (.aload_n 0, 1) := by decide +kernel
theorem dX10_name_233 : decode cX10_name 233 = .ok (.getfield 9, 3) := by decide +kernel
theorem dX10_name_236 : decode cX10_name 236 = .ok (.iconst 0, 1) := by decide +kernel
theorem dX10_name_237 : decode cX10_name 237 = .ok (.dup2, 1) := by decide +kernel
theorem dX10_name_238 : decode cX10_name 238 = .ok (.iaload, 1) := by decide +kernel
theorem dX10_name_239 : decode cX10_name 239 = .ok (.iconst 1, 1) := by decide +kernel
theorem dX10_name_240 : decode cX10_name 240 = .ok (.iadd, 1) := by decide +kernel
theorem dX10_name_241 : decode cX10_name 241 = .ok (.iastore, 1) := by decide +kernel
theorem dX10_name_242 : decode cX10_name 242 = .ok (.aload_n 0, 1) := by decide +kernel
theorem dX10_name_243 : decode cX10_name 243 = .ok (.getfield 9, 3) := by decide +kernel
theorem dX10_name_246 : decode cX10_name 246 = .ok (.iconst 0, 1) := by decide +kernel
theorem dX10_name_247 : decode cX10_name 247 = .ok (.iaload, 1) := by decide +kernel
theorem dX10_name_248 : decode cX10_name 248 = .ok (.iconst 1, 1) := by decide +kernel
theorem dX10_name_249 : decode cX10_name 249 = .ok (.isub, 1) := by decide +kernel
theorem dX10_name_250 : decode cX10_name 250 = .ok (.ireturn, 1) := by decide +kernel
theorem dX10_ofName_0 : decode cX10_ofName 0 = .ok (.aload_n 0, 1) := by decide +kernel
theorem dX10_ofName_1 : decode cX10_ofName 1 = .ok (.iload_n 1, 1) := by decide +kernel
theorem dX10_ofName_2 : decode cX10_ofName 2 = .ok (.invokevirtual 78, 3) := by decide +kernel
theorem dX10_ofName_5 : decode cX10_ofName 5 = .ok (.ifCond .eq 24, 3) := by decide +kernel
theorem dX10_ofName_8 : decode cX10_ofName 8 = .ok (.iload_n 2, 1) := by decide +kernel
theorem dX10_ofName_9 : decode cX10_ofName 9 = .ok (.i2l, 1) := by decide +kernel
theorem dX10_ofName_10 : decode cX10_ofName 10 = .ok (.lconst 0, 1) := by decide +kernel
theorem dX10_ofName_11 : decode cX10_ofName 11 = .ok (.ldc2_w 82, 3) := by decide +kernel
theorem dX10_ofName_14 : decode cX10_ofName 14 = .ok (.invokestatic 48, 3) := by decide +kernel
theorem dX10_ofName_17 : decode cX10_ofName 17 = .ok (.ifCond .eq 12, 3) := by decide +kernel
theorem dX10_ofName_20 : decode cX10_ofName 20 = .ok (.aload_n 0, 1) := by decide +kernel
theorem dX10_ofName_21 : decode cX10_ofName 21 = .ok (.iload_n 1, 1) := by decide +kernel
theorem dX10_ofName_22 : decode cX10_ofName 22 = .ok (.iload_n 2, 1) := by decide +kernel
theorem dX10_ofName_23 : decode cX10_ofName 23 = .ok (.invokevirtual 52, 3) := by decide +kernel
theorem dX10_ofName_26 : decode cX10_ofName 26 = .ok (.goto 9, 3) := by decide +kernel
theorem dX10_ofName_29 : decode cX10_ofName 29 = .ok (.aload_n 0, 1) := by decide +kernel
theorem dX10_ofName_30 : decode cX10_ofName 30 = .ok (.ldc 62, 2) := by decide +kernel
theorem dX10_ofName_32 : decode cX10_ofName 32 = .ok (.invokevirtual 63, 3) := by decide +kernel
theorem dX10_ofName_35 : decode cX10_ofName 35 = .ok (.ireturn, 1) := by decide +kernel
theorem dX10_sound_0 : decode cX10_sound 0 = .ok (.aload_n 0, 1) := by decide +kernel
theorem dX10_sound_1 : decode cX10_sound 1 = .ok (.iload_n 1, 1) := by decide +kernel
theorem dX10_sound_2 : decode cX10_sound 2 = .ok (.invokevirtual 78, 3) := by decide +kernel
theorem dX10_sound_5 : decode cX10_sound 5 = .ok (.ifCond .eq 30, 3) := by decide +kernel
theorem dX10_sound_8 : decode cX10_sound 8 = .ok (.iload_n 2, 1) := by decide +kernel
theorem dX10_sound_9 : decode cX10_sound 9 = .ok (.i2l, 1) := by decide +kernel
theorem dX10_sound_10 : decode cX10_sound 10 = .ok (.lconst 0, 1) := by decide +kernel
theorem dX10_sound_11 : decode cX10_sound 11 = .ok (.ldc2_w 69, 3) := by decide +kernel
theorem dX10_sound_14 : decode cX10_sound 14 = .ok (.invokestatic 48, 3) := by decide +kernel
theorem dX10_sound_17 : decode cX10_sound 17 = .ok (.ifCond .eq 18, 3) := by decide +kernel
theorem dX10_sound_20 : decode cX10_sound 20 = .ok (.aload_n 0, 1) := by decide +kernel
theorem dX10_sound_21 : decode cX10_sound 21 = .ok (.bipush 6, 2) := by decide +kernel
theorem dX10_sound_23 : decode cX10_sound 23 = .ok (.bipush 11, 2) := by decide +kernel
theorem dX10_sound_25 : decode cX10_sound 25 = .ok (.iload_n 1, 1) := by decide +kernel
theorem dX10_sound_26 : decode cX10_sound 26 = .ok (.imul, 1) := by decide +kernel
theorem dX10_sound_27 : decode cX10_sound 27 = .ok (.iadd, 1) := by decide +kernel
theorem dX10_sound_28 : decode cX10_sound 28 = .ok (.iload_n 2, 1) := by decide +kernel
theorem dX10_sound_29 : decode cX10_sound 29 = .ok (.invokevirtual 84, 3) := by decide +kernel
theorem dX10_sound_32 : decode cX10_sound 32 = .ok (.goto 9, 3) := by decide +kernel
theorem dX10_sound_35 : decode cX10_sound 35 = .ok (.aload_n 0, 1) := by decide +kernel
theorem dX10_sound_36 : decode cX10_sound 36 = .ok (.ldc 62, 2) := by decide +kernel
theorem dX10_sound_38 : decode cX10_sound 38 = .ok (.invokevirtual 63, 3) := by decide +kernel
theorem dX10_sound_41 : decode cX10_sound 41 = .ok (.ireturn, 1) := by decide +kernel
theorem dX10_clash_0 : decode cX10_clash 0 = .ok (.aload_n 0, 1) := by decide +kernel
theorem dX10_clash_1 : decode cX10_clash 1 = .ok (.iload_n 1, 1) := by decide +kernel
theorem dX10_clash_2 : decode cX10_clash 2 = .ok (.invokevirtual 78, 3) := by decide +kernel
theorem dX10_clash_5 : decode cX10_clash 5 = .ok (.ifCond .eq 25, 3) := by decide +kernel
theorem dX10_clash_8 : decode cX10_clash 8 = .ok (.aload_n 0, 1) := by decide +kernel
theorem dX10_clash_9 : decode cX10_clash 9 = .ok (.iload_n 2, 1) := by decide +kernel
theorem dX10_clash_10 : decode cX10_clash 10 = .ok (.invokevirtual 78, 3) := by decide +kernel
theorem dX10_clash_13 : decode cX10_clash 13 = .ok (.ifCond .eq 17, 3) := by decide +kernel
theorem dX10_clash_16 : decode cX10_clash 16 = .ok (.aload_n 0, 1) := by decide +kernel
theorem dX10_clash_17 : decode cX10_clash 17 = .ok (.iload_n 1, 1) := by decide +kernel
theorem dX10_clash_18 : decode cX10_clash 18 = .ok (.invokevirtual 56, 3) := by decide +kernel
theorem dX10_clash_21 : decode cX10_clash 21 = .ok (.aload_n 0, 1) := by decide +kernel
theorem dX10_clash_22 : decode cX10_clash 22 = .ok (.iload_n 2, 1) := by decide +kernel
theorem dX10_clash_23 : decode cX10_clash 23 = .ok (.invokevirtual 56, 3) := by decide +kernel
theorem dX10_clash_26 : decode cX10_clash 26 = .ok (.iand, 1) := by decide +kernel
theorem dX10_clash_27 : decode cX10_clash 27 = .ok (.goto 9, 3) := by decide +kernel
theorem dX10_clash_30 : decode cX10_clash 30 = .ok (.aload_n 0, 1) := by decide +kernel
theorem dX10_clash_31 : decode cX10_clash 31 = .ok (.ldc 62, 2) := by decide +kernel
theorem dX10_clash_33 : decode cX10_clash 33 = .ok (.invokevirtual 63, 3) := by decide +kernel
theorem dX10_clash_36 : decode cX10_clash 36 = .ok (.ireturn, 1) := by decide +kernel
theorem dX10_strike_0 : decode cX10_strike 0 = .ok (.iload_n 1, 1) := by decide +kernel
theorem dX10_strike_1 : decode cX10_strike 1 = .ok (.i2l, 1) := by decide +kernel
theorem dX10_strike_2 : decode cX10_strike 2 = .ok (.lconst 0, 1) := by decide +kernel
theorem dX10_strike_3 : decode cX10_strike 3 = .ok (.ldc2_w 87, 3) := by decide +kernel
theorem dX10_strike_6 : decode cX10_strike 6 = .ok (.invokestatic 48, 3) := by decide +kernel
theorem dX10_strike_9 : decode cX10_strike 9 = .ok (.ifCond .eq 13, 3) := by decide +kernel
theorem dX10_strike_12 : decode cX10_strike 12 = .ok (.iload_n 2, 1) := by decide +kernel
theorem dX10_strike_13 : decode cX10_strike 13 = .ok (.i2l, 1) := by decide +kernel
theorem dX10_strike_14 : decode cX10_strike 14 = .ok (.lconst 0, 1) := by decide +kernel
theorem dX10_strike_15 : decode cX10_strike 15 = .ok (.lconst 1, 1) := by decide +kernel
theorem dX10_strike_16 : decode cX10_strike 16 = .ok (.invokestatic 48, 3) := by decide +kernel
theorem dX10_strike_19 : decode cX10_strike 19 = .ok (.ifCond .ne 10, 3) := by decide +kernel
theorem dX10_strike_22 : decode cX10_strike 22 = .ok (.aload_n 0, 1) := by decide +kernel
theorem dX10_strike_23 : decode cX10_strike 23 = .ok (.ldc 62, 2) := by decide +kernel
theorem dX10_strike_25 : decode cX10_strike 25 = .ok (.invokevirtual 63, 3) := by decide +kernel
theorem dX10_strike_28 : decode cX10_strike 28 = .ok (.ireturn, 1) := by decide +kernel
theorem dX10_strike_29 : decode cX10_strike 29 = .ok (.aload_n 0, 1) := by decide +kernel
theorem dX10_strike_30 : decode cX10_strike 30 = .ok (.getfield 9, 3) := by decide +kernel
theorem dX10_strike_33 : decode cX10_strike 33 = .ok (.iconst 2, 1) := by decide +kernel
theorem dX10_strike_34 : decode cX10_strike 34 = .ok (.iaload, 1) := by decide +kernel
theorem dX10_strike_35 : decode cX10_strike 35 = .ok (.iload_n 1, 1) := by decide +kernel
theorem dX10_strike_36 : decode cX10_strike 36 = .ok (.ishr, 1) := by decide +kernel
theorem dX10_strike_37 : decode cX10_strike 37 = .ok (.iconst 1, 1) := by decide +kernel
theorem dX10_strike_38 : decode cX10_strike 38 = .ok (.iand, 1) := by decide +kernel
theorem dX10_strike_39 : decode cX10_strike 39 = .ok (.istore_n 3, 1) := by decide +kernel
theorem dX10_strike_40 : decode cX10_strike 40 = .ok (.aload_n 0, 1) := by decide +kernel
theorem dX10_strike_41 : decode cX10_strike 41 = .ok (.getfield 9, 3) := by decide +kernel
theorem dX10_strike_44 : decode cX10_strike 44 = .ok (.iconst 2, 1) := by decide +kernel
theorem dX10_strike_45 : decode cX10_strike 45 = .ok (.dup2, 1) := by decide +kernel
theorem dX10_strike_46 : decode cX10_strike 46 = .ok (.iaload, 1) := by decide +kernel
theorem dX10_strike_47 : decode cX10_strike 47 = .ok (.iload_n 2, 1) := by decide +kernel
theorem dX10_strike_48 : decode cX10_strike 48 = .ok (.iload_n 3, 1) := by decide +kernel
theorem dX10_strike_49 : decode cX10_strike 49 = .ok (.isub, 1) := by decide +kernel
theorem dX10_strike_50 : decode cX10_strike 50 = .ok (.iconst 1, 1) := by decide +kernel
theorem dX10_strike_51 : decode cX10_strike 51 = .ok (.iload_n 1, 1) := by decide +kernel
theorem dX10_strike_52 : decode cX10_strike 52 = .ok (.ishl, 1) := by decide +kernel
theorem dX10_strike_53 : decode cX10_strike 53 = .ok (.imul, 1) := by decide +kernel
theorem dX10_strike_54 : decode cX10_strike 54 = .ok (.iadd, 1) := by decide +kernel
theorem dX10_strike_55 : decode cX10_strike 55 = .ok (.iastore, 1) := by decide +kernel
theorem dX10_strike_56 : decode cX10_strike 56 = .ok (.iload_n 3, 1) := by decide +kernel
theorem dX10_strike_57 : decode cX10_strike 57 = .ok (.ireturn, 1) := by decide +kernel
theorem dX10_isPerson_0 : decode cX10_isPerson 0 = .ok (.iload_n 1, 1) := by decide +kernel
theorem dX10_isPerson_1 : decode cX10_isPerson 1 = .ok (.i2l, 1) := by decide +kernel
theorem dX10_isPerson_2 : decode cX10_isPerson 2 = .ok (.lconst 0, 1) := by decide +kernel
theorem dX10_isPerson_3 : decode cX10_isPerson 3 = .ok (.aload_n 0, 1) := by decide +kernel
theorem dX10_isPerson_4 : decode cX10_isPerson 4 = .ok (.getfield 9, 3) := by decide +kernel
theorem dX10_isPerson_7 : decode cX10_isPerson 7 = .ok (.iconst 1, 1) := by decide +kernel
theorem dX10_isPerson_8 : decode cX10_isPerson 8 = .ok (.iaload, 1) := by decide +kernel
theorem dX10_isPerson_9 : decode cX10_isPerson 9 = .ok (.iconst 1, 1) := by decide +kernel
theorem dX10_isPerson_10 : decode cX10_isPerson 10 = .ok (.isub, 1) := by decide +kernel
theorem dX10_isPerson_11 : decode cX10_isPerson 11 = .ok (.i2l, 1) := by decide +kernel
theorem dX10_isPerson_12 : decode cX10_isPerson 12 = .ok (.invokestatic 48, 3) := by decide +kernel
theorem dX10_isPerson_15 : decode cX10_isPerson 15 = .ok (.ireturn, 1) := by decide +kernel
theorem dX10_isKind_0 : decode cX10_isKind 0 = .ok (.iload_n 0, 1) := by decide +kernel
theorem dX10_isKind_1 : decode cX10_isKind 1 = .ok (.i2l, 1) := by decide +kernel
theorem dX10_isKind_2 : decode cX10_isKind 2 = .ok (.lconst 0, 1) := by decide +kernel
theorem dX10_isKind_3 : decode cX10_isKind 3 = .ok (.ldc2_w 89, 3) := by decide +kernel
theorem dX10_isKind_6 : decode cX10_isKind 6 = .ok (.invokestatic 48, 3) := by decide +kernel
theorem dX10_isKind_9 : decode cX10_isKind 9 = .ok (.ireturn, 1) := by decide +kernel
theorem dX10_of_0 : decode cX10_of 0 = .ok (.aload_n 0, 1) := by decide +kernel
theorem dX10_of_1 : decode cX10_of 1 = .ok (.getfield 9, 3) := by decide +kernel
theorem dX10_of_4 : decode cX10_of 4 = .ok (.sipush 160, 3) := by decide +kernel
theorem dX10_of_7 : decode cX10_of 7 = .ok (.iconst 4, 1) := by decide +kernel
theorem dX10_of_8 : decode cX10_of 8 = .ok (.iload_n 1, 1) := by decide +kernel
theorem dX10_of_9 : decode cX10_of 9 = .ok (.imul, 1) := by decide +kernel
theorem dX10_of_10 : decode cX10_of 10 = .ok (.iadd, 1) := by decide +kernel
theorem dX10_of_11 : decode cX10_of 11 = .ok (.iload_n 2, 1) := by decide +kernel
theorem dX10_of_12 : decode cX10_of 12 = .ok (.iadd, 1) := by decide +kernel
theorem dX10_of_13 : decode cX10_of 13 = .ok (.iaload, 1) := by decide +kernel
theorem dX10_of_14 : decode cX10_of 14 = .ok (.ireturn, 1) := by decide +kernel
theorem dX10_nameOf_0 : decode cX10_nameOf 0 = .ok (.aload_n 0, 1) := by decide +kernel
theorem dX10_nameOf_1 : decode cX10_nameOf 1 = .ok (.iload_n 1, 1) := by decide +kernel
theorem dX10_nameOf_2 : decode cX10_nameOf 2 = .ok (.iconst 2, 1) := by decide +kernel
theorem dX10_nameOf_3 : decode cX10_nameOf 3 = .ok (.invokevirtual 91, 3) := by decide +kernel
theorem dX10_nameOf_6 : decode cX10_nameOf 6 = .ok (.ireturn, 1) := by decide +kernel
theorem dX10_names_0 : decode cX10_names 0 = .ok (.aload_n 0, 1) := by decide +kernel
theorem dX10_names_1 : decode cX10_names 1 = .ok (.getfield 9, 3) := by decide +kernel
theorem dX10_names_4 : decode cX10_names 4 = .ok (.sipush 160, 3) := by decide +kernel
theorem dX10_names_7 : decode cX10_names 7 = .ok (.iconst 4, 1) := by decide +kernel
theorem dX10_names_8 : decode cX10_names 8 = .ok (.iload_n 1, 1) := by decide +kernel
theorem dX10_names_9 : decode cX10_names 9 = .ok (.imul, 1) := by decide +kernel
theorem dX10_names_10 : decode cX10_names 10 = .ok (.iadd, 1) := by decide +kernel
theorem dX10_names_11 : decode cX10_names 11 = .ok (.iconst 2, 1) := by decide +kernel
theorem dX10_names_12 : decode cX10_names 12 = .ok (.iadd, 1) := by decide +kernel
theorem dX10_names_13 : decode cX10_names 13 = .ok (.iload_n 2, 1) := by decide +kernel
theorem dX10_names_14 : decode cX10_names 14 = .ok (.iastore, 1) := by decide +kernel
theorem dX10_names_15 : decode cX10_names 15 = .ok (.return_, 1) := by decide +kernel
theorem dX10_comes_0 : decode cX10_comes 0 = .ok (.sipush 160, 3) := by decide +kernel
theorem dX10_comes_3 : decode cX10_comes 3 = .ok (.iconst 4, 1) := by decide +kernel
theorem dX10_comes_4 : decode cX10_comes 4 = .ok (.aload_n 0, 1) := by decide +kernel
theorem dX10_comes_5 : decode cX10_comes 5 = .ok (.getfield 9, 3) := by decide +kernel
theorem dX10_comes_8 : decode cX10_comes 8 = .ok (.iconst 1, 1) := by decide +kernel
theorem dX10_comes_9 : decode cX10_comes 9 = .ok (.iaload, 1) := by decide +kernel
theorem dX10_comes_10 : decode cX10_comes 10 = .ok (.imul, 1) := by decide +kernel
theorem dX10_comes_11 : decode cX10_comes 11 = .ok (.iadd, 1) := by decide +kernel
theorem dX10_comes_12 : decode cX10_comes 12 = .ok (.istore_n 3, 1) := by decide +kernel
theorem dX10_comes_13 : decode cX10_comes 13 = .ok (.aload_n 0, 1) := by decide +kernel
theorem dX10_comes_14 : decode cX10_comes 14 = .ok (.getfield 9, 3) := by decide +kernel
theorem dX10_comes_17 : decode cX10_comes 17 = .ok (.iload_n 3, 1) := by decide +kernel
theorem dX10_comes_18 : decode cX10_comes 18 = .ok (.iload_n 1, 1) := by decide +kernel
theorem dX10_comes_19 : decode cX10_comes 19 = .ok (.iastore, 1) := by decide +kernel
theorem dX10_comes_20 : decode cX10_comes 20 = .ok (.aload_n 0, 1) := by decide +kernel
theorem dX10_comes_21 : decode cX10_comes 21 = .ok (.getfield 9, 3) := by decide +kernel
theorem dX10_comes_24 : decode cX10_comes 24 = .ok (.iload_n 3, 1) := by decide +kernel
theorem dX10_comes_25 : decode cX10_comes 25 = .ok (.iconst 1, 1) := by decide +kernel
theorem dX10_comes_26 : decode cX10_comes 26 = .ok (.iadd, 1) := by decide +kernel
theorem dX10_comes_27 : decode cX10_comes 27 = .ok (.iload_n 2, 1) := by decide +kernel
theorem dX10_comes_28 : decode cX10_comes 28 = .ok (.iastore, 1) := by decide +kernel
theorem dX10_comes_29 : decode cX10_comes 29 = .ok (.aload_n 0, 1) := by decide +kernel
theorem dX10_comes_30 : decode cX10_comes 30 = .ok (.getfield 9, 3) := by decide +kernel
theorem dX10_comes_33 : decode cX10_comes 33 = .ok (.iload_n 3, 1) := by decide +kernel
theorem dX10_comes_34 : decode cX10_comes 34 = .ok (.iconst 2, 1) := by decide +kernel
theorem dX10_comes_35 : decode cX10_comes 35 = .ok (.iadd, 1) := by decide +kernel
theorem dX10_comes_36 : decode cX10_comes 36 = .ok (.iconst (-1), 1) := by decide +kernel
theorem dX10_comes_37 : decode cX10_comes 37 = .ok (.iastore, 1) := by decide +kernel
theorem dX10_comes_38 : decode cX10_comes 38 = .ok (.aload_n 0, 1) := by decide +kernel
theorem dX10_comes_39 : decode cX10_comes 39 = .ok (.getfield 9, 3) := by decide +kernel
theorem dX10_comes_42 : decode cX10_comes 42 = .ok (.iload_n 3, 1) := by decide +kernel
theorem dX10_comes_43 : decode cX10_comes 43 = .ok (.iconst 3, 1) := by decide +kernel
theorem dX10_comes_44 : decode cX10_comes 44 = .ok (.iadd, 1) := by decide +kernel
theorem dX10_comes_45 : decode cX10_comes 45 = .ok (.iconst 0, 1) := by decide +kernel
theorem dX10_comes_46 : decode cX10_comes 46 = .ok (.iastore, 1) := by decide +kernel
theorem dX10_comes_47 : decode cX10_comes 47 = .ok (.aload_n 0, 1) := by decide +kernel
theorem dX10_comes_48 : decode cX10_comes 48 = .ok (.getfield 9, 3) := by decide +kernel
theorem dX10_comes_51 : decode cX10_comes 51 = .ok (.iconst 1, 1) := by decide +kernel
theorem dX10_comes_52 : decode cX10_comes 52 = .ok (.dup2, 1) := by decide +kernel
theorem dX10_comes_53 : decode cX10_comes 53 = .ok (.iaload, 1) := by decide +kernel
theorem dX10_comes_54 : decode cX10_comes 54 = .ok (.iconst 1, 1) := by decide +kernel
theorem dX10_comes_55 : decode cX10_comes 55 = .ok (.iadd, 1) := by decide +kernel
theorem dX10_comes_56 : decode cX10_comes 56 = .ok (.iastore, 1) := by decide +kernel
theorem dX10_comes_57 : decode cX10_comes 57 = .ok (.return_, 1) := by decide +kernel
theorem dX10_person_0 : decode cX10_person 0 = .ok (.iload_n 1, 1) := by decide +kernel
theorem dX10_person_1 : decode cX10_person 1 = .ok (.invokestatic 94, 3) := by decide +kernel
theorem dX10_person_4 : decode cX10_person 4 = .ok (.ifCond .eq 23, 3) := by decide +kernel
theorem dX10_person_7 : decode cX10_person 7 = .ok (.iload_n 2, 1) := by decide +kernel
theorem dX10_person_8 : decode cX10_person 8 = .ok (.i2l, 1) := by decide +kernel
theorem dX10_person_9 : decode cX10_person 9 = .ok (.ldc2_w 97, 3) := by decide +kernel
theorem dX10_person_12 : decode cX10_person 12 = .ok (.aload_n 0, 1) := by decide +kernel
theorem dX10_person_13 : decode cX10_person 13 = .ok (.getfield 9, 3) := by decide +kernel
theorem dX10_person_16 : decode cX10_person 16 = .ok (.iconst 1, 1) := by decide +kernel
theorem dX10_person_17 : decode cX10_person 17 = .ok (.iaload, 1) := by decide +kernel
theorem dX10_person_18 : decode cX10_person 18 = .ok (.iconst 1, 1) := by decide +kernel
theorem dX10_person_19 : decode cX10_person 19 = .ok (.isub, 1) := by decide +kernel
theorem dX10_person_20 : decode cX10_person 20 = .ok (.i2l, 1) := by decide +kernel
theorem dX10_person_21 : decode cX10_person 21 = .ok (.invokestatic 48, 3) := by decide +kernel
theorem dX10_person_24 : decode cX10_person 24 = .ok (.ifCond .ne 10, 3) := by decide +kernel
theorem dX10_person_27 : decode cX10_person 27 = .ok (.aload_n 0, 1) := by decide +kernel
theorem dX10_person_28 : decode cX10_person 28 = .ok (.ldc 62, 2) := by decide +kernel
theorem dX10_person_30 : decode cX10_person 30 = .ok (.invokevirtual 63, 3) := by decide +kernel
theorem dX10_person_33 : decode cX10_person 33 = .ok (.ireturn, 1) := by decide +kernel
theorem dX10_person_34 : decode cX10_person 34 = .ok (.aload_n 0, 1) := by decide +kernel
theorem dX10_person_35 : decode cX10_person 35 = .ok (.getfield 9, 3) := by decide +kernel
theorem dX10_person_38 : decode cX10_person 38 = .ok (.iconst 1, 1) := by decide +kernel
theorem dX10_person_39 : decode cX10_person 39 = .ok (.iaload, 1) := by decide +kernel
theorem dX10_person_40 : decode cX10_person 40 = .ok (.bipush 10, 2) := by decide +kernel
theorem dX10_person_42 : decode cX10_person 42 = .ok (.if_icmp .ne 10, 3) := by decide +kernel
theorem dX10_person_45 : decode cX10_person 45 = .ok (.aload_n 0, 1) := by decide +kernel
theorem dX10_person_46 : decode cX10_person 46 = .ok (.ldc 66, 2) := by decide +kernel
theorem dX10_person_48 : decode cX10_person 48 = .ok (.invokevirtual 63, 3) := by decide +kernel
theorem dX10_person_51 : decode cX10_person 51 = .ok (.ireturn, 1) := by decide +kernel
theorem dX10_person_52 : decode cX10_person 52 = .ok (.aload_n 0, 1) := by decide +kernel
theorem dX10_person_53 : decode cX10_person 53 = .ok (.iload_n 1, 1) := by decide +kernel
theorem dX10_person_54 : decode cX10_person 54 = .ok (.iload_n 2, 1) := by decide +kernel
theorem dX10_person_55 : decode cX10_person 55 = .ok (.invokevirtual 99, 3) := by decide +kernel
theorem dX10_person_58 : decode cX10_person 58 = .ok (.aload_n 0, 1) := by decide +kernel
theorem dX10_person_59 : decode cX10_person 59 = .ok (.getfield 9, 3) := by decide +kernel
theorem dX10_person_62 : decode cX10_person 62 = .ok (.iconst 1, 1) := by decide +kernel
theorem dX10_person_63 : decode cX10_person 63 = .ok (.iaload, 1) := by decide +kernel
theorem dX10_person_64 : decode cX10_person 64 = .ok (.iconst 1, 1) := by decide +kernel
theorem dX10_person_65 : decode cX10_person 65 = .ok (.isub, 1) := by decide +kernel
theorem dX10_person_66 : decode cX10_person 66 = .ok (.ireturn, 1) := by decide +kernel
theorem dX10_against_0 : decode cX10_against 0 = .ok (.iconst 0, 1) := by decide +kernel
theorem dX10_against_1 : decode cX10_against 1 = .ok (.istore_n 3, 1) := by decide +kernel
theorem dX10_against_2 : decode cX10_against 2 = .ok (.iconst 0, 1) := by decide +kernel
theorem dX10_against_3 : decode cX10_against 3 = .ok (.istore 4, 2) := by decide +kernel
theorem dX10_against_5 : decode cX10_against 5 = .ok (.iload 4, 2) := by decide +kernel
theorem dX10_against_7 : decode cX10_against 7 = .ok (.aload_n 0, 1) := by decide +kernel
theorem dX10_against_8 : decode cX10_against 8 = .ok (.getfield 9, 3) := by decide +kernel
theorem dX10_against_11 : decode cX10_against 11 = .ok (.iconst 1, 1) := by decide +kernel
theorem dX10_against_12 : decode cX10_against 12 = .ok (.iaload, 1) := by decide +kernel
theorem dX10_against_13 : decode cX10_against 13 = .ok (.if_icmp .ge 48, 3) := by decide +kernel
theorem dX10_against_16 : decode cX10_against 16 = .ok (.iload_n 3, 1) := by decide +kernel
theorem dX10_against_17 : decode cX10_against 17 = .ok (.aload_n 0, 1) := by decide +kernel
theorem dX10_against_18 : decode cX10_against 18 = .ok (.iload_n 1, 1) := by decide +kernel
theorem dX10_against_19 : decode cX10_against 19 = .ok (.iconst 3, 1) := by decide +kernel
theorem dX10_against_20 : decode cX10_against 20 = .ok (.invokevirtual 91, 3) := by decide +kernel
theorem dX10_against_23 : decode cX10_against 23 = .ok (.iload 4, 2) := by decide +kernel
theorem dX10_against_25 : decode cX10_against 25 = .ok (.invokestatic 103, 3) := by decide +kernel
theorem dX10_against_28 : decode cX10_against 28 = .ok (.ifCond .eq 24, 3) := by decide +kernel
theorem dX10_against_31 : decode cX10_against 31 = .ok (.aload_n 0, 1) := by decide +kernel
theorem dX10_against_32 : decode cX10_against 32 = .ok (.iload_n 2, 1) := by decide +kernel
theorem dX10_against_33 : decode cX10_against 33 = .ok (.aload_n 0, 1) := by decide +kernel
theorem dX10_against_34 : decode cX10_against 34 = .ok (.iload 4, 2) := by decide +kernel
theorem dX10_against_36 : decode cX10_against 36 = .ok (.invokevirtual 107, 3) := by decide +kernel
theorem dX10_against_39 : decode cX10_against 39 = .ok (.invokevirtual 110, 3) := by decide +kernel
theorem dX10_against_42 : decode cX10_against 42 = .ok (.ifCond .eq 10, 3) := by decide +kernel
theorem dX10_against_45 : decode cX10_against 45 = .ok (.iconst 1, 1) := by decide +kernel
theorem dX10_against_46 : decode cX10_against 46 = .ok (.iload 4, 2) := by decide +kernel
theorem dX10_against_48 : decode cX10_against 48 = .ok (.ishl, 1) := by decide +kernel
theorem dX10_against_49 : decode cX10_against 49 = .ok (.goto 4, 3) := by decide +kernel
theorem dX10_against_52 : decode cX10_against 52 = .ok (.iconst 0, 1) := by decide +kernel
theorem dX10_against_53 : decode cX10_against 53 = .ok (.ior, 1) := by decide +kernel
theorem dX10_against_54 : decode cX10_against 54 = .ok (.istore_n 3, 1) := by decide +kernel
theorem dX10_against_55 : decode cX10_against 55 = .ok (.iinc 4 1, 3) := by decide +kernel
theorem dX10_against_58 : decode cX10_against 58 = .ok (.goto (-53), 3) := by decide +kernel
theorem dX10_against_61 : decode cX10_against 61 = .ok (.iload_n 3, 1) := by decide +kernel
theorem dX10_against_62 : decode cX10_against 62 = .ok (.ireturn, 1) := by decide +kernel
theorem dX10_ofPerson_0 : decode cX10_ofPerson 0 = .ok (.aload_n 0, 1) := by decide +kernel
theorem dX10_ofPerson_1 : decode cX10_ofPerson 1 = .ok (.iload_n 1, 1) := by decide +kernel
theorem dX10_ofPerson_2 : decode cX10_ofPerson 2 = .ok (.invokevirtual 113, 3) := by decide +kernel
theorem dX10_ofPerson_5 : decode cX10_ofPerson 5 = .ok (.ifCond .eq 15, 3) := by decide +kernel
theorem dX10_ofPerson_8 : decode cX10_ofPerson 8 = .ok (.iload_n 2, 1) := by decide +kernel
theorem dX10_ofPerson_9 : decode cX10_ofPerson 9 = .ok (.i2l, 1) := by decide +kernel
theorem dX10_ofPerson_10 : decode cX10_ofPerson 10 = .ok (.lconst 0, 1) := by decide +kernel
theorem dX10_ofPerson_11 : decode cX10_ofPerson 11 = .ok (.ldc2_w 116, 3) := by decide +kernel
theorem dX10_ofPerson_14 : decode cX10_ofPerson 14 = .ok (.invokestatic 48, 3) := by decide +kernel
theorem dX10_ofPerson_17 : decode cX10_ofPerson 17 = .ok (.ifCond .ne 10, 3) := by decide +kernel
theorem dX10_ofPerson_20 : decode cX10_ofPerson 20 = .ok (.aload_n 0, 1) := by decide +kernel
theorem dX10_ofPerson_21 : decode cX10_ofPerson 21 = .ok (.ldc 62, 2) := by decide +kernel
theorem dX10_ofPerson_23 : decode cX10_ofPerson 23 = .ok (.invokevirtual 63, 3) := by decide +kernel
theorem dX10_ofPerson_26 : decode cX10_ofPerson 26 = .ok (.ireturn, 1) := by decide +kernel
theorem dX10_ofPerson_27 : decode cX10_ofPerson 27 = .ok (.iload_n 2, 1) := by decide +kernel
theorem dX10_ofPerson_28 : decode cX10_ofPerson 28 = .ok (.iconst 4, 1) := by decide +kernel
theorem dX10_ofPerson_29 : decode cX10_ofPerson 29 = .ok (.if_icmp .ge 12, 3) := by decide +kernel
theorem dX10_ofPerson_32 : decode cX10_ofPerson 32 = .ok (.aload_n 0, 1) := by decide +kernel
theorem dX10_ofPerson_33 : decode cX10_ofPerson 33 = .ok (.iload_n 1, 1) := by decide +kernel
theorem dX10_ofPerson_34 : decode cX10_ofPerson 34 = .ok (.iload_n 2, 1) := by decide +kernel
theorem dX10_ofPerson_35 : decode cX10_ofPerson 35 = .ok (.invokevirtual 91, 3) := by decide +kernel
theorem dX10_ofPerson_38 : decode cX10_ofPerson 38 = .ok (.goto 13, 3) := by decide +kernel
theorem dX10_ofPerson_41 : decode cX10_ofPerson 41 = .ok (.aload_n 0, 1) := by decide +kernel
theorem dX10_ofPerson_42 : decode cX10_ofPerson 42 = .ok (.iload_n 1, 1) := by decide +kernel
theorem dX10_ofPerson_43 : decode cX10_ofPerson 43 = .ok (.aload_n 0, 1) := by decide +kernel
theorem dX10_ofPerson_44 : decode cX10_ofPerson 44 = .ok (.iload_n 1, 1) := by decide +kernel
theorem dX10_ofPerson_45 : decode cX10_ofPerson 45 = .ok (.invokevirtual 107, 3) := by decide +kernel
theorem dX10_ofPerson_48 : decode cX10_ofPerson 48 = .ok (.invokevirtual 118, 3) := by decide +kernel
theorem dX10_ofPerson_51 : decode cX10_ofPerson 51 = .ok (.ireturn, 1) := by decide +kernel
theorem dX10_above_0 : decode cX10_above 0 = .ok (.iload_n 0, 1) := by decide +kernel
theorem dX10_above_1 : decode cX10_above 1 = .ok (.tableswitch 51 0 6 #[43, 51, 51, 51, 45, 47, 49], 43) := by decide +kernel
theorem dX10_above_44 : decode cX10_above 44 = .ok (.iconst (-1), 1) := by decide +kernel
theorem dX10_above_45 : decode cX10_above 45 = .ok (.ireturn, 1) := by decide +kernel
theorem dX10_above_46 : decode cX10_above 46 = .ok (.iconst 2, 1) := by decide +kernel
theorem dX10_above_47 : decode cX10_above 47 = .ok (.ireturn, 1) := by decide +kernel
theorem dX10_above_48 : decode cX10_above 48 = .ok (.iconst 1, 1) := by decide +kernel
theorem dX10_above_49 : decode cX10_above 49 = .ok (.ireturn, 1) := by decide +kernel
theorem dX10_above_50 : decode cX10_above 50 = .ok (.iconst 3, 1) := by decide +kernel
theorem dX10_above_51 : decode cX10_above 51 = .ok (.ireturn, 1) := by decide +kernel
theorem dX10_above_52 : decode cX10_above 52 = .ok (.iconst 0, 1) := by decide +kernel
theorem dX10_above_53 : decode cX10_above 53 = .ok (.ireturn, 1) := by decide +kernel
theorem dX10_isUnder_0 : decode cX10_isUnder 0 = .ok (.iload_n 0, 1) := by decide +kernel
theorem dX10_isUnder_1 : decode cX10_isUnder 1 = .ok (.istore_n 2, 1) := by decide +kernel
theorem dX10_isUnder_2 : decode cX10_isUnder 2 = .ok (.iload_n 2, 1) := by decide +kernel
theorem dX10_isUnder_3 : decode cX10_isUnder 3 = .ok (.ifCond .lt 18, 3) := by decide +kernel
theorem dX10_isUnder_6 : decode cX10_isUnder 6 = .ok (.iload_n 2, 1) := by decide +kernel
theorem dX10_isUnder_7 : decode cX10_isUnder 7 = .ok (.iload_n 1, 1) := by decide +kernel
theorem dX10_isUnder_8 : decode cX10_isUnder 8 = .ok (.if_icmp .ne 5, 3) := by decide +kernel
theorem dX10_isUnder_11 : decode cX10_isUnder 11 = .ok (.iconst 1, 1) := by decide +kernel
theorem dX10_isUnder_12 : decode cX10_isUnder 12 = .ok (.ireturn, 1) := by decide +kernel
theorem dX10_isUnder_13 : decode cX10_isUnder 13 = .ok (.iload_n 2, 1) := by decide +kernel
theorem dX10_isUnder_14 : decode cX10_isUnder 14 = .ok (.invokestatic 121, 3) := by decide +kernel
theorem dX10_isUnder_17 : decode cX10_isUnder 17 = .ok (.istore_n 2, 1) := by decide +kernel
theorem dX10_isUnder_18 : decode cX10_isUnder 18 = .ok (.goto (-16), 3) := by decide +kernel
theorem dX10_isUnder_21 : decode cX10_isUnder 21 = .ok (.iconst 0, 1) := by decide +kernel
theorem dX10_isUnder_22 : decode cX10_isUnder 22 = .ok (.ireturn, 1) := by decide +kernel
theorem dX10_as_0 : decode cX10_as 0 = .ok (.aload_n 0, 1) := by decide +kernel
theorem dX10_as_1 : decode cX10_as 1 = .ok (.iload_n 1, 1) := by decide +kernel
theorem dX10_as_2 : decode cX10_as 2 = .ok (.invokevirtual 113, 3) := by decide +kernel
theorem dX10_as_5 : decode cX10_as 5 = .ok (.ifCond .eq 10, 3) := by decide +kernel
theorem dX10_as_8 : decode cX10_as 8 = .ok (.iload_n 2, 1) := by decide +kernel
theorem dX10_as_9 : decode cX10_as 9 = .ok (.invokestatic 94, 3) := by decide +kernel
theorem dX10_as_12 : decode cX10_as 12 = .ok (.ifCond .ne 10, 3) := by decide +kernel
theorem dX10_as_15 : decode cX10_as 15 = .ok (.aload_n 0, 1) := by decide +kernel
theorem dX10_as_16 : decode cX10_as 16 = .ok (.ldc 62, 2) := by decide +kernel
theorem dX10_as_18 : decode cX10_as 18 = .ok (.invokevirtual 63, 3) := by decide +kernel
theorem dX10_as_21 : decode cX10_as 21 = .ok (.ireturn, 1) := by decide +kernel
theorem dX10_as_22 : decode cX10_as 22 = .ok (.aload_n 0, 1) := by decide +kernel
theorem dX10_as_23 : decode cX10_as 23 = .ok (.iload_n 1, 1) := by decide +kernel
theorem dX10_as_24 : decode cX10_as 24 = .ok (.iconst 0, 1) := by decide +kernel
theorem dX10_as_25 : decode cX10_as 25 = .ok (.invokevirtual 91, 3) := by decide +kernel
theorem dX10_as_28 : decode cX10_as 28 = .ok (.iload_n 2, 1) := by decide +kernel
theorem dX10_as_29 : decode cX10_as 29 = .ok (.invokestatic 124, 3) := by decide +kernel
theorem dX10_as_32 : decode cX10_as 32 = .ok (.ifCond .eq 11, 3) := by decide +kernel
theorem dX10_as_35 : decode cX10_as 35 = .ok (.aload_n 0, 1) := by decide +kernel
theorem dX10_as_36 : decode cX10_as 36 = .ok (.iload_n 1, 1) := by decide +kernel
theorem dX10_as_37 : decode cX10_as 37 = .ok (.invokevirtual 107, 3) := by decide +kernel
theorem dX10_as_40 : decode cX10_as 40 = .ok (.goto 9, 3) := by decide +kernel
theorem dX10_as_43 : decode cX10_as 43 = .ok (.aload_n 0, 1) := by decide +kernel
theorem dX10_as_44 : decode cX10_as 44 = .ok (.ldc 127, 2) := by decide +kernel
theorem dX10_as_46 : decode cX10_as 46 = .ok (.invokevirtual 63, 3) := by decide +kernel
theorem dX10_as_49 : decode cX10_as 49 = .ok (.ireturn, 1) := by decide +kernel
theorem dX10_call_0 : decode cX10_call 0 = .ok (.aload_n 0, 1) := by decide +kernel
theorem dX10_call_1 : decode cX10_call 1 = .ok (.iload_n 1, 1) := by decide +kernel
theorem dX10_call_2 : decode cX10_call 2 = .ok (.invokevirtual 113, 3) := by decide +kernel
theorem dX10_call_5 : decode cX10_call 5 = .ok (.ifCond .eq 33, 3) := by decide +kernel
theorem dX10_call_8 : decode cX10_call 8 = .ok (.iload_n 2, 1) := by decide +kernel
theorem dX10_call_9 : decode cX10_call 9 = .ok (.iconst (-1), 1) := by decide +kernel
theorem dX10_call_10 : decode cX10_call 10 = .ok (.if_icmp .eq 11, 3) := by decide +kernel
theorem dX10_call_13 : decode cX10_call 13 = .ok (.aload_n 0, 1) := by decide +kernel
theorem dX10_call_14 : decode cX10_call 14 = .ok (.iload_n 2, 1) := by decide +kernel
theorem dX10_call_15 : decode cX10_call 15 = .ok (.invokevirtual 78, 3) := by decide +kernel
theorem dX10_call_18 : decode cX10_call 18 = .ok (.ifCond .eq 20, 3) := by decide +kernel
theorem dX10_call_21 : decode cX10_call 21 = .ok (.aload_n 0, 1) := by decide +kernel
theorem dX10_call_22 : decode cX10_call 22 = .ok (.sipush 160, 3) := by decide +kernel
theorem dX10_call_25 : decode cX10_call 25 = .ok (.iconst 4, 1) := by decide +kernel
theorem dX10_call_26 : decode cX10_call 26 = .ok (.iload_n 1, 1) := by decide +kernel
theorem dX10_call_27 : decode cX10_call 27 = .ok (.imul, 1) := by decide +kernel
theorem dX10_call_28 : decode cX10_call 28 = .ok (.iadd, 1) := by decide +kernel
theorem dX10_call_29 : decode cX10_call 29 = .ok (.iconst 2, 1) := by decide +kernel
theorem dX10_call_30 : decode cX10_call 30 = .ok (.iadd, 1) := by decide +kernel
theorem dX10_call_31 : decode cX10_call 31 = .ok (.iload_n 2, 1) := by decide +kernel
theorem dX10_call_32 : decode cX10_call 32 = .ok (.invokevirtual 84, 3) := by decide +kernel
theorem dX10_call_35 : decode cX10_call 35 = .ok (.goto 9, 3) := by decide +kernel
theorem dX10_call_38 : decode cX10_call 38 = .ok (.aload_n 0, 1) := by decide +kernel
theorem dX10_call_39 : decode cX10_call 39 = .ok (.ldc 62, 2) := by decide +kernel
theorem dX10_call_41 : decode cX10_call 41 = .ok (.invokevirtual 63, 3) := by decide +kernel
theorem dX10_call_44 : decode cX10_call 44 = .ok (.ireturn, 1) := by decide +kernel
theorem dX10_nearEach_0 : decode cX10_nearEach 0 = .ok (.sipush 160, 3) := by decide +kernel
theorem dX10_nearEach_3 : decode cX10_nearEach 3 = .ok (.iconst 4, 1) := by decide +kernel
theorem dX10_nearEach_4 : decode cX10_nearEach 4 = .ok (.iload_n 1, 1) := by decide +kernel
theorem dX10_nearEach_5 : decode cX10_nearEach 5 = .ok (.imul, 1) := by decide +kernel
theorem dX10_nearEach_6 : decode cX10_nearEach 6 = .ok (.iadd, 1) := by decide +kernel
theorem dX10_nearEach_7 : decode cX10_nearEach 7 = .ok (.iconst 3, 1) := by decide +kernel
theorem dX10_nearEach_8 : decode cX10_nearEach 8 = .ok (.iadd, 1) := by decide +kernel
theorem dX10_nearEach_9 : decode cX10_nearEach 9 = .ok (.istore 4, 2) := by decide +kernel
theorem dX10_nearEach_11 : decode cX10_nearEach 11 = .ok (.sipush 160, 3) := by decide +kernel
theorem dX10_nearEach_14 : decode cX10_nearEach 14 = .ok (.iconst 4, 1) := by decide +kernel
theorem dX10_nearEach_15 : decode cX10_nearEach 15 = .ok (.iload_n 2, 1) := by decide +kernel
theorem dX10_nearEach_16 : decode cX10_nearEach 16 = .ok (.imul, 1) := by decide +kernel
theorem dX10_nearEach_17 : decode cX10_nearEach 17 = .ok (.iadd, 1) := by decide +kernel
theorem dX10_nearEach_18 : decode cX10_nearEach 18 = .ok (.iconst 3, 1) := by decide +kernel
theorem dX10_nearEach_19 : decode cX10_nearEach 19 = .ok (.iadd, 1) := by decide +kernel
theorem dX10_nearEach_20 : decode cX10_nearEach 20 = .ok (.istore 5, 2) := by decide +kernel
theorem dX10_nearEach_22 : decode cX10_nearEach 22 = .ok (.aload_n 0, 1) := by decide +kernel
theorem dX10_nearEach_23 : decode cX10_nearEach 23 = .ok (.getfield 9, 3) := by decide +kernel
theorem dX10_nearEach_26 : decode cX10_nearEach 26 = .ok (.iload 4, 2) := by decide +kernel
theorem dX10_nearEach_28 : decode cX10_nearEach 28 = .ok (.iload_n 3, 1) := by decide +kernel
theorem dX10_nearEach_29 : decode cX10_nearEach 29 = .ok (.ifCond .eq 17, 3) := by decide +kernel
theorem dX10_nearEach_32 : decode cX10_nearEach 32 = .ok (.aload_n 0, 1) := by decide +kernel
theorem dX10_nearEach_33 : decode cX10_nearEach 33 = .ok (.getfield 9, 3) := by decide +kernel
theorem dX10_nearEach_36 : decode cX10_nearEach 36 = .ok (.iload 4, 2) := by decide +kernel
theorem dX10_nearEach_38 : decode cX10_nearEach 38 = .ok (.iaload, 1) := by decide +kernel
theorem dX10_nearEach_39 : decode cX10_nearEach 39 = .ok (.iconst 1, 1) := by decide +kernel
theorem dX10_nearEach_40 : decode cX10_nearEach 40 = .ok (.iload_n 2, 1) := by decide +kernel
theorem dX10_nearEach_41 : decode cX10_nearEach 41 = .ok (.ishl, 1) := by decide +kernel
theorem dX10_nearEach_42 : decode cX10_nearEach 42 = .ok (.ior, 1) := by decide +kernel
theorem dX10_nearEach_43 : decode cX10_nearEach 43 = .ok (.goto 16, 3) := by decide +kernel
theorem dX10_nearEach_46 : decode cX10_nearEach 46 = .ok (.aload_n 0, 1) := by decide +kernel
theorem dX10_nearEach_47 : decode cX10_nearEach 47 = .ok (.getfield 9, 3) := by decide +kernel
theorem dX10_nearEach_50 : decode cX10_nearEach 50 = .ok (.iload 4, 2) := by decide +kernel
theorem dX10_nearEach_52 : decode cX10_nearEach 52 = .ok (.iaload, 1) := by decide +kernel
theorem dX10_nearEach_53 : decode cX10_nearEach 53 = .ok (.iconst 1, 1) := by decide +kernel
theorem dX10_nearEach_54 : decode cX10_nearEach 54 = .ok (.iload_n 2, 1) := by decide +kernel
theorem dX10_nearEach_55 : decode cX10_nearEach 55 = .ok (.ishl, 1) := by decide +kernel
theorem dX10_nearEach_56 : decode cX10_nearEach 56 = .ok (.iconst (-1), 1) := by decide +kernel
theorem dX10_nearEach_57 : decode cX10_nearEach 57 = .ok (.ixor, 1) := by decide +kernel
theorem dX10_nearEach_58 : decode cX10_nearEach 58 = .ok (.iand, 1) := by decide +kernel
theorem dX10_nearEach_59 : decode cX10_nearEach 59 = .ok (.iastore, 1) := by decide +kernel
theorem dX10_nearEach_60 : decode cX10_nearEach 60 = .ok (.aload_n 0, 1) := by decide +kernel
theorem dX10_nearEach_61 : decode cX10_nearEach 61 = .ok (.getfield 9, 3) := by decide +kernel
theorem dX10_nearEach_64 : decode cX10_nearEach 64 = .ok (.iload 5, 2) := by decide +kernel
theorem dX10_nearEach_66 : decode cX10_nearEach 66 = .ok (.iload_n 3, 1) := by decide +kernel
theorem dX10_nearEach_67 : decode cX10_nearEach 67 = .ok (.ifCond .eq 17, 3) := by decide +kernel
theorem dX10_nearEach_70 : decode cX10_nearEach 70 = .ok (.aload_n 0, 1) := by decide +kernel
theorem dX10_nearEach_71 : decode cX10_nearEach 71 = .ok (.getfield 9, 3) := by decide +kernel
theorem dX10_nearEach_74 : decode cX10_nearEach 74 = .ok (.iload 5, 2) := by decide +kernel
theorem dX10_nearEach_76 : decode cX10_nearEach 76 = .ok (.iaload, 1) := by decide +kernel
theorem dX10_nearEach_77 : decode cX10_nearEach 77 = .ok (.iconst 1, 1) := by decide +kernel
theorem dX10_nearEach_78 : decode cX10_nearEach 78 = .ok (.iload_n 1, 1) := by decide +kernel
theorem dX10_nearEach_79 : decode cX10_nearEach 79 = .ok (.ishl, 1) := by decide +kernel
theorem dX10_nearEach_80 : decode cX10_nearEach 80 = .ok (.ior, 1) := by decide +kernel
theorem dX10_nearEach_81 : decode cX10_nearEach 81 = .ok (.goto 16, 3) := by decide +kernel
theorem dX10_nearEach_84 : decode cX10_nearEach 84 = .ok (.aload_n 0, 1) := by decide +kernel
theorem dX10_nearEach_85 : decode cX10_nearEach 85 = .ok (.getfield 9, 3) := by decide +kernel
theorem dX10_nearEach_88 : decode cX10_nearEach 88 = .ok (.iload 5, 2) := by decide +kernel
theorem dX10_nearEach_90 : decode cX10_nearEach 90 = .ok (.iaload, 1) := by decide +kernel
theorem dX10_nearEach_91 : decode cX10_nearEach 91 = .ok (.iconst 1, 1) := by decide +kernel
theorem dX10_nearEach_92 : decode cX10_nearEach 92 = .ok (.iload_n 1, 1) := by decide +kernel
theorem dX10_nearEach_93 : decode cX10_nearEach 93 = .ok (.ishl, 1) := by decide +kernel
theorem dX10_nearEach_94 : decode cX10_nearEach 94 = .ok (.iconst (-1), 1) := by decide +kernel
theorem dX10_nearEach_95 : decode cX10_nearEach 95 = .ok (.ixor, 1) := by decide +kernel
theorem dX10_nearEach_96 : decode cX10_nearEach 96 = .ok (.iand, 1) := by decide +kernel
theorem dX10_nearEach_97 : decode cX10_nearEach 97 = .ok (.iastore, 1) := by decide +kernel
theorem dX10_nearEach_98 : decode cX10_nearEach 98 = .ok (.return_, 1) := by decide +kernel
theorem dX10_areTwo_0 : decode cX10_areTwo 0 = .ok (.aload_n 0, 1) := by decide +kernel
theorem dX10_areTwo_1 : decode cX10_areTwo 1 = .ok (.iload_n 1, 1) := by decide +kernel
theorem dX10_areTwo_2 : decode cX10_areTwo 2 = .ok (.invokevirtual 113, 3) := by decide +kernel
theorem dX10_areTwo_5 : decode cX10_areTwo 5 = .ok (.ifCond .eq 20, 3) := by decide +kernel
theorem dX10_areTwo_8 : decode cX10_areTwo 8 = .ok (.aload_n 0, 1) := by decide +kernel
theorem dX10_areTwo_9 : decode cX10_areTwo 9 = .ok (.iload_n 2, 1) := by decide +kernel
theorem dX10_areTwo_10 : decode cX10_areTwo 10 = .ok (.invokevirtual 113, 3) := by decide +kernel
theorem dX10_areTwo_13 : decode cX10_areTwo 13 = .ok (.ifCond .eq 12, 3) := by decide +kernel
theorem dX10_areTwo_16 : decode cX10_areTwo 16 = .ok (.iload_n 1, 1) := by decide +kernel
theorem dX10_areTwo_17 : decode cX10_areTwo 17 = .ok (.iload_n 2, 1) := by decide +kernel
theorem dX10_areTwo_18 : decode cX10_areTwo 18 = .ok (.if_icmp .eq 7, 3) := by decide +kernel
theorem dX10_areTwo_21 : decode cX10_areTwo 21 = .ok (.iconst 1, 1) := by decide +kernel
theorem dX10_areTwo_22 : decode cX10_areTwo 22 = .ok (.goto 4, 3) := by decide +kernel
theorem dX10_areTwo_25 : decode cX10_areTwo 25 = .ok (.iconst 0, 1) := by decide +kernel
theorem dX10_areTwo_26 : decode cX10_areTwo 26 = .ok (.ireturn, 1) := by decide +kernel
theorem dX10_near_0 : decode cX10_near 0 = .ok (.aload_n 0, 1) := by decide +kernel
theorem dX10_near_1 : decode cX10_near 1 = .ok (.iload_n 1, 1) := by decide +kernel
theorem dX10_near_2 : decode cX10_near 2 = .ok (.iload_n 2, 1) := by decide +kernel
theorem dX10_near_3 : decode cX10_near 3 = .ok (.invokevirtual 128, 3) := by decide +kernel
theorem dX10_near_6 : decode cX10_near 6 = .ok (.ifCond .eq 13, 3) := by decide +kernel
theorem dX10_near_9 : decode cX10_near 9 = .ok (.iload_n 3, 1) := by decide +kernel
theorem dX10_near_10 : decode cX10_near 10 = .ok (.i2l, 1) := by decide +kernel
theorem dX10_near_11 : decode cX10_near 11 = .ok (.lconst 0, 1) := by decide +kernel
theorem dX10_near_12 : decode cX10_near 12 = .ok (.lconst 1, 1) := by decide +kernel
theorem dX10_near_13 : decode cX10_near 13 = .ok (.invokestatic 48, 3) := by decide +kernel
theorem dX10_near_16 : decode cX10_near 16 = .ok (.ifCond .ne 10, 3) := by decide +kernel
theorem dX10_near_19 : decode cX10_near 19 = .ok (.aload_n 0, 1) := by decide +kernel
theorem dX10_near_20 : decode cX10_near 20 = .ok (.ldc 62, 2) := by decide +kernel
theorem dX10_near_22 : decode cX10_near 22 = .ok (.invokevirtual 63, 3) := by decide +kernel
theorem dX10_near_25 : decode cX10_near 25 = .ok (.ireturn, 1) := by decide +kernel
theorem dX10_near_26 : decode cX10_near 26 = .ok (.aload_n 0, 1) := by decide +kernel
theorem dX10_near_27 : decode cX10_near 27 = .ok (.iload_n 1, 1) := by decide +kernel
theorem dX10_near_28 : decode cX10_near 28 = .ok (.iconst 3, 1) := by decide +kernel
theorem dX10_near_29 : decode cX10_near 29 = .ok (.invokevirtual 91, 3) := by decide +kernel
theorem dX10_near_32 : decode cX10_near 32 = .ok (.iload_n 2, 1) := by decide +kernel
theorem dX10_near_33 : decode cX10_near 33 = .ok (.ishr, 1) := by decide +kernel
theorem dX10_near_34 : decode cX10_near 34 = .ok (.iconst 1, 1) := by decide +kernel
theorem dX10_near_35 : decode cX10_near 35 = .ok (.iand, 1) := by decide +kernel
theorem dX10_near_36 : decode cX10_near 36 = .ok (.istore 4, 2) := by decide +kernel
theorem dX10_near_38 : decode cX10_near 38 = .ok (.aload_n 0, 1) := by decide +kernel
theorem dX10_near_39 : decode cX10_near 39 = .ok (.iload_n 1, 1) := by decide +kernel
theorem dX10_near_40 : decode cX10_near 40 = .ok (.iload_n 2, 1) := by decide +kernel
theorem dX10_near_41 : decode cX10_near 41 = .ok (.iload_n 3, 1) := by decide +kernel
theorem dX10_near_42 : decode cX10_near 42 = .ok (.iconst 1, 1) := by decide +kernel
theorem dX10_near_43 : decode cX10_near 43 = .ok (.if_icmp .ne 7, 3) := by decide +kernel
theorem dX10_near_46 : decode cX10_near 46 = .ok (.iconst 1, 1) := by decide +kernel
theorem dX10_near_47 : decode cX10_near 47 = .ok (.goto 4, 3) := by decide +kernel
theorem dX10_near_50 : decode cX10_near 50 = .ok (.iconst 0, 1) := by decide +kernel
theorem dX10_near_51 : decode cX10_near 51 = .ok (.invokevirtual 131, 3) := by decide +kernel
theorem dX10_near_54 : decode cX10_near 54 = .ok (.iload 4, 2) := by decide +kernel
theorem dX10_near_56 : decode cX10_near 56 = .ok (.ireturn, 1) := by decide +kernel
theorem dX10_nears_0 : decode cX10_nears 0 = .ok (.iload_n 1, 1) := by decide +kernel
theorem dX10_nears_1 : decode cX10_nears 1 = .ok (.invokestatic 135, 3) := by decide +kernel
theorem dX10_nears_4 : decode cX10_nears 4 = .ok (.ifCond .ne 10, 3) := by decide +kernel
theorem dX10_nears_7 : decode cX10_nears 7 = .ok (.aload_n 0, 1) := by decide +kernel
theorem dX10_nears_8 : decode cX10_nears 8 = .ok (.ldc 62, 2) := by decide +kernel
theorem dX10_nears_10 : decode cX10_nears 10 = .ok (.invokevirtual 63, 3) := by decide +kernel
theorem dX10_nears_13 : decode cX10_nears 13 = .ok (.ireturn, 1) := by decide +kernel
theorem dX10_nears_14 : decode cX10_nears 14 = .ok (.aload_n 0, 1) := by decide +kernel
theorem dX10_nears_15 : decode cX10_nears 15 = .ok (.getfield 38, 3) := by decide +kernel
theorem dX10_nears_18 : decode cX10_nears 18 = .ok (.iload_n 1, 1) := by decide +kernel
theorem dX10_nears_19 : decode cX10_nears 19 = .ok (.iaload, 1) := by decide +kernel
theorem dX10_nears_20 : decode cX10_nears 20 = .ok (.ifCond .ne 10, 3) := by decide +kernel
theorem dX10_nears_23 : decode cX10_nears 23 = .ok (.aload_n 0, 1) := by decide +kernel
theorem dX10_nears_24 : decode cX10_nears 24 = .ok (.ldc 138, 2) := by decide +kernel
theorem dX10_nears_26 : decode cX10_nears 26 = .ok (.invokevirtual 63, 3) := by decide +kernel
theorem dX10_nears_29 : decode cX10_nears 29 = .ok (.ireturn, 1) := by decide +kernel
theorem dX10_nears_30 : decode cX10_nears 30 = .ok (.iconst 0, 1) := by decide +kernel
theorem dX10_nears_31 : decode cX10_nears 31 = .ok (.istore_n 2, 1) := by decide +kernel
theorem dX10_nears_32 : decode cX10_nears 32 = .ok (.iconst 0, 1) := by decide +kernel
theorem dX10_nears_33 : decode cX10_nears 33 = .ok (.istore_n 3, 1) := by decide +kernel
theorem dX10_nears_34 : decode cX10_nears 34 = .ok (.iload_n 3, 1) := by decide +kernel
theorem dX10_nears_35 : decode cX10_nears 35 = .ok (.iconst 1, 1) := by decide +kernel
theorem dX10_nears_36 : decode cX10_nears 36 = .ok (.iadd, 1) := by decide +kernel
theorem dX10_nears_37 : decode cX10_nears 37 = .ok (.aload_n 0, 1) := by decide +kernel
theorem dX10_nears_38 : decode cX10_nears 38 = .ok (.getfield 41, 3) := by decide +kernel
theorem dX10_nears_41 : decode cX10_nears 41 = .ok (.iload_n 1, 1) := by decide +kernel
theorem dX10_nears_42 : decode cX10_nears 42 = .ok (.iaload, 1) := by decide +kernel
theorem dX10_nears_43 : decode cX10_nears 43 = .ok (.if_icmp .ge 62, 3) := by decide +kernel
theorem dX10_nears_46 : decode cX10_nears 46 = .ok (.aload_n 0, 1) := by decide +kernel
theorem dX10_nears_47 : decode cX10_nears 47 = .ok (.getfield 44, 3) := by decide +kernel
theorem dX10_nears_50 : decode cX10_nears 50 = .ok (.bipush 40, 2) := by decide +kernel
theorem dX10_nears_52 : decode cX10_nears 52 = .ok (.iload_n 1, 1) := by decide +kernel
theorem dX10_nears_53 : decode cX10_nears 53 = .ok (.imul, 1) := by decide +kernel
theorem dX10_nears_54 : decode cX10_nears 54 = .ok (.iload_n 3, 1) := by decide +kernel
theorem dX10_nears_55 : decode cX10_nears 55 = .ok (.iadd, 1) := by decide +kernel
theorem dX10_nears_56 : decode cX10_nears 56 = .ok (.iaload, 1) := by decide +kernel
theorem dX10_nears_57 : decode cX10_nears 57 = .ok (.istore 4, 2) := by decide +kernel
theorem dX10_nears_59 : decode cX10_nears 59 = .ok (.aload_n 0, 1) := by decide +kernel
theorem dX10_nears_60 : decode cX10_nears 60 = .ok (.getfield 44, 3) := by decide +kernel
theorem dX10_nears_63 : decode cX10_nears 63 = .ok (.bipush 40, 2) := by decide +kernel
theorem dX10_nears_65 : decode cX10_nears 65 = .ok (.iload_n 1, 1) := by decide +kernel
theorem dX10_nears_66 : decode cX10_nears 66 = .ok (.imul, 1) := by decide +kernel
theorem dX10_nears_67 : decode cX10_nears 67 = .ok (.iload_n 3, 1) := by decide +kernel
theorem dX10_nears_68 : decode cX10_nears 68 = .ok (.iadd, 1) := by decide +kernel
theorem dX10_nears_69 : decode cX10_nears 69 = .ok (.iconst 1, 1) := by decide +kernel
theorem dX10_nears_70 : decode cX10_nears 70 = .ok (.iadd, 1) := by decide +kernel
theorem dX10_nears_71 : decode cX10_nears 71 = .ok (.iaload, 1) := by decide +kernel
theorem dX10_nears_72 : decode cX10_nears 72 = .ok (.istore 5, 2) := by decide +kernel
theorem dX10_nears_74 : decode cX10_nears 74 = .ok (.aload_n 0, 1) := by decide +kernel
theorem dX10_nears_75 : decode cX10_nears 75 = .ok (.iload 4, 2) := by decide +kernel
theorem dX10_nears_77 : decode cX10_nears 77 = .ok (.iload 5, 2) := by decide +kernel
theorem dX10_nears_79 : decode cX10_nears 79 = .ok (.invokevirtual 128, 3) := by decide +kernel
theorem dX10_nears_82 : decode cX10_nears 82 = .ok (.ifCond .ne 5, 3) := by decide +kernel
theorem dX10_nears_85 : decode cX10_nears 85 = .ok (.iload_n 2, 1) := by decide +kernel
theorem dX10_nears_86 : decode cX10_nears 86 = .ok (.ireturn, 1) := by decide +kernel
theorem dX10_nears_87 : decode cX10_nears 87 = .ok (.aload_n 0, 1) := by decide +kernel
theorem dX10_nears_88 : decode cX10_nears 88 = .ok (.iload 4, 2) := by decide +kernel
theorem dX10_nears_90 : decode cX10_nears 90 = .ok (.iload 5, 2) := by decide +kernel
theorem dX10_nears_92 : decode cX10_nears 92 = .ok (.iconst 1, 1) := by decide +kernel
theorem dX10_nears_93 : decode cX10_nears 93 = .ok (.invokevirtual 131, 3) := by decide +kernel
theorem dX10_nears_96 : decode cX10_nears 96 = .ok (.iinc 2 1, 3) := by decide +kernel
theorem dX10_nears_99 : decode cX10_nears 99 = .ok (.iinc 3 2, 3) := by decide +kernel
theorem dX10_nears_102 : decode cX10_nears 102 = .ok (.goto (-68), 3) := by decide +kernel
theorem dX10_nears_105 : decode cX10_nears 105 = .ok (.iload_n 2, 1) := by decide +kernel
theorem dX10_nears_106 : decode cX10_nears 106 = .ok (.ireturn, 1) := by decide +kernel
theorem dX10_worthBy_0 : decode cX10_worthBy 0 = .ok (.aload_n 0, 1) := by decide +kernel
theorem dX10_worthBy_1 : decode cX10_worthBy 1 = .ok (.iload_n 2, 1) := by decide +kernel
theorem dX10_worthBy_2 : decode cX10_worthBy 2 = .ok (.invokevirtual 139, 3) := by decide +kernel
theorem dX10_worthBy_5 : decode cX10_worthBy 5 = .ok (.istore 5, 2) := by decide +kernel
theorem dX10_worthBy_7 : decode cX10_worthBy 7 = .ok (.iload 5, 2) := by decide +kernel
theorem dX10_worthBy_9 : decode cX10_worthBy 9 = .ok (.iconst 5, 1) := by decide +kernel
theorem dX10_worthBy_10 : decode cX10_worthBy 10 = .ok (.bipush 8, 2) := by decide +kernel
theorem dX10_worthBy_12 : decode cX10_worthBy 12 = .ok (.aload_n 0, 1) := by decide +kernel
theorem dX10_worthBy_13 : decode cX10_worthBy 13 = .ok (.iload_n 2, 1) := by decide +kernel
theorem dX10_worthBy_14 : decode cX10_worthBy 14 = .ok (.invokevirtual 142, 3) := by decide +kernel
theorem dX10_worthBy_17 : decode cX10_worthBy 17 = .ok (.isub, 1) := by decide +kernel
theorem dX10_worthBy_18 : decode cX10_worthBy 18 = .ok (.imul, 1) := by decide +kernel
theorem dX10_worthBy_19 : decode cX10_worthBy 19 = .ok (.iadd, 1) := by decide +kernel
theorem dX10_worthBy_20 : decode cX10_worthBy 20 = .ok (.istore 6, 2) := by decide +kernel
theorem dX10_worthBy_22 : decode cX10_worthBy 22 = .ok (.iload 5, 2) := by decide +kernel
theorem dX10_worthBy_24 : decode cX10_worthBy 24 = .ok (.bipush 10, 2) := by decide +kernel
theorem dX10_worthBy_26 : decode cX10_worthBy 26 = .ok (.aload_n 0, 1) := by decide +kernel
theorem dX10_worthBy_27 : decode cX10_worthBy 27 = .ok (.iload_n 2, 1) := by decide +kernel
theorem dX10_worthBy_28 : decode cX10_worthBy 28 = .ok (.invokevirtual 56, 3) := by decide +kernel
theorem dX10_worthBy_31 : decode cX10_worthBy 31 = .ok (.aload_n 0, 1) := by decide +kernel
theorem dX10_worthBy_32 : decode cX10_worthBy 32 = .ok (.iload_n 3, 1) := by decide +kernel
theorem dX10_worthBy_33 : decode cX10_worthBy 33 = .ok (.invokevirtual 56, 3) := by decide +kernel
theorem dX10_worthBy_36 : decode cX10_worthBy 36 = .ok (.iand, 1) := by decide +kernel
theorem dX10_worthBy_37 : decode cX10_worthBy 37 = .ok (.invokestatic 145, 3) := by decide +kernel
theorem dX10_worthBy_40 : decode cX10_worthBy 40 = .ok (.imul, 1) := by decide +kernel
theorem dX10_worthBy_41 : decode cX10_worthBy 41 = .ok (.iadd, 1) := by decide +kernel
theorem dX10_worthBy_42 : decode cX10_worthBy 42 = .ok (.istore 7, 2) := by decide +kernel
theorem dX10_worthBy_44 : decode cX10_worthBy 44 = .ok (.iload_n 2, 1) := by decide +kernel
theorem dX10_worthBy_45 : decode cX10_worthBy 45 = .ok (.iload 4, 2) := by decide +kernel
theorem dX10_worthBy_47 : decode cX10_worthBy 47 = .ok (.if_icmp .ne 8, 3) := by decide +kernel
theorem dX10_worthBy_50 : decode cX10_worthBy 50 = .ok (.bipush 30, 2) := by decide +kernel
theorem dX10_worthBy_52 : decode cX10_worthBy 52 = .ok (.goto 4, 3) := by decide +kernel
theorem dX10_worthBy_55 : decode cX10_worthBy 55 = .ok (.iconst 0, 1) := by decide +kernel
theorem dX10_worthBy_56 : decode cX10_worthBy 56 = .ok (.istore 8, 2) := by decide +kernel
theorem dX10_worthBy_58 : decode cX10_worthBy 58 = .ok (.iload_n 1, 1) := by decide +kernel
theorem dX10_worthBy_59 : decode cX10_worthBy 59 = .ok (.tableswitch 89 1 6 #[37, 40, 43, 49, 54, 70], 37) := by decide +kernel
theorem dX10_worthBy_96 : decode cX10_worthBy 96 = .ok (.iload 6, 2) := by decide +kernel
theorem dX10_worthBy_98 : decode cX10_worthBy 98 = .ok (.ireturn, 1) := by decide +kernel
theorem dX10_worthBy_99 : decode cX10_worthBy 99 = .ok (.iload 7, 2) := by decide +kernel
theorem dX10_worthBy_101 : decode cX10_worthBy 101 = .ok (.ireturn, 1) := by decide +kernel
theorem dX10_worthBy_102 : decode cX10_worthBy 102 = .ok (.iload 5, 2) := by decide +kernel
theorem dX10_worthBy_104 : decode cX10_worthBy 104 = .ok (.iload 8, 2) := by decide +kernel
theorem dX10_worthBy_106 : decode cX10_worthBy 106 = .ok (.iadd, 1) := by decide +kernel
theorem dX10_worthBy_107 : decode cX10_worthBy 107 = .ok (.ireturn, 1) := by decide +kernel
theorem dX10_worthBy_108 : decode cX10_worthBy 108 = .ok (.iconst 2, 1) := by decide +kernel
theorem dX10_worthBy_109 : decode cX10_worthBy 109 = .ok (.iload 7, 2) := by decide +kernel
theorem dX10_worthBy_111 : decode cX10_worthBy 111 = .ok (.imul, 1) := by decide +kernel
theorem dX10_worthBy_112 : decode cX10_worthBy 112 = .ok (.ireturn, 1) := by decide +kernel
theorem dX10_worthBy_113 : decode cX10_worthBy 113 = .ok (.aload_n 0, 1) := by decide +kernel
theorem dX10_worthBy_114 : decode cX10_worthBy 114 = .ok (.iload_n 2, 1) := by decide +kernel
theorem dX10_worthBy_115 : decode cX10_worthBy 115 = .ok (.invokevirtual 142, 3) := by decide +kernel
theorem dX10_worthBy_118 : decode cX10_worthBy 118 = .ok (.iconst 4, 1) := by decide +kernel
theorem dX10_worthBy_119 : decode cX10_worthBy 119 = .ok (.if_icmp .le 7, 3) := by decide +kernel
theorem dX10_worthBy_122 : decode cX10_worthBy 122 = .ok (.iconst 0, 1) := by decide +kernel
theorem dX10_worthBy_123 : decode cX10_worthBy 123 = .ok (.goto 5, 3) := by decide +kernel
theorem dX10_worthBy_126 : decode cX10_worthBy 126 = .ok (.iload 6, 2) := by decide +kernel
theorem dX10_worthBy_128 : decode cX10_worthBy 128 = .ok (.ireturn, 1) := by decide +kernel
theorem dX10_worthBy_129 : decode cX10_worthBy 129 = .ok (.iload 5, 2) := by decide +kernel
theorem dX10_worthBy_131 : decode cX10_worthBy 131 = .ok (.iload 8, 2) := by decide +kernel
theorem dX10_worthBy_133 : decode cX10_worthBy 133 = .ok (.iadd, 1) := by decide +kernel
theorem dX10_worthBy_134 : decode cX10_worthBy 134 = .ok (.iload_n 2, 1) := by decide +kernel
theorem dX10_worthBy_135 : decode cX10_worthBy 135 = .ok (.iload 4, 2) := by decide +kernel
theorem dX10_worthBy_137 : decode cX10_worthBy 137 = .ok (.if_icmp .ne 8, 3) := by decide +kernel
theorem dX10_worthBy_140 : decode cX10_worthBy 140 = .ok (.bipush 50, 2) := by decide +kernel
theorem dX10_worthBy_142 : decode cX10_worthBy 142 = .ok (.goto 4, 3) := by decide +kernel
theorem dX10_worthBy_145 : decode cX10_worthBy 145 = .ok (.iconst 0, 1) := by decide +kernel
theorem dX10_worthBy_146 : decode cX10_worthBy 146 = .ok (.iadd, 1) := by decide +kernel
theorem dX10_worthBy_147 : decode cX10_worthBy 147 = .ok (.ireturn, 1) := by decide +kernel
theorem dX10_worthBy_148 : decode cX10_worthBy 148 = .ok (.iload 5, 2) := by decide +kernel
theorem dX10_worthBy_150 : decode cX10_worthBy 150 = .ok (.ireturn, 1) := by decide +kernel
theorem dX10_worthOf_0 : decode cX10_worthOf 0 = .ok (.aload_n 0, 1) := by decide +kernel
theorem dX10_worthOf_1 : decode cX10_worthOf 1 = .ok (.iload_n 1, 1) := by decide +kernel
theorem dX10_worthOf_2 : decode cX10_worthOf 2 = .ok (.iconst 1, 1) := by decide +kernel
theorem dX10_worthOf_3 : decode cX10_worthOf 3 = .ok (.invokevirtual 91, 3) := by decide +kernel
theorem dX10_worthOf_6 : decode cX10_worthOf 6 = .ok (.istore 4, 2) := by decide +kernel
theorem dX10_worthOf_8 : decode cX10_worthOf 8 = .ok (.aload_n 0, 1) := by decide +kernel
theorem dX10_worthOf_9 : decode cX10_worthOf 9 = .ok (.aload_n 0, 1) := by decide +kernel
theorem dX10_worthOf_10 : decode cX10_worthOf 10 = .ok (.iload_n 1, 1) := by decide +kernel
theorem dX10_worthOf_11 : decode cX10_worthOf 11 = .ok (.iconst 0, 1) := by decide +kernel
theorem dX10_worthOf_12 : decode cX10_worthOf 12 = .ok (.invokevirtual 91, 3) := by decide +kernel
theorem dX10_worthOf_15 : decode cX10_worthOf 15 = .ok (.iload_n 2, 1) := by decide +kernel
theorem dX10_worthOf_16 : decode cX10_worthOf 16 = .ok (.iload 4, 2) := by decide +kernel
theorem dX10_worthOf_18 : decode cX10_worthOf 18 = .ok (.ifCond .ge 7, 3) := by decide +kernel
theorem dX10_worthOf_21 : decode cX10_worthOf 21 = .ok (.iconst (-1), 1) := by decide +kernel
theorem dX10_worthOf_22 : decode cX10_worthOf 22 = .ok (.goto 9, 3) := by decide +kernel
theorem dX10_worthOf_25 : decode cX10_worthOf 25 = .ok (.aload_n 0, 1) := by decide +kernel
theorem dX10_worthOf_26 : decode cX10_worthOf 26 = .ok (.iload 4, 2) := by decide +kernel
theorem dX10_worthOf_28 : decode cX10_worthOf 28 = .ok (.invokevirtual 107, 3) := by decide +kernel
theorem dX10_worthOf_31 : decode cX10_worthOf 31 = .ok (.iload_n 3, 1) := by decide +kernel
theorem dX10_worthOf_32 : decode cX10_worthOf 32 = .ok (.invokevirtual 148, 3) := by decide +kernel
theorem dX10_worthOf_35 : decode cX10_worthOf 35 = .ok (.aload_n 0, 1) := by decide +kernel
theorem dX10_worthOf_36 : decode cX10_worthOf 36 = .ok (.aload_n 0, 1) := by decide +kernel
theorem dX10_worthOf_37 : decode cX10_worthOf 37 = .ok (.iload_n 2, 1) := by decide +kernel
theorem dX10_worthOf_38 : decode cX10_worthOf 38 = .ok (.invokevirtual 139, 3) := by decide +kernel
theorem dX10_worthOf_41 : decode cX10_worthOf 41 = .ok (.aload_n 0, 1) := by decide +kernel
theorem dX10_worthOf_42 : decode cX10_worthOf 42 = .ok (.iload_n 2, 1) := by decide +kernel
theorem dX10_worthOf_43 : decode cX10_worthOf 43 = .ok (.invokevirtual 142, 3) := by decide +kernel
theorem dX10_worthOf_46 : decode cX10_worthOf 46 = .ok (.iload_n 1, 1) := by decide +kernel
theorem dX10_worthOf_47 : decode cX10_worthOf 47 = .ok (.invokevirtual 152, 3) := by decide +kernel
theorem dX10_worthOf_50 : decode cX10_worthOf 50 = .ok (.iadd, 1) := by decide +kernel
theorem dX10_worthOf_51 : decode cX10_worthOf 51 = .ok (.ireturn, 1) := by decide +kernel
theorem dX10_worth_0 : decode cX10_worth 0 = .ok (.aload_n 0, 1) := by decide +kernel
theorem dX10_worth_1 : decode cX10_worth 1 = .ok (.iload_n 1, 1) := by decide +kernel
theorem dX10_worth_2 : decode cX10_worth 2 = .ok (.invokevirtual 113, 3) := by decide +kernel
theorem dX10_worth_5 : decode cX10_worth 5 = .ok (.ifCond .eq 25, 3) := by decide +kernel
theorem dX10_worth_8 : decode cX10_worth 8 = .ok (.aload_n 0, 1) := by decide +kernel
theorem dX10_worth_9 : decode cX10_worth 9 = .ok (.iload_n 2, 1) := by decide +kernel
theorem dX10_worth_10 : decode cX10_worth 10 = .ok (.invokevirtual 78, 3) := by decide +kernel
theorem dX10_worth_13 : decode cX10_worth 13 = .ok (.ifCond .eq 17, 3) := by decide +kernel
theorem dX10_worth_16 : decode cX10_worth 16 = .ok (.aload_n 0, 1) := by decide +kernel
theorem dX10_worth_17 : decode cX10_worth 17 = .ok (.iload_n 1, 1) := by decide +kernel
theorem dX10_worth_18 : decode cX10_worth 18 = .ok (.iload_n 2, 1) := by decide +kernel
theorem dX10_worth_19 : decode cX10_worth 19 = .ok (.aload_n 0, 1) := by decide +kernel
theorem dX10_worth_20 : decode cX10_worth 20 = .ok (.iload_n 1, 1) := by decide +kernel
theorem dX10_worth_21 : decode cX10_worth 21 = .ok (.invokevirtual 107, 3) := by decide +kernel
theorem dX10_worth_24 : decode cX10_worth 24 = .ok (.invokevirtual 156, 3) := by decide +kernel
theorem dX10_worth_27 : decode cX10_worth 27 = .ok (.goto 9, 3) := by decide +kernel
theorem dX10_worth_30 : decode cX10_worth 30 = .ok (.aload_n 0, 1) := by decide +kernel
theorem dX10_worth_31 : decode cX10_worth 31 = .ok (.ldc 62, 2) := by decide +kernel
theorem dX10_worth_33 : decode cX10_worth 33 = .ok (.invokevirtual 63, 3) := by decide +kernel
theorem dX10_worth_36 : decode cX10_worth 36 = .ok (.ireturn, 1) := by decide +kernel
theorem dX10_isLawful_0 : decode cX10_isLawful 0 = .ok (.iconst 0, 1) := by decide +kernel
theorem dX10_isLawful_1 : decode cX10_isLawful 1 = .ok (.istore_n 1, 1) := by decide +kernel
theorem dX10_isLawful_2 : decode cX10_isLawful 2 = .ok (.iload_n 1, 1) := by decide +kernel
theorem dX10_isLawful_3 : decode cX10_isLawful 3 = .ok (.aload_n 0, 1) := by decide +kernel
theorem dX10_isLawful_4 : decode cX10_isLawful 4 = .ok (.getfield 9, 3) := by decide +kernel
theorem dX10_isLawful_7 : decode cX10_isLawful 7 = .ok (.iconst 1, 1) := by decide +kernel
theorem dX10_isLawful_8 : decode cX10_isLawful 8 = .ok (.iaload, 1) := by decide +kernel
theorem dX10_isLawful_9 : decode cX10_isLawful 9 = .ok (.if_icmp .ge 36, 3) := by decide +kernel
theorem dX10_isLawful_12 : decode cX10_isLawful 12 = .ok (.aload_n 0, 1) := by decide +kernel
theorem dX10_isLawful_13 : decode cX10_isLawful 13 = .ok (.aload_n 0, 1) := by decide +kernel
theorem dX10_isLawful_14 : decode cX10_isLawful 14 = .ok (.iload_n 1, 1) := by decide +kernel
theorem dX10_isLawful_15 : decode cX10_isLawful 15 = .ok (.invokevirtual 107, 3) := by decide +kernel
theorem dX10_isLawful_18 : decode cX10_isLawful 18 = .ok (.invokevirtual 159, 3) := by decide +kernel
theorem dX10_isLawful_21 : decode cX10_isLawful 21 = .ok (.ifCond .ne 16, 3) := by decide +kernel
theorem dX10_isLawful_24 : decode cX10_isLawful 24 = .ok (.aload_n 0, 1) := by decide +kernel
theorem dX10_isLawful_25 : decode cX10_isLawful 25 = .ok (.iload_n 1, 1) := by decide +kernel
theorem dX10_isLawful_26 : decode cX10_isLawful 26 = .ok (.aload_n 0, 1) := by decide +kernel
theorem dX10_isLawful_27 : decode cX10_isLawful 27 = .ok (.iload_n 1, 1) := by decide +kernel
theorem dX10_isLawful_28 : decode cX10_isLawful 28 = .ok (.invokevirtual 107, 3) := by decide +kernel
theorem dX10_isLawful_31 : decode cX10_isLawful 31 = .ok (.invokevirtual 118, 3) := by decide +kernel
theorem dX10_isLawful_34 : decode cX10_isLawful 34 = .ok (.ifCond .eq 5, 3) := by decide +kernel
theorem dX10_isLawful_37 : decode cX10_isLawful 37 = .ok (.iconst 0, 1) := by decide +kernel
theorem dX10_isLawful_38 : decode cX10_isLawful 38 = .ok (.ireturn, 1) := by decide +kernel
theorem dX10_isLawful_39 : decode cX10_isLawful 39 = .ok (.iinc 1 1, 3) := by decide +kernel
theorem dX10_isLawful_42 : decode cX10_isLawful 42 = .ok (.goto (-40), 3) := by decide +kernel
theorem dX10_isLawful_45 : decode cX10_isLawful 45 = .ok (.iconst 1, 1) := by decide +kernel
theorem dX10_isLawful_46 : decode cX10_isLawful 46 = .ok (.ireturn, 1) := by decide +kernel
theorem dX10_lawful_0 : decode cX10_lawful 0 = .ok (.aload_n 0, 1) := by decide +kernel
theorem dX10_lawful_1 : decode cX10_lawful 1 = .ok (.invokevirtual 162, 3) := by decide +kernel
theorem dX10_lawful_4 : decode cX10_lawful 4 = .ok (.ifCond .eq 7, 3) := by decide +kernel
theorem dX10_lawful_7 : decode cX10_lawful 7 = .ok (.iconst 1, 1) := by decide +kernel
theorem dX10_lawful_8 : decode cX10_lawful 8 = .ok (.goto 4, 3) := by decide +kernel
theorem dX10_lawful_11 : decode cX10_lawful 11 = .ok (.iconst 0, 1) := by decide +kernel
theorem dX10_lawful_12 : decode cX10_lawful 12 = .ok (.ireturn, 1) := by decide +kernel
theorem dX10_here_0 : decode cX10_here 0 = .ok (.aload_n 0, 1) := by decide +kernel
theorem dX10_here_1 : decode cX10_here 1 = .ok (.getfield 166, 3) := by decide +kernel
theorem dX10_here_4 : decode cX10_here 4 = .ok (.ifCond .eq 7, 3) := by decide +kernel
theorem dX10_here_7 : decode cX10_here 7 = .ok (.iconst (-1), 1) := by decide +kernel
theorem dX10_here_8 : decode cX10_here 8 = .ok (.goto 11, 3) := by decide +kernel
theorem dX10_here_11 : decode cX10_here 11 = .ok (.aload_n 0, 1) := by decide +kernel
theorem dX10_here_12 : decode cX10_here 12 = .ok (.aload_n 0, 1) := by decide +kernel
theorem dX10_here_13 : decode cX10_here 13 = .ok (.getfield 170, 3) := by decide +kernel
theorem dX10_here_16 : decode cX10_here 16 = .ok (.invokevirtual 71, 3) := by decide +kernel
theorem dX10_here_19 : decode cX10_here 19 = .ok (.ireturn, 1) := by decide +kernel
theorem dX10_takes_0 : decode cX10_takes 0 = .ok (.aload_n 0, 1) := by decide +kernel
theorem dX10_takes_1 : decode cX10_takes 1 = .ok (.invokevirtual 174, 3) := by decide +kernel
theorem dX10_takes_4 : decode cX10_takes 4 = .ok (.iload_n 1, 1) := by decide +kernel
theorem dX10_takes_5 : decode cX10_takes 5 = .ok (.if_icmp .eq 5, 3) := by decide +kernel
theorem dX10_takes_8 : decode cX10_takes 8 = .ok (.iconst 0, 1) := by decide +kernel
theorem dX10_takes_9 : decode cX10_takes 9 = .ok (.ireturn, 1) := by decide +kernel
theorem dX10_takes_10 : decode cX10_takes 10 = .ok (.aload_n 0, 1) := by decide +kernel
theorem dX10_takes_11 : decode cX10_takes 11 = .ok (.dup, 1) := by decide +kernel
theorem dX10_takes_12 : decode cX10_takes 12 = .ok (.getfield 170, 3) := by decide +kernel
theorem dX10_takes_15 : decode cX10_takes 15 = .ok (.iconst 1, 1) := by decide +kernel
theorem dX10_takes_16 : decode cX10_takes 16 = .ok (.iadd, 1) := by decide +kernel
theorem dX10_takes_17 : decode cX10_takes 17 = .ok (.putfield 170, 3) := by decide +kernel
theorem dX10_takes_20 : decode cX10_takes 20 = .ok (.iconst 1, 1) := by decide +kernel
theorem dX10_takes_21 : decode cX10_takes 21 = .ok (.ireturn, 1) := by decide +kernel
theorem dX10_puts_0 : decode cX10_puts 0 = .ok (.aload_n 0, 1) := by decide +kernel
theorem dX10_puts_1 : decode cX10_puts 1 = .ok (.getfield 166, 3) := by decide +kernel
theorem dX10_puts_4 : decode cX10_puts 4 = .ok (.ifCond .eq 4, 3) := by decide +kernel
theorem dX10_puts_7 : decode cX10_puts 7 = .ok (.return_, 1) := by decide +kernel
theorem dX10_puts_8 : decode cX10_puts 8 = .ok (.aload_n 0, 1) := by decide +kernel
theorem dX10_puts_9 : decode cX10_puts 9 = .ok (.getfield 19, 3) := by decide +kernel
theorem dX10_puts_12 : decode cX10_puts 12 = .ok (.aload_n 0, 1) := by decide +kernel
theorem dX10_puts_13 : decode cX10_puts 13 = .ok (.getfield 178, 3) := by decide +kernel
theorem dX10_puts_16 : decode cX10_puts 16 = .ok (.iload_n 1, 1) := by decide +kernel
theorem dX10_puts_17 : decode cX10_puts 17 = .ok (.iastore, 1) := by decide +kernel
theorem dX10_puts_18 : decode cX10_puts 18 = .ok (.aload_n 0, 1) := by decide +kernel
theorem dX10_puts_19 : decode cX10_puts 19 = .ok (.dup, 1) := by decide +kernel
theorem dX10_puts_20 : decode cX10_puts 20 = .ok (.getfield 178, 3) := by decide +kernel
theorem dX10_puts_23 : decode cX10_puts 23 = .ok (.iconst 1, 1) := by decide +kernel
theorem dX10_puts_24 : decode cX10_puts 24 = .ok (.iadd, 1) := by decide +kernel
theorem dX10_puts_25 : decode cX10_puts 25 = .ok (.putfield 178, 3) := by decide +kernel
theorem dX10_puts_28 : decode cX10_puts 28 = .ok (.return_, 1) := by decide +kernel
theorem dX10_whole_0 : decode cX10_whole 0 = .ok (.aload_n 0, 1) := by decide +kernel
theorem dX10_whole_1 : decode cX10_whole 1 = .ok (.invokevirtual 181, 3) := by decide +kernel
theorem dX10_whole_4 : decode cX10_whole 4 = .ok (.aload_n 0, 1) := by decide +kernel
theorem dX10_whole_5 : decode cX10_whole 5 = .ok (.bipush 124, 2) := by decide +kernel
theorem dX10_whole_7 : decode cX10_whole 7 = .ok (.invokevirtual 184, 3) := by decide +kernel
theorem dX10_whole_10 : decode cX10_whole 10 = .ok (.ifCond .eq 17, 3) := by decide +kernel
theorem dX10_whole_13 : decode cX10_whole 13 = .ok (.aload_n 0, 1) := by decide +kernel
theorem dX10_whole_14 : decode cX10_whole 14 = .ok (.invokevirtual 181, 3) := by decide +kernel
theorem dX10_whole_17 : decode cX10_whole 17 = .ok (.aload_n 0, 1) := by decide +kernel
theorem dX10_whole_18 : decode cX10_whole 18 = .ok (.sipush 20124, 3) := by decide +kernel
theorem dX10_whole_21 : decode cX10_whole 21 = .ok (.invokevirtual 187, 3) := by decide +kernel
theorem dX10_whole_24 : decode cX10_whole 24 = .ok (.goto (-20), 3) := by decide +kernel
theorem dX10_whole_27 : decode cX10_whole 27 = .ok (.return_, 1) := by decide +kernel
theorem dX10_both_0 : decode cX10_both 0 = .ok (.aload_n 0, 1) := by decide +kernel
theorem dX10_both_1 : decode cX10_both 1 = .ok (.invokevirtual 191, 3) := by decide +kernel
theorem dX10_both_4 : decode cX10_both 4 = .ok (.aload_n 0, 1) := by decide +kernel
theorem dX10_both_5 : decode cX10_both 5 = .ok (.bipush 38, 2) := by decide +kernel
theorem dX10_both_7 : decode cX10_both 7 = .ok (.invokevirtual 184, 3) := by decide +kernel
theorem dX10_both_10 : decode cX10_both 10 = .ok (.ifCond .eq 17, 3) := by decide +kernel
theorem dX10_both_13 : decode cX10_both 13 = .ok (.aload_n 0, 1) := by decide +kernel
theorem dX10_both_14 : decode cX10_both 14 = .ok (.invokevirtual 191, 3) := by decide +kernel
theorem dX10_both_17 : decode cX10_both 17 = .ok (.aload_n 0, 1) := by decide +kernel
theorem dX10_both_18 : decode cX10_both 18 = .ok (.sipush 20038, 3) := by decide +kernel
theorem dX10_both_21 : decode cX10_both 21 = .ok (.invokevirtual 187, 3) := by decide +kernel
theorem dX10_both_24 : decode cX10_both 24 = .ok (.goto (-20), 3) := by decide +kernel
theorem dX10_both_27 : decode cX10_both 27 = .ok (.return_, 1) := by decide +kernel
theorem dX10_compared_0 : decode cX10_compared 0 = .ok (.aload_n 0, 1) := by decide +kernel
theorem dX10_compared_1 : decode cX10_compared 1 = .ok (.invokevirtual 194, 3) := by decide +kernel
theorem dX10_compared_4 : decode cX10_compared 4 = .ok (.aload_n 0, 1) := by decide +kernel
theorem dX10_compared_5 : decode cX10_compared 5 = .ok (.invokevirtual 174, 3) := by decide +kernel
theorem dX10_compared_8 : decode cX10_compared 8 = .ok (.istore_n 1, 1) := by decide +kernel
theorem dX10_compared_9 : decode cX10_compared 9 = .ok (.iload_n 1, 1) := by decide +kernel
theorem dX10_compared_10 : decode cX10_compared 10 = .ok (.bipush 60, 2) := by decide +kernel
theorem dX10_compared_12 : decode cX10_compared 12 = .ok (.if_icmp .eq 16, 3) := by decide +kernel
theorem dX10_compared_15 : decode cX10_compared 15 = .ok (.iload_n 1, 1) := by decide +kernel
theorem dX10_compared_16 : decode cX10_compared 16 = .ok (.bipush 61, 2) := by decide +kernel
theorem dX10_compared_18 : decode cX10_compared 18 = .ok (.if_icmp .eq 10, 3) := by decide +kernel
theorem dX10_compared_21 : decode cX10_compared 21 = .ok (.iload_n 1, 1) := by decide +kernel
theorem dX10_compared_22 : decode cX10_compared 22 = .ok (.bipush 62, 2) := by decide +kernel
theorem dX10_compared_24 : decode cX10_compared 24 = .ok (.if_icmp .eq 4, 3) := by decide +kernel
theorem dX10_compared_27 : decode cX10_compared 27 = .ok (.return_, 1) := by decide +kernel
theorem dX10_compared_28 : decode cX10_compared 28 = .ok (.aload_n 0, 1) := by decide +kernel
theorem dX10_compared_29 : decode cX10_compared 29 = .ok (.dup, 1) := by decide +kernel
theorem dX10_compared_30 : decode cX10_compared 30 = .ok (.getfield 170, 3) := by decide +kernel
theorem dX10_compared_33 : decode cX10_compared 33 = .ok (.iconst 1, 1) := by decide +kernel
theorem dX10_compared_34 : decode cX10_compared 34 = .ok (.iadd, 1) := by decide +kernel
theorem dX10_compared_35 : decode cX10_compared 35 = .ok (.putfield 170, 3) := by decide +kernel
theorem dX10_compared_38 : decode cX10_compared 38 = .ok (.aload_n 0, 1) := by decide +kernel
theorem dX10_compared_39 : decode cX10_compared 39 = .ok (.invokevirtual 194, 3) := by decide +kernel
theorem dX10_compared_42 : decode cX10_compared 42 = .ok (.aload_n 0, 1) := by decide +kernel
theorem dX10_compared_43 : decode cX10_compared 43 = .ok (.sipush 20000, 3) := by decide +kernel
theorem dX10_compared_46 : decode cX10_compared 46 = .ok (.iload_n 1, 1) := by decide +kernel
theorem dX10_compared_47 : decode cX10_compared 47 = .ok (.iadd, 1) := by decide +kernel
theorem dX10_compared_48 : decode cX10_compared 48 = .ok (.invokevirtual 187, 3) := by decide +kernel
theorem dX10_compared_51 : decode cX10_compared 51 = .ok (.return_, 1) := by decide +kernel
theorem dX10_sum_0 : decode cX10_sum 0 = .ok (.aload_n 0, 1) := by decide +kernel
theorem dX10_sum_1 : decode cX10_sum 1 = .ok (.invokevirtual 197, 3) := by decide +kernel
theorem dX10_sum_4 : decode cX10_sum 4 = .ok (.aload_n 0, 1) := by decide +kernel
theorem dX10_sum_5 : decode cX10_sum 5 = .ok (.invokevirtual 174, 3) := by decide +kernel
theorem dX10_sum_8 : decode cX10_sum 8 = .ok (.bipush 43, 2) := by decide +kernel
theorem dX10_sum_10 : decode cX10_sum 10 = .ok (.if_icmp .eq 12, 3) := by decide +kernel
theorem dX10_sum_13 : decode cX10_sum 13 = .ok (.aload_n 0, 1) := by decide +kernel
theorem dX10_sum_14 : decode cX10_sum 14 = .ok (.invokevirtual 174, 3) := by decide +kernel
theorem dX10_sum_17 : decode cX10_sum 17 = .ok (.bipush 45, 2) := by decide +kernel
theorem dX10_sum_19 : decode cX10_sum 19 = .ok (.if_icmp .ne 34, 3) := by decide +kernel
theorem dX10_sum_22 : decode cX10_sum 22 = .ok (.aload_n 0, 1) := by decide +kernel
theorem dX10_sum_23 : decode cX10_sum 23 = .ok (.invokevirtual 174, 3) := by decide +kernel
theorem dX10_sum_26 : decode cX10_sum 26 = .ok (.istore_n 1, 1) := by decide +kernel
theorem dX10_sum_27 : decode cX10_sum 27 = .ok (.aload_n 0, 1) := by decide +kernel
theorem dX10_sum_28 : decode cX10_sum 28 = .ok (.dup, 1) := by decide +kernel
theorem dX10_sum_29 : decode cX10_sum 29 = .ok (.getfield 170, 3) := by decide +kernel
theorem dX10_sum_32 : decode cX10_sum 32 = .ok (.iconst 1, 1) := by decide +kernel
theorem dX10_sum_33 : decode cX10_sum 33 = .ok (.iadd, 1) := by decide +kernel
theorem dX10_sum_34 : decode cX10_sum 34 = .ok (.putfield 170, 3) := by decide +kernel
theorem dX10_sum_37 : decode cX10_sum 37 = .ok (.aload_n 0, 1) := by decide +kernel
theorem dX10_sum_38 : decode cX10_sum 38 = .ok (.invokevirtual 197, 3) := by decide +kernel
theorem dX10_sum_41 : decode cX10_sum 41 = .ok (.aload_n 0, 1) := by decide +kernel
theorem dX10_sum_42 : decode cX10_sum 42 = .ok (.sipush 20000, 3) := by decide +kernel
theorem dX10_sum_45 : decode cX10_sum 45 = .ok (.iload_n 1, 1) := by decide +kernel
theorem dX10_sum_46 : decode cX10_sum 46 = .ok (.iadd, 1) := by decide +kernel
theorem dX10_sum_47 : decode cX10_sum 47 = .ok (.invokevirtual 187, 3) := by decide +kernel
theorem dX10_sum_50 : decode cX10_sum 50 = .ok (.goto (-46), 3) := by decide +kernel
theorem dX10_sum_53 : decode cX10_sum 53 = .ok (.return_, 1) := by decide +kernel
theorem dX10_product_0 : decode cX10_product 0 = .ok (.aload_n 0, 1) := by decide +kernel
theorem dX10_product_1 : decode cX10_product 1 = .ok (.invokevirtual 200, 3) := by decide +kernel
theorem dX10_product_4 : decode cX10_product 4 = .ok (.aload_n 0, 1) := by decide +kernel
theorem dX10_product_5 : decode cX10_product 5 = .ok (.invokevirtual 174, 3) := by decide +kernel
theorem dX10_product_8 : decode cX10_product 8 = .ok (.bipush 42, 2) := by decide +kernel
theorem dX10_product_10 : decode cX10_product 10 = .ok (.if_icmp .eq 21, 3) := by decide +kernel
theorem dX10_product_13 : decode cX10_product 13 = .ok (.aload_n 0, 1) := by decide +kernel
theorem dX10_product_14 : decode cX10_product 14 = .ok (.invokevirtual 174, 3) := by decide +kernel
theorem dX10_product_17 : decode cX10_product 17 = .ok (.bipush 47, 2) := by decide +kernel
theorem dX10_product_19 : decode cX10_product 19 = .ok (.if_icmp .eq 12, 3) := by decide +kernel
theorem dX10_product_22 : decode cX10_product 22 = .ok (.aload_n 0, 1) := by decide +kernel
theorem dX10_product_23 : decode cX10_product 23 = .ok (.invokevirtual 174, 3) := by decide +kernel
theorem dX10_product_26 : decode cX10_product 26 = .ok (.bipush 37, 2) := by decide +kernel
theorem dX10_product_28 : decode cX10_product 28 = .ok (.if_icmp .ne 34, 3) := by decide +kernel
theorem dX10_product_31 : decode cX10_product 31 = .ok (.aload_n 0, 1) := by decide +kernel
theorem dX10_product_32 : decode cX10_product 32 = .ok (.invokevirtual 174, 3) := by decide +kernel
theorem dX10_product_35 : decode cX10_product 35 = .ok (.istore_n 1, 1) := by decide +kernel
theorem dX10_product_36 : decode cX10_product 36 = .ok (.aload_n 0, 1) := by decide +kernel
theorem dX10_product_37 : decode cX10_product 37 = .ok (.dup, 1) := by decide +kernel
theorem dX10_product_38 : decode cX10_product 38 = .ok (.getfield 170, 3) := by decide +kernel
theorem dX10_product_41 : decode cX10_product 41 = .ok (.iconst 1, 1) := by decide +kernel
theorem dX10_product_42 : decode cX10_product 42 = .ok (.iadd, 1) := by decide +kernel
theorem dX10_product_43 : decode cX10_product 43 = .ok (.putfield 170, 3) := by decide +kernel
theorem dX10_product_46 : decode cX10_product 46 = .ok (.aload_n 0, 1) := by decide +kernel
theorem dX10_product_47 : decode cX10_product 47 = .ok (.invokevirtual 200, 3) := by decide +kernel
theorem dX10_product_50 : decode cX10_product 50 = .ok (.aload_n 0, 1) := by decide +kernel
theorem dX10_product_51 : decode cX10_product 51 = .ok (.sipush 20000, 3) := by decide +kernel
theorem dX10_product_54 : decode cX10_product 54 = .ok (.iload_n 1, 1) := by decide +kernel
theorem dX10_product_55 : decode cX10_product 55 = .ok (.iadd, 1) := by decide +kernel
theorem dX10_product_56 : decode cX10_product 56 = .ok (.invokevirtual 187, 3) := by decide +kernel
theorem dX10_product_59 : decode cX10_product 59 = .ok (.goto (-55), 3) := by decide +kernel
theorem dX10_product_62 : decode cX10_product 62 = .ok (.return_, 1) := by decide +kernel
theorem dX10_letterHere_0 : decode cX10_letterHere 0 = .ok (.aload_n 0, 1) := by decide +kernel
theorem dX10_letterHere_1 : decode cX10_letterHere 1 = .ok (.invokevirtual 174, 3) := by decide +kernel
theorem dX10_letterHere_4 : decode cX10_letterHere 4 = .ok (.istore_n 1, 1) := by decide +kernel
theorem dX10_letterHere_5 : decode cX10_letterHere 5 = .ok (.aload_n 0, 1) := by decide +kernel
theorem dX10_letterHere_6 : decode cX10_letterHere 6 = .ok (.getfield 203, 3) := by decide +kernel
theorem dX10_letterHere_9 : decode cX10_letterHere 9 = .ok (.ifCond .ne 35, 3) := by decide +kernel
theorem dX10_letterHere_12 : decode cX10_letterHere 12 = .ok (.iload_n 1, 1) := by decide +kernel
theorem dX10_letterHere_13 : decode cX10_letterHere 13 = .ok (.bipush 112, 2) := by decide +kernel
theorem dX10_letterHere_15 : decode cX10_letterHere 15 = .ok (.if_icmp .ne 7, 3) := by decide +kernel
theorem dX10_letterHere_18 : decode cX10_letterHere 18 = .ok (.iconst 0, 1) := by decide +kernel
theorem dX10_letterHere_19 : decode cX10_letterHere 19 = .ok (.goto 24, 3) := by decide +kernel
theorem dX10_letterHere_22 : decode cX10_letterHere 22 = .ok (.iload_n 1, 1) := by decide +kernel
theorem dX10_letterHere_23 : decode cX10_letterHere 23 = .ok (.bipush 113, 2) := by decide +kernel
theorem dX10_letterHere_25 : decode cX10_letterHere 25 = .ok (.if_icmp .ne 7, 3) := by decide +kernel
theorem dX10_letterHere_28 : decode cX10_letterHere 28 = .ok (.iconst 1, 1) := by decide +kernel
theorem dX10_letterHere_29 : decode cX10_letterHere 29 = .ok (.goto 14, 3) := by decide +kernel
theorem dX10_letterHere_32 : decode cX10_letterHere 32 = .ok (.iload_n 1, 1) := by decide +kernel
theorem dX10_letterHere_33 : decode cX10_letterHere 33 = .ok (.bipush 105, 2) := by decide +kernel
theorem dX10_letterHere_35 : decode cX10_letterHere 35 = .ok (.if_icmp .ne 7, 3) := by decide +kernel
theorem dX10_letterHere_38 : decode cX10_letterHere 38 = .ok (.iconst 2, 1) := by decide +kernel
theorem dX10_letterHere_39 : decode cX10_letterHere 39 = .ok (.goto 4, 3) := by decide +kernel
theorem dX10_letterHere_42 : decode cX10_letterHere 42 = .ok (.iconst (-1), 1) := by decide +kernel
theorem dX10_letterHere_43 : decode cX10_letterHere 43 = .ok (.ireturn, 1) := by decide +kernel
theorem dX10_letterHere_44 : decode cX10_letterHere 44 = .ok (.iload_n 1, 1) := by decide +kernel
theorem dX10_letterHere_45 : decode cX10_letterHere 45 = .ok (.bipush 115, 2) := by decide +kernel
theorem dX10_letterHere_47 : decode cX10_letterHere 47 = .ok (.if_icmp .ne 7, 3) := by decide +kernel
theorem dX10_letterHere_50 : decode cX10_letterHere 50 = .ok (.iconst 0, 1) := by decide +kernel
theorem dX10_letterHere_51 : decode cX10_letterHere 51 = .ok (.goto 24, 3) := by decide +kernel
theorem dX10_letterHere_54 : decode cX10_letterHere 54 = .ok (.iload_n 1, 1) := by decide +kernel
theorem dX10_letterHere_55 : decode cX10_letterHere 55 = .ok (.bipush 108, 2) := by decide +kernel
theorem dX10_letterHere_57 : decode cX10_letterHere 57 = .ok (.if_icmp .ne 7, 3) := by decide +kernel
theorem dX10_letterHere_60 : decode cX10_letterHere 60 = .ok (.iconst 1, 1) := by decide +kernel
theorem dX10_letterHere_61 : decode cX10_letterHere 61 = .ok (.goto 14, 3) := by decide +kernel
theorem dX10_letterHere_64 : decode cX10_letterHere 64 = .ok (.iload_n 1, 1) := by decide +kernel
theorem dX10_letterHere_65 : decode cX10_letterHere 65 = .ok (.bipush 119, 2) := by decide +kernel
theorem dX10_letterHere_67 : decode cX10_letterHere 67 = .ok (.if_icmp .ne 7, 3) := by decide +kernel
theorem dX10_letterHere_70 : decode cX10_letterHere 70 = .ok (.iconst 2, 1) := by decide +kernel
theorem dX10_letterHere_71 : decode cX10_letterHere 71 = .ok (.goto 4, 3) := by decide +kernel
theorem dX10_letterHere_74 : decode cX10_letterHere 74 = .ok (.iconst (-1), 1) := by decide +kernel
theorem dX10_letterHere_75 : decode cX10_letterHere 75 = .ok (.ireturn, 1) := by decide +kernel
theorem dX10_one_0 : decode cX10_one 0 = .ok (.aload_n 0, 1) := by decide +kernel
theorem dX10_one_1 : decode cX10_one 1 = .ok (.getfield 166, 3) := by decide +kernel
theorem dX10_one_4 : decode cX10_one 4 = .ok (.ifCond .eq 4, 3) := by decide +kernel
theorem dX10_one_7 : decode cX10_one 7 = .ok (.return_, 1) := by decide +kernel
theorem dX10_one_8 : decode cX10_one 8 = .ok (.aload_n 0, 1) := by decide +kernel
theorem dX10_one_9 : decode cX10_one 9 = .ok (.invokevirtual 206, 3) := by decide +kernel
theorem dX10_one_12 : decode cX10_one 12 = .ok (.istore_n 1, 1) := by decide +kernel
theorem dX10_one_13 : decode cX10_one 13 = .ok (.iconst 0, 1) := by decide +kernel
theorem dX10_one_14 : decode cX10_one 14 = .ok (.istore_n 2, 1) := by decide +kernel
theorem dX10_one_15 : decode cX10_one 15 = .ok (.iconst 0, 1) := by decide +kernel
theorem dX10_one_16 : decode cX10_one 16 = .ok (.istore_n 3, 1) := by decide +kernel
theorem dX10_one_17 : decode cX10_one 17 = .ok (.iload_n 3, 1) := by decide +kernel
theorem dX10_one_18 : decode cX10_one 18 = .ok (.iconst 4, 1) := by decide +kernel
theorem dX10_one_19 : decode cX10_one 19 = .ok (.if_icmp .ge 49, 3) := by decide +kernel
theorem dX10_one_22 : decode cX10_one 22 = .ok (.aload_n 0, 1) := by decide +kernel
theorem dX10_one_23 : decode cX10_one 23 = .ok (.invokevirtual 174, 3) := by decide +kernel
theorem dX10_one_26 : decode cX10_one 26 = .ok (.i2l, 1) := by decide +kernel
theorem dX10_one_27 : decode cX10_one 27 = .ok (.ldc2_w 209, 3) := by decide +kernel
theorem dX10_one_30 : decode cX10_one 30 = .ok (.ldc2_w 211, 3) := by decide +kernel
theorem dX10_one_33 : decode cX10_one 33 = .ok (.invokestatic 48, 3) := by decide +kernel
theorem dX10_one_36 : decode cX10_one 36 = .ok (.ifCond .eq 32, 3) := by decide +kernel
theorem dX10_one_39 : decode cX10_one 39 = .ok (.bipush 10, 2) := by decide +kernel
theorem dX10_one_41 : decode cX10_one 41 = .ok (.iload_n 2, 1) := by decide +kernel
theorem dX10_one_42 : decode cX10_one 42 = .ok (.imul, 1) := by decide +kernel
theorem dX10_one_43 : decode cX10_one 43 = .ok (.aload_n 0, 1) := by decide +kernel
theorem dX10_one_44 : decode cX10_one 44 = .ok (.invokevirtual 174, 3) := by decide +kernel
theorem dX10_one_47 : decode cX10_one 47 = .ok (.iadd, 1) := by decide +kernel
theorem dX10_one_48 : decode cX10_one 48 = .ok (.bipush 48, 2) := by decide +kernel
theorem dX10_one_50 : decode cX10_one 50 = .ok (.isub, 1) := by decide +kernel
theorem dX10_one_51 : decode cX10_one 51 = .ok (.istore_n 2, 1) := by decide +kernel
theorem dX10_one_52 : decode cX10_one 52 = .ok (.aload_n 0, 1) := by decide +kernel
theorem dX10_one_53 : decode cX10_one 53 = .ok (.dup, 1) := by decide +kernel
theorem dX10_one_54 : decode cX10_one 54 = .ok (.getfield 170, 3) := by decide +kernel
theorem dX10_one_57 : decode cX10_one 57 = .ok (.iconst 1, 1) := by decide +kernel
theorem dX10_one_58 : decode cX10_one 58 = .ok (.iadd, 1) := by decide +kernel
theorem dX10_one_59 : decode cX10_one 59 = .ok (.putfield 170, 3) := by decide +kernel
theorem dX10_one_62 : decode cX10_one 62 = .ok (.iinc 3 1, 3) := by decide +kernel
theorem dX10_one_65 : decode cX10_one 65 = .ok (.goto (-48), 3) := by decide +kernel
theorem dX10_one_68 : decode cX10_one 68 = .ok (.iload_n 3, 1) := by decide +kernel
theorem dX10_one_69 : decode cX10_one 69 = .ok (.ifCond .le 11, 3) := by decide +kernel
theorem dX10_one_72 : decode cX10_one 72 = .ok (.aload_n 0, 1) := by decide +kernel
theorem dX10_one_73 : decode cX10_one 73 = .ok (.iload_n 2, 1) := by decide +kernel
theorem dX10_one_74 : decode cX10_one 74 = .ok (.invokevirtual 187, 3) := by decide +kernel
theorem dX10_one_77 : decode cX10_one 77 = .ok (.goto 157, 3) := by decide +kernel
theorem dX10_one_80 : decode cX10_one 80 = .ok (.iload_n 1, 1) := by decide +kernel
theorem dX10_one_81 : decode cX10_one 81 = .ok (.ifCond .lt 25, 3) := by decide +kernel
theorem dX10_one_84 : decode cX10_one 84 = .ok (.aload_n 0, 1) := by decide +kernel
theorem dX10_one_85 : decode cX10_one 85 = .ok (.dup, 1) := by decide +kernel
theorem dX10_one_86 : decode cX10_one 86 = .ok (.getfield 170, 3) := by decide +kernel
theorem dX10_one_89 : decode cX10_one 89 = .ok (.iconst 1, 1) := by decide +kernel
theorem dX10_one_90 : decode cX10_one 90 = .ok (.iadd, 1) := by decide +kernel
theorem dX10_one_91 : decode cX10_one 91 = .ok (.putfield 170, 3) := by decide +kernel
theorem dX10_one_94 : decode cX10_one 94 = .ok (.aload_n 0, 1) := by decide +kernel
theorem dX10_one_95 : decode cX10_one 95 = .ok (.sipush 10000, 3) := by decide +kernel
theorem dX10_one_98 : decode cX10_one 98 = .ok (.iload_n 1, 1) := by decide +kernel
theorem dX10_one_99 : decode cX10_one 99 = .ok (.iadd, 1) := by decide +kernel
theorem dX10_one_100 : decode cX10_one 100 = .ok (.invokevirtual 187, 3) := by decide +kernel
theorem dX10_one_103 : decode cX10_one 103 = .ok (.goto 131, 3) := by decide +kernel
theorem dX10_one_106 : decode cX10_one 106 = .ok (.aload_n 0, 1) := by decide +kernel
theorem dX10_one_107 : decode cX10_one 107 = .ok (.invokevirtual 174, 3) := by decide +kernel
theorem dX10_one_110 : decode cX10_one 110 = .ok (.bipush 33, 2) := by decide +kernel
theorem dX10_one_112 : decode cX10_one 112 = .ok (.if_icmp .eq 12, 3) := by decide +kernel
theorem dX10_one_115 : decode cX10_one 115 = .ok (.aload_n 0, 1) := by decide +kernel
theorem dX10_one_116 : decode cX10_one 116 = .ok (.invokevirtual 174, 3) := by decide +kernel
theorem dX10_one_119 : decode cX10_one 119 = .ok (.bipush 40, 2) := by decide +kernel
theorem dX10_one_121 : decode cX10_one 121 = .ok (.if_icmp .ne 108, 3) := by decide +kernel
theorem dX10_one_124 : decode cX10_one 124 = .ok (.aload_n 0, 1) := by decide +kernel
theorem dX10_one_125 : decode cX10_one 125 = .ok (.getfield 213, 3) := by decide +kernel
theorem dX10_one_128 : decode cX10_one 128 = .ok (.iconst 5, 1) := by decide +kernel
theorem dX10_one_129 : decode cX10_one 129 = .ok (.if_icmp .ge 100, 3) := by decide +kernel
theorem dX10_one_132 : decode cX10_one 132 = .ok (.aload_n 0, 1) := by decide +kernel
theorem dX10_one_133 : decode cX10_one 133 = .ok (.invokevirtual 174, 3) := by decide +kernel
theorem dX10_one_136 : decode cX10_one 136 = .ok (.bipush 33, 2) := by decide +kernel
theorem dX10_one_138 : decode cX10_one 138 = .ok (.if_icmp .ne 7, 3) := by decide +kernel
theorem dX10_one_141 : decode cX10_one 141 = .ok (.iconst 1, 1) := by decide +kernel
theorem dX10_one_142 : decode cX10_one 142 = .ok (.goto 4, 3) := by decide +kernel
theorem dX10_one_145 : decode cX10_one 145 = .ok (.iconst 0, 1) := by decide +kernel
theorem dX10_one_146 : decode cX10_one 146 = .ok (.istore 4, 2) := by decide +kernel
theorem dX10_one_148 : decode cX10_one 148 = .ok (.aload_n 0, 1) := by decide +kernel
theorem dX10_one_149 : decode cX10_one 149 = .ok (.dup, 1) := by decide +kernel
theorem dX10_one_150 : decode cX10_one 150 = .ok (.getfield 170, 3) := by decide +kernel
theorem dX10_one_153 : decode cX10_one 153 = .ok (.iconst 1, 1) := by decide +kernel
theorem dX10_one_154 : decode cX10_one 154 = .ok (.iadd, 1) := by decide +kernel
theorem dX10_one_155 : decode cX10_one 155 = .ok (.putfield 170, 3) := by decide +kernel
theorem dX10_one_158 : decode cX10_one 158 = .ok (.aload_n 0, 1) := by decide +kernel
theorem dX10_one_159 : decode cX10_one 159 = .ok (.dup, 1) := by decide +kernel
theorem dX10_one_160 : decode cX10_one 160 = .ok (.getfield 213, 3) := by decide +kernel
theorem dX10_one_163 : decode cX10_one 163 = .ok (.iconst 1, 1) := by decide +kernel
theorem dX10_one_164 : decode cX10_one 164 = .ok (.iadd, 1) := by decide +kernel
theorem dX10_one_165 : decode cX10_one 165 = .ok (.putfield 213, 3) := by decide +kernel
theorem dX10_one_168 : decode cX10_one 168 = .ok (.iload 4, 2) := by decide +kernel
theorem dX10_one_170 : decode cX10_one 170 = .ok (.ifCond .eq 17, 3) := by decide +kernel
theorem dX10_one_173 : decode cX10_one 173 = .ok (.aload_n 0, 1) := by decide +kernel
theorem dX10_one_174 : decode cX10_one 174 = .ok (.invokevirtual 200, 3) := by decide +kernel
theorem dX10_one_177 : decode cX10_one 177 = .ok (.aload_n 0, 1) := by decide +kernel
theorem dX10_one_178 : decode cX10_one 178 = .ok (.sipush 20033, 3) := by decide +kernel
theorem dX10_one_181 : decode cX10_one 181 = .ok (.invokevirtual 187, 3) := by decide +kernel
theorem dX10_one_184 : decode cX10_one 184 = .ok (.goto 32, 3) := by decide +kernel
theorem dX10_one_187 : decode cX10_one 187 = .ok (.aload_n 0, 1) := by decide +kernel
theorem dX10_one_188 : decode cX10_one 188 = .ok (.invokevirtual 216, 3) := by decide +kernel
theorem dX10_one_191 : decode cX10_one 191 = .ok (.aload_n 0, 1) := by decide +kernel
theorem dX10_one_192 : decode cX10_one 192 = .ok (.aload_n 0, 1) := by decide +kernel
theorem dX10_one_193 : decode cX10_one 193 = .ok (.getfield 166, 3) := by decide +kernel
theorem dX10_one_196 : decode cX10_one 196 = .ok (.ifCond .ne 12, 3) := by decide +kernel
theorem dX10_one_199 : decode cX10_one 199 = .ok (.aload_n 0, 1) := by decide +kernel
theorem dX10_one_200 : decode cX10_one 200 = .ok (.bipush 41, 2) := by decide +kernel
theorem dX10_one_202 : decode cX10_one 202 = .ok (.invokevirtual 184, 3) := by decide +kernel
theorem dX10_one_205 : decode cX10_one 205 = .ok (.ifCond .ne 7, 3) := by decide +kernel
theorem dX10_one_208 : decode cX10_one 208 = .ok (.iconst 1, 1) := by decide +kernel
theorem dX10_one_209 : decode cX10_one 209 = .ok (.goto 4, 3) := by decide +kernel
theorem dX10_one_212 : decode cX10_one 212 = .ok (.iconst 0, 1) := by decide +kernel
theorem dX10_one_213 : decode cX10_one 213 = .ok (.putfield 166, 3) := by decide +kernel
theorem dX10_one_216 : decode cX10_one 216 = .ok (.aload_n 0, 1) := by decide +kernel
theorem dX10_one_217 : decode cX10_one 217 = .ok (.dup, 1) := by decide +kernel
theorem dX10_one_218 : decode cX10_one 218 = .ok (.getfield 213, 3) := by decide +kernel
theorem dX10_one_221 : decode cX10_one 221 = .ok (.iconst 1, 1) := by decide +kernel
theorem dX10_one_222 : decode cX10_one 222 = .ok (.isub, 1) := by decide +kernel
theorem dX10_one_223 : decode cX10_one 223 = .ok (.putfield 213, 3) := by decide +kernel
theorem dX10_one_226 : decode cX10_one 226 = .ok (.goto 8, 3) := by decide +kernel
theorem dX10_one_229 : decode cX10_one 229 = .ok (.aload_n 0, 1) := by decide +kernel
theorem dX10_one_230 : decode cX10_one 230 = .ok (.iconst 1, 1) := by decide +kernel
theorem dX10_one_231 : decode cX10_one 231 = .ok (.putfield 166, 3) := by decide +kernel
theorem dX10_one_234 : decode cX10_one 234 = .ok (.return_, 1) := by decide +kernel
theorem dX10_text_0 : decode cX10_text 0 = .ok (.iload_n 1, 1) := by decide +kernel
theorem dX10_text_1 : decode cX10_text 1 = .ok (.i2l, 1) := by decide +kernel
theorem dX10_text_2 : decode cX10_text 2 = .ok (.lconst 0, 1) := by decide +kernel
theorem dX10_text_3 : decode cX10_text 3 = .ok (.lconst 1, 1) := by decide +kernel
theorem dX10_text_4 : decode cX10_text 4 = .ok (.invokestatic 48, 3) := by decide +kernel
theorem dX10_text_7 : decode cX10_text 7 = .ok (.ifCond .ne 10, 3) := by decide +kernel
theorem dX10_text_10 : decode cX10_text 10 = .ok (.aload_n 0, 1) := by decide +kernel
theorem dX10_text_11 : decode cX10_text 11 = .ok (.ldc 62, 2) := by decide +kernel
theorem dX10_text_13 : decode cX10_text 13 = .ok (.invokevirtual 63, 3) := by decide +kernel
theorem dX10_text_16 : decode cX10_text 16 = .ok (.ireturn, 1) := by decide +kernel
theorem dX10_text_17 : decode cX10_text 17 = .ok (.aload_n 0, 1) := by decide +kernel
theorem dX10_text_18 : decode cX10_text 18 = .ok (.iload_n 1, 1) := by decide +kernel
theorem dX10_text_19 : decode cX10_text 19 = .ok (.putfield 203, 3) := by decide +kernel
theorem dX10_text_22 : decode cX10_text 22 = .ok (.aload_n 0, 1) := by decide +kernel
theorem dX10_text_23 : decode cX10_text 23 = .ok (.iconst 0, 1) := by decide +kernel
theorem dX10_text_24 : decode cX10_text 24 = .ok (.putfield 178, 3) := by decide +kernel
theorem dX10_text_27 : decode cX10_text 27 = .ok (.aload_n 0, 1) := by decide +kernel
theorem dX10_text_28 : decode cX10_text 28 = .ok (.iconst 0, 1) := by decide +kernel
theorem dX10_text_29 : decode cX10_text 29 = .ok (.putfield 170, 3) := by decide +kernel
theorem dX10_text_32 : decode cX10_text 32 = .ok (.aload_n 0, 1) := by decide +kernel
theorem dX10_text_33 : decode cX10_text 33 = .ok (.iconst 0, 1) := by decide +kernel
theorem dX10_text_34 : decode cX10_text 34 = .ok (.putfield 213, 3) := by decide +kernel
theorem dX10_text_37 : decode cX10_text 37 = .ok (.aload_n 0, 1) := by decide +kernel
theorem dX10_text_38 : decode cX10_text 38 = .ok (.iconst 0, 1) := by decide +kernel
theorem dX10_text_39 : decode cX10_text 39 = .ok (.putfield 166, 3) := by decide +kernel
theorem dX10_text_42 : decode cX10_text 42 = .ok (.aload_n 0, 1) := by decide +kernel
theorem dX10_text_43 : decode cX10_text 43 = .ok (.invokevirtual 216, 3) := by decide +kernel
theorem dX10_text_46 : decode cX10_text 46 = .ok (.aload_n 0, 1) := by decide +kernel
theorem dX10_text_47 : decode cX10_text 47 = .ok (.getfield 166, 3) := by decide +kernel
theorem dX10_text_50 : decode cX10_text 50 = .ok (.ifCond .ne 20, 3) := by decide +kernel
theorem dX10_text_53 : decode cX10_text 53 = .ok (.aload_n 0, 1) := by decide +kernel
theorem dX10_text_54 : decode cX10_text 54 = .ok (.getfield 170, 3) := by decide +kernel
theorem dX10_text_57 : decode cX10_text 57 = .ok (.aload_n 0, 1) := by decide +kernel
theorem dX10_text_58 : decode cX10_text 58 = .ok (.getfield 9, 3) := by decide +kernel
theorem dX10_text_61 : decode cX10_text 61 = .ok (.iconst 4, 1) := by decide +kernel
theorem dX10_text_62 : decode cX10_text 62 = .ok (.iaload, 1) := by decide +kernel
theorem dX10_text_63 : decode cX10_text 63 = .ok (.if_icmp .ne 7, 3) := by decide +kernel
theorem dX10_text_66 : decode cX10_text 66 = .ok (.iconst 1, 1) := by decide +kernel
theorem dX10_text_67 : decode cX10_text 67 = .ok (.goto 4, 3) := by decide +kernel
theorem dX10_text_70 : decode cX10_text 70 = .ok (.iconst 0, 1) := by decide +kernel
theorem dX10_text_71 : decode cX10_text 71 = .ok (.istore_n 2, 1) := by decide +kernel
theorem dX10_text_72 : decode cX10_text 72 = .ok (.aload_n 0, 1) := by decide +kernel
theorem dX10_text_73 : decode cX10_text 73 = .ok (.getfield 9, 3) := by decide +kernel
theorem dX10_text_76 : decode cX10_text 76 = .ok (.iconst 4, 1) := by decide +kernel
theorem dX10_text_77 : decode cX10_text 77 = .ok (.iconst 0, 1) := by decide +kernel
theorem dX10_text_78 : decode cX10_text 78 = .ok (.iastore, 1) := by decide +kernel
theorem dX10_text_79 : decode cX10_text 79 = .ok (.iload_n 2, 1) := by decide +kernel
theorem dX10_text_80 : decode cX10_text 80 = .ok (.ifCond .ne 11, 3) := by decide +kernel
theorem dX10_text_83 : decode cX10_text 83 = .ok (.bipush (-10), 2) := by decide +kernel
theorem dX10_text_85 : decode cX10_text 85 = .ok (.aload_n 0, 1) := by decide +kernel
theorem dX10_text_86 : decode cX10_text 86 = .ok (.getfield 170, 3) := by decide +kernel
theorem dX10_text_89 : decode cX10_text 89 = .ok (.isub, 1) := by decide +kernel
theorem dX10_text_90 : decode cX10_text 90 = .ok (.ireturn, 1) := by decide +kernel
theorem dX10_text_91 : decode cX10_text 91 = .ok (.sipush 270, 3) := by decide +kernel
theorem dX10_text_94 : decode cX10_text 94 = .ok (.bipush 51, 2) := by decide +kernel
theorem dX10_text_96 : decode cX10_text 96 = .ok (.aload_n 0, 1) := by decide +kernel
theorem dX10_text_97 : decode cX10_text 97 = .ok (.getfield 203, 3) := by decide +kernel
theorem dX10_text_100 : decode cX10_text 100 = .ok (.imul, 1) := by decide +kernel
theorem dX10_text_101 : decode cX10_text 101 = .ok (.iadd, 1) := by decide +kernel
theorem dX10_text_102 : decode cX10_text 102 = .ok (.istore_n 3, 1) := by decide +kernel
theorem dX10_text_103 : decode cX10_text 103 = .ok (.aload_n 0, 1) := by decide +kernel
theorem dX10_text_104 : decode cX10_text 104 = .ok (.getfield 9, 3) := by decide +kernel
theorem dX10_text_107 : decode cX10_text 107 = .ok (.iload_n 3, 1) := by decide +kernel
theorem dX10_text_108 : decode cX10_text 108 = .ok (.aload_n 0, 1) := by decide +kernel
theorem dX10_text_109 : decode cX10_text 109 = .ok (.getfield 178, 3) := by decide +kernel
theorem dX10_text_112 : decode cX10_text 112 = .ok (.iastore, 1) := by decide +kernel
theorem dX10_text_113 : decode cX10_text 113 = .ok (.iconst 0, 1) := by decide +kernel
theorem dX10_text_114 : decode cX10_text 114 = .ok (.istore 4, 2) := by decide +kernel
theorem dX10_text_116 : decode cX10_text 116 = .ok (.iload 4, 2) := by decide +kernel
theorem dX10_text_118 : decode cX10_text 118 = .ok (.aload_n 0, 1) := by decide +kernel
theorem dX10_text_119 : decode cX10_text 119 = .ok (.getfield 178, 3) := by decide +kernel
theorem dX10_text_122 : decode cX10_text 122 = .ok (.if_icmp .ge 27, 3) := by decide +kernel
theorem dX10_text_125 : decode cX10_text 125 = .ok (.aload_n 0, 1) := by decide +kernel
theorem dX10_text_126 : decode cX10_text 126 = .ok (.getfield 9, 3) := by decide +kernel
theorem dX10_text_129 : decode cX10_text 129 = .ok (.iload_n 3, 1) := by decide +kernel
theorem dX10_text_130 : decode cX10_text 130 = .ok (.iconst 1, 1) := by decide +kernel
theorem dX10_text_131 : decode cX10_text 131 = .ok (.iadd, 1) := by decide +kernel
theorem dX10_text_132 : decode cX10_text 132 = .ok (.iload 4, 2) := by decide +kernel
theorem dX10_text_134 : decode cX10_text 134 = .ok (.iadd, 1) := by decide +kernel
theorem dX10_text_135 : decode cX10_text 135 = .ok (.aload_n 0, 1) := by decide +kernel
theorem dX10_text_136 : decode cX10_text 136 = .ok (.getfield 19, 3) := by decide +kernel
theorem dX10_text_139 : decode cX10_text 139 = .ok (.iload 4, 2) := by decide +kernel
theorem dX10_text_141 : decode cX10_text 141 = .ok (.iaload, 1) := by decide +kernel
theorem dX10_text_142 : decode cX10_text 142 = .ok (.iastore, 1) := by decide +kernel
theorem dX10_text_143 : decode cX10_text 143 = .ok (.iinc 4 1, 3) := by decide +kernel
theorem dX10_text_146 : decode cX10_text 146 = .ok (.goto (-30), 3) := by decide +kernel
theorem dX10_text_149 : decode cX10_text 149 = .ok (.iconst 1, 1) := by decide +kernel
theorem dX10_text_150 : decode cX10_text 150 = .ok (.ireturn, 1) := by decide +kernel
theorem dX10_asNumber_0 : decode cX10_asNumber 0 = .ok (.iload_n 0, 1) := by decide +kernel
theorem dX10_asNumber_1 : decode cX10_asNumber 1 = .ok (.ifCond .eq 7, 3) := by decide +kernel
theorem dX10_asNumber_4 : decode cX10_asNumber 4 = .ok (.iconst 1, 1) := by decide +kernel
theorem dX10_asNumber_5 : decode cX10_asNumber 5 = .ok (.goto 4, 3) := by decide +kernel
theorem dX10_asNumber_8 : decode cX10_asNumber 8 = .ok (.iconst 0, 1) := by decide +kernel
theorem dX10_asNumber_9 : decode cX10_asNumber 9 = .ok (.ireturn, 1) := by decide +kernel
theorem dX10_joined_0 : decode cX10_joined 0 = .ok (.iload_n 0, 1) := by decide +kernel
theorem dX10_joined_1 : decode cX10_joined 1 = .ok (.lookupswitch 183 #[(38, 100), (42, 167), (43, 159), (45, 163), (47, 171), (60, 117), (61, 131), (62, 145), (124, 83)], 83) := by decide +kernel
theorem dX10_joined_84 : decode cX10_joined 84 = .ok (.iload_n 1, 1) := by decide +kernel
theorem dX10_joined_85 : decode cX10_joined 85 = .ok (.ifCond .ne 7, 3) := by decide +kernel
theorem dX10_joined_88 : decode cX10_joined 88 = .ok (.iload_n 2, 1) := by decide +kernel
theorem dX10_joined_89 : decode cX10_joined 89 = .ok (.ifCond .eq 7, 3) := by decide +kernel
theorem dX10_joined_92 : decode cX10_joined 92 = .ok (.iconst 1, 1) := by decide +kernel
theorem dX10_joined_93 : decode cX10_joined 93 = .ok (.goto 4, 3) := by decide +kernel
theorem dX10_joined_96 : decode cX10_joined 96 = .ok (.iconst 0, 1) := by decide +kernel
theorem dX10_joined_97 : decode cX10_joined 97 = .ok (.invokestatic 219, 3) := by decide +kernel
theorem dX10_joined_100 : decode cX10_joined 100 = .ok (.ireturn, 1) := by decide +kernel
theorem dX10_joined_101 : decode cX10_joined 101 = .ok (.iload_n 1, 1) := by decide +kernel
theorem dX10_joined_102 : decode cX10_joined 102 = .ok (.ifCond .eq 11, 3) := by decide +kernel
theorem dX10_joined_105 : decode cX10_joined 105 = .ok (.iload_n 2, 1) := by decide +kernel
theorem dX10_joined_106 : decode cX10_joined 106 = .ok (.ifCond .eq 7, 3) := by decide +kernel
theorem dX10_joined_109 : decode cX10_joined 109 = .ok (.iconst 1, 1) := by decide +kernel
theorem dX10_joined_110 : decode cX10_joined 110 = .ok (.goto 4, 3) := by decide +kernel
theorem dX10_joined_113 : decode cX10_joined 113 = .ok (.iconst 0, 1) := by decide +kernel
theorem dX10_joined_114 : decode cX10_joined 114 = .ok (.invokestatic 219, 3) := by decide +kernel
theorem dX10_joined_117 : decode cX10_joined 117 = .ok (.ireturn, 1) := by decide +kernel
theorem dX10_joined_118 : decode cX10_joined 118 = .ok (.iload_n 1, 1) := by decide +kernel
theorem dX10_joined_119 : decode cX10_joined 119 = .ok (.iload_n 2, 1) := by decide +kernel
theorem dX10_joined_120 : decode cX10_joined 120 = .ok (.if_icmp .ge 7, 3) := by decide +kernel
theorem dX10_joined_123 : decode cX10_joined 123 = .ok (.iconst 1, 1) := by decide +kernel
theorem dX10_joined_124 : decode cX10_joined 124 = .ok (.goto 4, 3) := by decide +kernel
theorem dX10_joined_127 : decode cX10_joined 127 = .ok (.iconst 0, 1) := by decide +kernel
theorem dX10_joined_128 : decode cX10_joined 128 = .ok (.invokestatic 219, 3) := by decide +kernel
theorem dX10_joined_131 : decode cX10_joined 131 = .ok (.ireturn, 1) := by decide +kernel
theorem dX10_joined_132 : decode cX10_joined 132 = .ok (.iload_n 1, 1) := by decide +kernel
theorem dX10_joined_133 : decode cX10_joined 133 = .ok (.iload_n 2, 1) := by decide +kernel
theorem dX10_joined_134 : decode cX10_joined 134 = .ok (.if_icmp .ne 7, 3) := by decide +kernel
theorem dX10_joined_137 : decode cX10_joined 137 = .ok (.iconst 1, 1) := by decide +kernel
theorem dX10_joined_138 : decode cX10_joined 138 = .ok (.goto 4, 3) := by decide +kernel
theorem dX10_joined_141 : decode cX10_joined 141 = .ok (.iconst 0, 1) := by decide +kernel
theorem dX10_joined_142 : decode cX10_joined 142 = .ok (.invokestatic 219, 3) := by decide +kernel
theorem dX10_joined_145 : decode cX10_joined 145 = .ok (.ireturn, 1) := by decide +kernel
theorem dX10_joined_146 : decode cX10_joined 146 = .ok (.iload_n 1, 1) := by decide +kernel
theorem dX10_joined_147 : decode cX10_joined 147 = .ok (.iload_n 2, 1) := by decide +kernel
theorem dX10_joined_148 : decode cX10_joined 148 = .ok (.if_icmp .le 7, 3) := by decide +kernel
theorem dX10_joined_151 : decode cX10_joined 151 = .ok (.iconst 1, 1) := by decide +kernel
theorem dX10_joined_152 : decode cX10_joined 152 = .ok (.goto 4, 3) := by decide +kernel
theorem dX10_joined_155 : decode cX10_joined 155 = .ok (.iconst 0, 1) := by decide +kernel
theorem dX10_joined_156 : decode cX10_joined 156 = .ok (.invokestatic 219, 3) := by decide +kernel
theorem dX10_joined_159 : decode cX10_joined 159 = .ok (.ireturn, 1) := by decide +kernel
theorem dX10_joined_160 : decode cX10_joined 160 = .ok (.iload_n 1, 1) := by decide +kernel
theorem dX10_joined_161 : decode cX10_joined 161 = .ok (.iload_n 2, 1) := by decide +kernel
theorem dX10_joined_162 : decode cX10_joined 162 = .ok (.iadd, 1) := by decide +kernel
theorem dX10_joined_163 : decode cX10_joined 163 = .ok (.ireturn, 1) := by decide +kernel
theorem dX10_joined_164 : decode cX10_joined 164 = .ok (.iload_n 1, 1) := by decide +kernel
theorem dX10_joined_165 : decode cX10_joined 165 = .ok (.iload_n 2, 1) := by decide +kernel
theorem dX10_joined_166 : decode cX10_joined 166 = .ok (.isub, 1) := by decide +kernel
theorem dX10_joined_167 : decode cX10_joined 167 = .ok (.ireturn, 1) := by decide +kernel
theorem dX10_joined_168 : decode cX10_joined 168 = .ok (.iload_n 1, 1) := by decide +kernel
theorem dX10_joined_169 : decode cX10_joined 169 = .ok (.iload_n 2, 1) := by decide +kernel
theorem dX10_joined_170 : decode cX10_joined 170 = .ok (.imul, 1) := by decide +kernel
theorem dX10_joined_171 : decode cX10_joined 171 = .ok (.ireturn, 1) := by decide +kernel
theorem dX10_joined_172 : decode cX10_joined 172 = .ok (.iload_n 2, 1) := by decide +kernel
theorem dX10_joined_173 : decode cX10_joined 173 = .ok (.ifCond .ne 7, 3) := by decide +kernel
theorem dX10_joined_176 : decode cX10_joined 176 = .ok (.iconst 0, 1) := by decide +kernel
theorem dX10_joined_177 : decode cX10_joined 177 = .ok (.goto 6, 3) := by decide +kernel
theorem dX10_joined_180 : decode cX10_joined 180 = .ok (.iload_n 1, 1) := by decide +kernel
theorem dX10_joined_181 : decode cX10_joined 181 = .ok (.iload_n 2, 1) := by decide +kernel
theorem dX10_joined_182 : decode cX10_joined 182 = .ok (.idiv, 1) := by decide +kernel
theorem dX10_joined_183 : decode cX10_joined 183 = .ok (.ireturn, 1) := by decide +kernel
theorem dX10_joined_184 : decode cX10_joined 184 = .ok (.iload_n 2, 1) := by decide +kernel
theorem dX10_joined_185 : decode cX10_joined 185 = .ok (.ifCond .ne 7, 3) := by decide +kernel
theorem dX10_joined_188 : decode cX10_joined 188 = .ok (.iconst 0, 1) := by decide +kernel
theorem dX10_joined_189 : decode cX10_joined 189 = .ok (.goto 6, 3) := by decide +kernel
theorem dX10_joined_192 : decode cX10_joined 192 = .ok (.iload_n 1, 1) := by decide +kernel
theorem dX10_joined_193 : decode cX10_joined 193 = .ok (.iload_n 2, 1) := by decide +kernel
theorem dX10_joined_194 : decode cX10_joined 194 = .ok (.irem, 1) := by decide +kernel
theorem dX10_joined_195 : decode cX10_joined 195 = .ok (.ireturn, 1) := by decide +kernel
theorem dX10_works_0 : decode cX10_works 0 = .ok (.sipush 270, 3) := by decide +kernel
theorem dX10_works_3 : decode cX10_works 3 = .ok (.bipush 51, 2) := by decide +kernel
theorem dX10_works_5 : decode cX10_works 5 = .ok (.iload_n 1, 1) := by decide +kernel
theorem dX10_works_6 : decode cX10_works 6 = .ok (.imul, 1) := by decide +kernel
theorem dX10_works_7 : decode cX10_works 7 = .ok (.iadd, 1) := by decide +kernel
theorem dX10_works_8 : decode cX10_works 8 = .ok (.istore 5, 2) := by decide +kernel
theorem dX10_works_10 : decode cX10_works 10 = .ok (.iconst 0, 1) := by decide +kernel
theorem dX10_works_11 : decode cX10_works 11 = .ok (.istore 6, 2) := by decide +kernel
theorem dX10_works_13 : decode cX10_works 13 = .ok (.iconst 1, 1) := by decide +kernel
theorem dX10_works_14 : decode cX10_works 14 = .ok (.istore 7, 2) := by decide +kernel
theorem dX10_works_16 : decode cX10_works 16 = .ok (.iload 7, 2) := by decide +kernel
theorem dX10_works_18 : decode cX10_works 18 = .ok (.aload_n 0, 1) := by decide +kernel
theorem dX10_works_19 : decode cX10_works 19 = .ok (.getfield 9, 3) := by decide +kernel
theorem dX10_works_22 : decode cX10_works 22 = .ok (.iload 5, 2) := by decide +kernel
theorem dX10_works_24 : decode cX10_works 24 = .ok (.iaload, 1) := by decide +kernel
theorem dX10_works_25 : decode cX10_works 25 = .ok (.if_icmp .gt 158, 3) := by decide +kernel
theorem dX10_works_28 : decode cX10_works 28 = .ok (.aload_n 0, 1) := by decide +kernel
theorem dX10_works_29 : decode cX10_works 29 = .ok (.getfield 9, 3) := by decide +kernel
theorem dX10_works_32 : decode cX10_works 32 = .ok (.iload 5, 2) := by decide +kernel
theorem dX10_works_34 : decode cX10_works 34 = .ok (.iload 7, 2) := by decide +kernel
theorem dX10_works_36 : decode cX10_works 36 = .ok (.iadd, 1) := by decide +kernel
theorem dX10_works_37 : decode cX10_works 37 = .ok (.iaload, 1) := by decide +kernel
theorem dX10_works_38 : decode cX10_works 38 = .ok (.istore 8, 2) := by decide +kernel
theorem dX10_works_40 : decode cX10_works 40 = .ok (.iload 8, 2) := by decide +kernel
theorem dX10_works_42 : decode cX10_works 42 = .ok (.sipush 20000, 3) := by decide +kernel
theorem dX10_works_45 : decode cX10_works 45 = .ok (.if_icmp .ge 55, 3) := by decide +kernel
theorem dX10_works_48 : decode cX10_works 48 = .ok (.aload_n 0, 1) := by decide +kernel
theorem dX10_works_49 : decode cX10_works 49 = .ok (.getfield 22, 3) := by decide +kernel
theorem dX10_works_52 : decode cX10_works 52 = .ok (.iload 6, 2) := by decide +kernel
theorem dX10_works_54 : decode cX10_works 54 = .ok (.iload 8, 2) := by decide +kernel
theorem dX10_works_56 : decode cX10_works 56 = .ok (.sipush 10000, 3) := by decide +kernel
theorem dX10_works_59 : decode cX10_works 59 = .ok (.if_icmp .ge 8, 3) := by decide +kernel
theorem dX10_works_62 : decode cX10_works 62 = .ok (.iload 8, 2) := by decide +kernel
theorem dX10_works_64 : decode cX10_works 64 = .ok (.goto 29, 3) := by decide +kernel
theorem dX10_works_67 : decode cX10_works 67 = .ok (.iload 8, 2) := by decide +kernel
theorem dX10_works_69 : decode cX10_works 69 = .ok (.sipush 10000, 3) := by decide +kernel
theorem dX10_works_72 : decode cX10_works 72 = .ok (.if_icmp .ne 7, 3) := by decide +kernel
theorem dX10_works_75 : decode cX10_works 75 = .ok (.iload_n 2, 1) := by decide +kernel
theorem dX10_works_76 : decode cX10_works 76 = .ok (.goto 17, 3) := by decide +kernel
theorem dX10_works_79 : decode cX10_works 79 = .ok (.iload 8, 2) := by decide +kernel
theorem dX10_works_81 : decode cX10_works 81 = .ok (.sipush 10001, 3) := by decide +kernel
theorem dX10_works_84 : decode cX10_works 84 = .ok (.if_icmp .ne 7, 3) := by decide +kernel
theorem dX10_works_87 : decode cX10_works 87 = .ok (.iload_n 3, 1) := by decide +kernel
theorem dX10_works_88 : decode cX10_works 88 = .ok (.goto 5, 3) := by decide +kernel
theorem dX10_works_91 : decode cX10_works 91 = .ok (.iload 4, 2) := by decide +kernel
theorem dX10_works_93 : decode cX10_works 93 = .ok (.iastore, 1) := by decide +kernel
theorem dX10_works_94 : decode cX10_works 94 = .ok (.iinc 6 1, 3) := by decide +kernel
theorem dX10_works_97 : decode cX10_works 97 = .ok (.goto 80, 3) := by decide +kernel
theorem dX10_works_100 : decode cX10_works 100 = .ok (.iload 8, 2) := by decide +kernel
theorem dX10_works_102 : decode cX10_works 102 = .ok (.sipush 20033, 3) := by decide +kernel
theorem dX10_works_105 : decode cX10_works 105 = .ok (.if_icmp .ne 35, 3) := by decide +kernel
theorem dX10_works_108 : decode cX10_works 108 = .ok (.aload_n 0, 1) := by decide +kernel
theorem dX10_works_109 : decode cX10_works 109 = .ok (.getfield 22, 3) := by decide +kernel
theorem dX10_works_112 : decode cX10_works 112 = .ok (.iload 6, 2) := by decide +kernel
theorem dX10_works_114 : decode cX10_works 114 = .ok (.iconst 1, 1) := by decide +kernel
theorem dX10_works_115 : decode cX10_works 115 = .ok (.isub, 1) := by decide +kernel
theorem dX10_works_116 : decode cX10_works 116 = .ok (.aload_n 0, 1) := by decide +kernel
theorem dX10_works_117 : decode cX10_works 117 = .ok (.getfield 22, 3) := by decide +kernel
theorem dX10_works_120 : decode cX10_works 120 = .ok (.iload 6, 2) := by decide +kernel
theorem dX10_works_122 : decode cX10_works 122 = .ok (.iconst 1, 1) := by decide +kernel
theorem dX10_works_123 : decode cX10_works 123 = .ok (.isub, 1) := by decide +kernel
theorem dX10_works_124 : decode cX10_works 124 = .ok (.iaload, 1) := by decide +kernel
theorem dX10_works_125 : decode cX10_works 125 = .ok (.ifCond .ne 7, 3) := by decide +kernel
theorem dX10_works_128 : decode cX10_works 128 = .ok (.iconst 1, 1) := by decide +kernel
theorem dX10_works_129 : decode cX10_works 129 = .ok (.goto 4, 3) := by decide +kernel
theorem dX10_works_132 : decode cX10_works 132 = .ok (.iconst 0, 1) := by decide +kernel
theorem dX10_works_133 : decode cX10_works 133 = .ok (.invokestatic 219, 3) := by decide +kernel
theorem dX10_works_136 : decode cX10_works 136 = .ok (.iastore, 1) := by decide +kernel
theorem dX10_works_137 : decode cX10_works 137 = .ok (.goto 40, 3) := by decide +kernel
theorem dX10_works_140 : decode cX10_works 140 = .ok (.iinc 6 (-1), 3) := by decide +kernel
theorem dX10_works_143 : decode cX10_works 143 = .ok (.aload_n 0, 1) := by decide +kernel
theorem dX10_works_144 : decode cX10_works 144 = .ok (.getfield 22, 3) := by decide +kernel
theorem dX10_works_147 : decode cX10_works 147 = .ok (.iload 6, 2) := by decide +kernel
theorem dX10_works_149 : decode cX10_works 149 = .ok (.iconst 1, 1) := by decide +kernel
theorem dX10_works_150 : decode cX10_works 150 = .ok (.isub, 1) := by decide +kernel
theorem dX10_works_151 : decode cX10_works 151 = .ok (.iload 8, 2) := by decide +kernel
theorem dX10_works_153 : decode cX10_works 153 = .ok (.sipush 20000, 3) := by decide +kernel
theorem dX10_works_156 : decode cX10_works 156 = .ok (.isub, 1) := by decide +kernel
theorem dX10_works_157 : decode cX10_works 157 = .ok (.aload_n 0, 1) := by decide +kernel
theorem dX10_works_158 : decode cX10_works 158 = .ok (.getfield 22, 3) := by decide +kernel
theorem dX10_works_161 : decode cX10_works 161 = .ok (.iload 6, 2) := by decide +kernel
theorem dX10_works_163 : decode cX10_works 163 = .ok (.iconst 1, 1) := by decide +kernel
theorem dX10_works_164 : decode cX10_works 164 = .ok (.isub, 1) := by decide +kernel
theorem dX10_works_165 : decode cX10_works 165 = .ok (.iaload, 1) := by decide +kernel
theorem dX10_works_166 : decode cX10_works 166 = .ok (.aload_n 0, 1) := by decide +kernel
theorem dX10_works_167 : decode cX10_works 167 = .ok (.getfield 22, 3) := by decide +kernel
theorem dX10_works_170 : decode cX10_works 170 = .ok (.iload 6, 2) := by decide +kernel
theorem dX10_works_172 : decode cX10_works 172 = .ok (.iaload, 1) := by decide +kernel
theorem dX10_works_173 : decode cX10_works 173 = .ok (.invokestatic 223, 3) := by decide +kernel
theorem dX10_works_176 : decode cX10_works 176 = .ok (.iastore, 1) := by decide +kernel
theorem dX10_works_177 : decode cX10_works 177 = .ok (.iinc 7 1, 3) := by decide +kernel
theorem dX10_works_180 : decode cX10_works 180 = .ok (.goto (-164), 3) := by decide +kernel
theorem dX10_works_183 : decode cX10_works 183 = .ok (.aload_n 0, 1) := by decide +kernel
theorem dX10_works_184 : decode cX10_works 184 = .ok (.getfield 22, 3) := by decide +kernel
theorem dX10_works_187 : decode cX10_works 187 = .ok (.iconst 0, 1) := by decide +kernel
theorem dX10_works_188 : decode cX10_works 188 = .ok (.iaload, 1) := by decide +kernel
theorem dX10_works_189 : decode cX10_works 189 = .ok (.ireturn, 1) := by decide +kernel
theorem dX10_isOpenLetter_0 : decode cX10_isOpenLetter 0 = .ok (.iload_n 0, 1) := by decide +kernel
theorem dX10_isOpenLetter_1 : decode cX10_isOpenLetter 1 = .ok (.ifCond .eq 26, 3) := by decide +kernel
theorem dX10_isOpenLetter_4 : decode cX10_isOpenLetter 4 = .ok (.iload_n 0, 1) := by decide +kernel
theorem dX10_isOpenLetter_5 : decode cX10_isOpenLetter 5 = .ok (.iconst 4, 1) := by decide +kernel
theorem dX10_isOpenLetter_6 : decode cX10_isOpenLetter 6 = .ok (.if_icmp .eq 21, 3) := by decide +kernel
theorem dX10_isOpenLetter_9 : decode cX10_isOpenLetter 9 = .ok (.iload_n 0, 1) := by decide +kernel
theorem dX10_isOpenLetter_10 : decode cX10_isOpenLetter 10 = .ok (.bipush 8, 2) := by decide +kernel
theorem dX10_isOpenLetter_12 : decode cX10_isOpenLetter 12 = .ok (.if_icmp .eq 15, 3) := by decide +kernel
theorem dX10_isOpenLetter_15 : decode cX10_isOpenLetter 15 = .ok (.iload_n 0, 1) := by decide +kernel
theorem dX10_isOpenLetter_16 : decode cX10_isOpenLetter 16 = .ok (.bipush 14, 2) := by decide +kernel
theorem dX10_isOpenLetter_18 : decode cX10_isOpenLetter 18 = .ok (.if_icmp .eq 9, 3) := by decide +kernel
theorem dX10_isOpenLetter_21 : decode cX10_isOpenLetter 21 = .ok (.iload_n 0, 1) := by decide +kernel
theorem dX10_isOpenLetter_22 : decode cX10_isOpenLetter 22 = .ok (.bipush 20, 2) := by decide +kernel
theorem dX10_isOpenLetter_24 : decode cX10_isOpenLetter 24 = .ok (.if_icmp .ne 7, 3) := by decide +kernel
theorem dX10_isOpenLetter_27 : decode cX10_isOpenLetter 27 = .ok (.iconst 1, 1) := by decide +kernel
theorem dX10_isOpenLetter_28 : decode cX10_isOpenLetter 28 = .ok (.goto 4, 3) := by decide +kernel
theorem dX10_isOpenLetter_31 : decode cX10_isOpenLetter 31 = .ok (.iconst 0, 1) := by decide +kernel
theorem dX10_isOpenLetter_32 : decode cX10_isOpenLetter 32 = .ok (.ireturn, 1) := by decide +kernel
theorem dX10_follows_0 : decode cX10_follows 0 = .ok (.aload_n 0, 1) := by decide +kernel
theorem dX10_follows_1 : decode cX10_follows 1 = .ok (.getfield 9, 3) := by decide +kernel
theorem dX10_follows_4 : decode cX10_follows 4 = .ok (.sipush 270, 3) := by decide +kernel
theorem dX10_follows_7 : decode cX10_follows 7 = .ok (.iaload, 1) := by decide +kernel
theorem dX10_follows_8 : decode cX10_follows 8 = .ok (.ifCond .le 20, 3) := by decide +kernel
theorem dX10_follows_11 : decode cX10_follows 11 = .ok (.aload_n 0, 1) := by decide +kernel
theorem dX10_follows_12 : decode cX10_follows 12 = .ok (.iconst 0, 1) := by decide +kernel
theorem dX10_follows_13 : decode cX10_follows 13 = .ok (.iload_n 1, 1) := by decide +kernel
theorem dX10_follows_14 : decode cX10_follows 14 = .ok (.iload_n 2, 1) := by decide +kernel
theorem dX10_follows_15 : decode cX10_follows 15 = .ok (.iload_n 3, 1) := by decide +kernel
theorem dX10_follows_16 : decode cX10_follows 16 = .ok (.invokevirtual 226, 3) := by decide +kernel
theorem dX10_follows_19 : decode cX10_follows 19 = .ok (.ifCond .eq 7, 3) := by decide +kernel
theorem dX10_follows_22 : decode cX10_follows 22 = .ok (.iconst 1, 1) := by decide +kernel
theorem dX10_follows_23 : decode cX10_follows 23 = .ok (.goto 4, 3) := by decide +kernel
theorem dX10_follows_26 : decode cX10_follows 26 = .ok (.iconst 0, 1) := by decide +kernel
theorem dX10_follows_27 : decode cX10_follows 27 = .ok (.ireturn, 1) := by decide +kernel
theorem dX10_follows_28 : decode cX10_follows 28 = .ok (.iload_n 3, 1) := by decide +kernel
theorem dX10_follows_29 : decode cX10_follows 29 = .ok (.ifCond .eq 14, 3) := by decide +kernel
theorem dX10_follows_32 : decode cX10_follows 32 = .ok (.iload_n 1, 1) := by decide +kernel
theorem dX10_follows_33 : decode cX10_follows 33 = .ok (.invokestatic 229, 3) := by decide +kernel
theorem dX10_follows_36 : decode cX10_follows 36 = .ok (.iload_n 2, 1) := by decide +kernel
theorem dX10_follows_37 : decode cX10_follows 37 = .ok (.invokestatic 229, 3) := by decide +kernel
theorem dX10_follows_40 : decode cX10_follows 40 = .ok (.if_icmp .eq 7, 3) := by decide +kernel
theorem dX10_follows_43 : decode cX10_follows 43 = .ok (.iconst 1, 1) := by decide +kernel
theorem dX10_follows_44 : decode cX10_follows 44 = .ok (.goto 4, 3) := by decide +kernel
theorem dX10_follows_47 : decode cX10_follows 47 = .ok (.iconst 0, 1) := by decide +kernel
theorem dX10_follows_48 : decode cX10_follows 48 = .ok (.ireturn, 1) := by decide +kernel
theorem dX10_likes_0 : decode cX10_likes 0 = .ok (.aload_n 0, 1) := by decide +kernel
theorem dX10_likes_1 : decode cX10_likes 1 = .ok (.getfield 9, 3) := by decide +kernel
theorem dX10_likes_4 : decode cX10_likes 4 = .ok (.sipush 321, 3) := by decide +kernel
theorem dX10_likes_7 : decode cX10_likes 7 = .ok (.iaload, 1) := by decide +kernel
theorem dX10_likes_8 : decode cX10_likes 8 = .ok (.ifCond .le 14, 3) := by decide +kernel
theorem dX10_likes_11 : decode cX10_likes 11 = .ok (.aload_n 0, 1) := by decide +kernel
theorem dX10_likes_12 : decode cX10_likes 12 = .ok (.iconst 1, 1) := by decide +kernel
theorem dX10_likes_13 : decode cX10_likes 13 = .ok (.iload_n 1, 1) := by decide +kernel
theorem dX10_likes_14 : decode cX10_likes 14 = .ok (.iload_n 2, 1) := by decide +kernel
theorem dX10_likes_15 : decode cX10_likes 15 = .ok (.iload_n 3, 1) := by decide +kernel
theorem dX10_likes_16 : decode cX10_likes 16 = .ok (.invokevirtual 226, 3) := by decide +kernel
theorem dX10_likes_19 : decode cX10_likes 19 = .ok (.goto 4, 3) := by decide +kernel
theorem dX10_likes_22 : decode cX10_likes 22 = .ok (.iconst 0, 1) := by decide +kernel
theorem dX10_likes_23 : decode cX10_likes 23 = .ok (.istore 4, 2) := by decide +kernel
theorem dX10_likes_25 : decode cX10_likes 25 = .ok (.iload 4, 2) := by decide +kernel
theorem dX10_likes_27 : decode cX10_likes 27 = .ok (.bipush (-99), 2) := by decide +kernel
theorem dX10_likes_29 : decode cX10_likes 29 = .ok (.if_icmp .ge 8, 3) := by decide +kernel
theorem dX10_likes_32 : decode cX10_likes 32 = .ok (.bipush (-99), 2) := by decide +kernel
theorem dX10_likes_34 : decode cX10_likes 34 = .ok (.goto 17, 3) := by decide +kernel
theorem dX10_likes_37 : decode cX10_likes 37 = .ok (.iload 4, 2) := by decide +kernel
theorem dX10_likes_39 : decode cX10_likes 39 = .ok (.bipush 99, 2) := by decide +kernel
theorem dX10_likes_41 : decode cX10_likes 41 = .ok (.if_icmp .le 8, 3) := by decide +kernel
theorem dX10_likes_44 : decode cX10_likes 44 = .ok (.bipush 99, 2) := by decide +kernel
theorem dX10_likes_46 : decode cX10_likes 46 = .ok (.goto 5, 3) := by decide +kernel
theorem dX10_likes_49 : decode cX10_likes 49 = .ok (.iload 4, 2) := by decide +kernel
theorem dX10_likes_51 : decode cX10_likes 51 = .ok (.ireturn, 1) := by decide +kernel
theorem dX10_law_0 : decode cX10_law 0 = .ok (.iload_n 1, 1) := by decide +kernel
theorem dX10_law_1 : decode cX10_law 1 = .ok (.i2l, 1) := by decide +kernel
theorem dX10_law_2 : decode cX10_law 2 = .ok (.lconst 0, 1) := by decide +kernel
theorem dX10_law_3 : decode cX10_law 3 = .ok (.lconst 1, 1) := by decide +kernel
theorem dX10_law_4 : decode cX10_law 4 = .ok (.invokestatic 48, 3) := by decide +kernel
theorem dX10_law_7 : decode cX10_law 7 = .ok (.ifCond .ne 10, 3) := by decide +kernel
theorem dX10_law_10 : decode cX10_law 10 = .ok (.aload_n 0, 1) := by decide +kernel
theorem dX10_law_11 : decode cX10_law 11 = .ok (.ldc 62, 2) := by decide +kernel
theorem dX10_law_13 : decode cX10_law 13 = .ok (.invokevirtual 63, 3) := by decide +kernel
theorem dX10_law_16 : decode cX10_law 16 = .ok (.ireturn, 1) := by decide +kernel
theorem dX10_law_17 : decode cX10_law 17 = .ok (.iload_n 1, 1) := by decide +kernel
theorem dX10_law_18 : decode cX10_law 18 = .ok (.ifCond .ne 17, 3) := by decide +kernel
theorem dX10_law_21 : decode cX10_law 21 = .ok (.aload_n 0, 1) := by decide +kernel
theorem dX10_law_22 : decode cX10_law 22 = .ok (.iload_n 2, 1) := by decide +kernel
theorem dX10_law_23 : decode cX10_law 23 = .ok (.iload_n 3, 1) := by decide +kernel
theorem dX10_law_24 : decode cX10_law 24 = .ok (.iload 4, 2) := by decide +kernel
theorem dX10_law_26 : decode cX10_law 26 = .ok (.invokevirtual 232, 3) := by decide +kernel
theorem dX10_law_29 : decode cX10_law 29 = .ok (.invokestatic 219, 3) := by decide +kernel
theorem dX10_law_32 : decode cX10_law 32 = .ok (.goto 11, 3) := by decide +kernel
theorem dX10_law_35 : decode cX10_law 35 = .ok (.aload_n 0, 1) := by decide +kernel
theorem dX10_law_36 : decode cX10_law 36 = .ok (.iload_n 2, 1) := by decide +kernel
theorem dX10_law_37 : decode cX10_law 37 = .ok (.iload_n 3, 1) := by decide +kernel
theorem dX10_law_38 : decode cX10_law 38 = .ok (.iload 4, 2) := by decide +kernel
theorem dX10_law_40 : decode cX10_law 40 = .ok (.invokevirtual 152, 3) := by decide +kernel
theorem dX10_law_43 : decode cX10_law 43 = .ok (.ireturn, 1) := by decide +kernel
theorem dX10_areMany_0 : decode cX10_areMany 0 = .ok (.aload_n 0, 1) := by decide +kernel
theorem dX10_areMany_1 : decode cX10_areMany 1 = .ok (.iconst 0, 1) := by decide +kernel
theorem dX10_areMany_2 : decode cX10_areMany 2 = .ok (.putfield 236, 3) := by decide +kernel
theorem dX10_areMany_5 : decode cX10_areMany 5 = .ok (.iconst 0, 1) := by decide +kernel
theorem dX10_areMany_6 : decode cX10_areMany 6 = .ok (.istore_n 1, 1) := by decide +kernel
theorem dX10_areMany_7 : decode cX10_areMany 7 = .ok (.iload_n 1, 1) := by decide +kernel
theorem dX10_areMany_8 : decode cX10_areMany 8 = .ok (.aload_n 0, 1) := by decide +kernel
theorem dX10_areMany_9 : decode cX10_areMany 9 = .ok (.getfield 9, 3) := by decide +kernel
theorem dX10_areMany_12 : decode cX10_areMany 12 = .ok (.iconst 1, 1) := by decide +kernel
theorem dX10_areMany_13 : decode cX10_areMany 13 = .ok (.iaload, 1) := by decide +kernel
theorem dX10_areMany_14 : decode cX10_areMany 14 = .ok (.if_icmp .ge 40, 3) := by decide +kernel
theorem dX10_areMany_17 : decode cX10_areMany 17 = .ok (.aload_n 0, 1) := by decide +kernel
theorem dX10_areMany_18 : decode cX10_areMany 18 = .ok (.iload_n 1, 1) := by decide +kernel
theorem dX10_areMany_19 : decode cX10_areMany 19 = .ok (.invokevirtual 107, 3) := by decide +kernel
theorem dX10_areMany_22 : decode cX10_areMany 22 = .ok (.ifCond .lt 6, 3) := by decide +kernel
theorem dX10_areMany_25 : decode cX10_areMany 25 = .ok (.goto 23, 3) := by decide +kernel
theorem dX10_areMany_28 : decode cX10_areMany 28 = .ok (.aload_n 0, 1) := by decide +kernel
theorem dX10_areMany_29 : decode cX10_areMany 29 = .ok (.getfield 25, 3) := by decide +kernel
theorem dX10_areMany_32 : decode cX10_areMany 32 = .ok (.aload_n 0, 1) := by decide +kernel
theorem dX10_areMany_33 : decode cX10_areMany 33 = .ok (.getfield 236, 3) := by decide +kernel
theorem dX10_areMany_36 : decode cX10_areMany 36 = .ok (.iload_n 1, 1) := by decide +kernel
theorem dX10_areMany_37 : decode cX10_areMany 37 = .ok (.iastore, 1) := by decide +kernel
theorem dX10_areMany_38 : decode cX10_areMany 38 = .ok (.aload_n 0, 1) := by decide +kernel
theorem dX10_areMany_39 : decode cX10_areMany 39 = .ok (.dup, 1) := by decide +kernel
theorem dX10_areMany_40 : decode cX10_areMany 40 = .ok (.getfield 236, 3) := by decide +kernel
theorem dX10_areMany_43 : decode cX10_areMany 43 = .ok (.iconst 1, 1) := by decide +kernel
theorem dX10_areMany_44 : decode cX10_areMany 44 = .ok (.iadd, 1) := by decide +kernel
theorem dX10_areMany_45 : decode cX10_areMany 45 = .ok (.putfield 236, 3) := by decide +kernel
theorem dX10_areMany_48 : decode cX10_areMany 48 = .ok (.iinc 1 1, 3) := by decide +kernel
theorem dX10_areMany_51 : decode cX10_areMany 51 = .ok (.goto (-44), 3) := by decide +kernel
theorem dX10_areMany_54 : decode cX10_areMany 54 = .ok (.aload_n 0, 1) := by decide +kernel
theorem dX10_areMany_55 : decode cX10_areMany 55 = .ok (.getfield 236, 3) := by decide +kernel
theorem dX10_areMany_58 : decode cX10_areMany 58 = .ok (.iconst 4, 1) := by decide +kernel
theorem dX10_areMany_59 : decode cX10_areMany 59 = .ok (.if_icmp .le 7, 3) := by decide +kernel
theorem dX10_areMany_62 : decode cX10_areMany 62 = .ok (.iconst 1, 1) := by decide +kernel
theorem dX10_areMany_63 : decode cX10_areMany 63 = .ok (.goto 4, 3) := by decide +kernel
theorem dX10_areMany_66 : decode cX10_areMany 66 = .ok (.iconst 0, 1) := by decide +kernel
theorem dX10_areMany_67 : decode cX10_areMany 67 = .ok (.ireturn, 1) := by decide +kernel
theorem dX10_letters_0 : decode cX10_letters 0 = .ok (.iconst 0, 1) := by decide +kernel
theorem dX10_letters_1 : decode cX10_letters 1 = .ok (.istore_n 1, 1) := by decide +kernel
theorem dX10_letters_2 : decode cX10_letters 2 = .ok (.iconst 0, 1) := by decide +kernel
theorem dX10_letters_3 : decode cX10_letters 3 = .ok (.istore_n 2, 1) := by decide +kernel
theorem dX10_letters_4 : decode cX10_letters 4 = .ok (.iload_n 2, 1) := by decide +kernel
theorem dX10_letters_5 : decode cX10_letters 5 = .ok (.aload_n 0, 1) := by decide +kernel
theorem dX10_letters_6 : decode cX10_letters 6 = .ok (.getfield 9, 3) := by decide +kernel
theorem dX10_letters_9 : decode cX10_letters 9 = .ok (.iconst 1, 1) := by decide +kernel
theorem dX10_letters_10 : decode cX10_letters 10 = .ok (.iaload, 1) := by decide +kernel
theorem dX10_letters_11 : decode cX10_letters 11 = .ok (.if_icmp .ge 21, 3) := by decide +kernel
theorem dX10_letters_14 : decode cX10_letters 14 = .ok (.iload_n 1, 1) := by decide +kernel
theorem dX10_letters_15 : decode cX10_letters 15 = .ok (.aload_n 0, 1) := by decide +kernel
theorem dX10_letters_16 : decode cX10_letters 16 = .ok (.aload_n 0, 1) := by decide +kernel
theorem dX10_letters_17 : decode cX10_letters 17 = .ok (.iload_n 2, 1) := by decide +kernel
theorem dX10_letters_18 : decode cX10_letters 18 = .ok (.invokevirtual 107, 3) := by decide +kernel
theorem dX10_letters_21 : decode cX10_letters 21 = .ok (.invokevirtual 56, 3) := by decide +kernel
theorem dX10_letters_24 : decode cX10_letters 24 = .ok (.ior, 1) := by decide +kernel
theorem dX10_letters_25 : decode cX10_letters 25 = .ok (.istore_n 1, 1) := by decide +kernel
theorem dX10_letters_26 : decode cX10_letters 26 = .ok (.iinc 2 1, 3) := by decide +kernel
theorem dX10_letters_29 : decode cX10_letters 29 = .ok (.goto (-25), 3) := by decide +kernel
theorem dX10_letters_32 : decode cX10_letters 32 = .ok (.iload_n 1, 1) := by decide +kernel
theorem dX10_letters_33 : decode cX10_letters 33 = .ok (.ireturn, 1) := by decide +kernel
theorem dX10_by_0 : decode cX10_by 0 = .ok (.iload_n 1, 1) := by decide +kernel
theorem dX10_by_1 : decode cX10_by 1 = .ok (.ifCond .ne 5, 3) := by decide +kernel
theorem dX10_by_4 : decode cX10_by 4 = .ok (.iconst 0, 1) := by decide +kernel
theorem dX10_by_5 : decode cX10_by 5 = .ok (.ireturn, 1) := by decide +kernel
theorem dX10_by_6 : decode cX10_by 6 = .ok (.iload_n 1, 1) := by decide +kernel
theorem dX10_by_7 : decode cX10_by 7 = .ok (.iconst 2, 1) := by decide +kernel
theorem dX10_by_8 : decode cX10_by 8 = .ok (.if_icmp .ne 12, 3) := by decide +kernel
theorem dX10_by_11 : decode cX10_by 11 = .ok (.aload_n 0, 1) := by decide +kernel
theorem dX10_by_12 : decode cX10_by 12 = .ok (.invokevirtual 239, 3) := by decide +kernel
theorem dX10_by_15 : decode cX10_by 15 = .ok (.invokestatic 145, 3) := by decide +kernel
theorem dX10_by_18 : decode cX10_by 18 = .ok (.ineg, 1) := by decide +kernel
theorem dX10_by_19 : decode cX10_by 19 = .ok (.ireturn, 1) := by decide +kernel
theorem dX10_by_20 : decode cX10_by 20 = .ok (.iconst 0, 1) := by decide +kernel
theorem dX10_by_21 : decode cX10_by 21 = .ok (.istore_n 2, 1) := by decide +kernel
theorem dX10_by_22 : decode cX10_by 22 = .ok (.iconst 0, 1) := by decide +kernel
theorem dX10_by_23 : decode cX10_by 23 = .ok (.istore_n 3, 1) := by decide +kernel
theorem dX10_by_24 : decode cX10_by 24 = .ok (.iload_n 3, 1) := by decide +kernel
theorem dX10_by_25 : decode cX10_by 25 = .ok (.aload_n 0, 1) := by decide +kernel
theorem dX10_by_26 : decode cX10_by 26 = .ok (.getfield 236, 3) := by decide +kernel
theorem dX10_by_29 : decode cX10_by 29 = .ok (.if_icmp .ge 33, 3) := by decide +kernel
theorem dX10_by_32 : decode cX10_by 32 = .ok (.iload_n 2, 1) := by decide +kernel
theorem dX10_by_33 : decode cX10_by 33 = .ok (.aload_n 0, 1) := by decide +kernel
theorem dX10_by_34 : decode cX10_by 34 = .ok (.aload_n 0, 1) := by decide +kernel
theorem dX10_by_35 : decode cX10_by 35 = .ok (.getfield 25, 3) := by decide +kernel
theorem dX10_by_38 : decode cX10_by 38 = .ok (.iload_n 3, 1) := by decide +kernel
theorem dX10_by_39 : decode cX10_by 39 = .ok (.iaload, 1) := by decide +kernel
theorem dX10_by_40 : decode cX10_by 40 = .ok (.aload_n 0, 1) := by decide +kernel
theorem dX10_by_41 : decode cX10_by 41 = .ok (.aload_n 0, 1) := by decide +kernel
theorem dX10_by_42 : decode cX10_by 42 = .ok (.getfield 25, 3) := by decide +kernel
theorem dX10_by_45 : decode cX10_by 45 = .ok (.iload_n 3, 1) := by decide +kernel
theorem dX10_by_46 : decode cX10_by 46 = .ok (.iaload, 1) := by decide +kernel
theorem dX10_by_47 : decode cX10_by 47 = .ok (.invokevirtual 107, 3) := by decide +kernel
theorem dX10_by_50 : decode cX10_by 50 = .ok (.iconst (-1), 1) := by decide +kernel
theorem dX10_by_51 : decode cX10_by 51 = .ok (.invokevirtual 156, 3) := by decide +kernel
theorem dX10_by_54 : decode cX10_by 54 = .ok (.iadd, 1) := by decide +kernel
theorem dX10_by_55 : decode cX10_by 55 = .ok (.istore_n 2, 1) := by decide +kernel
theorem dX10_by_56 : decode cX10_by 56 = .ok (.iinc 3 1, 3) := by decide +kernel
theorem dX10_by_59 : decode cX10_by 59 = .ok (.goto (-35), 3) := by decide +kernel
theorem dX10_by_62 : decode cX10_by 62 = .ok (.iload_n 2, 1) := by decide +kernel
theorem dX10_by_63 : decode cX10_by 63 = .ok (.ireturn, 1) := by decide +kernel
theorem dX10_givesFrom_0 : decode cX10_givesFrom 0 = .ok (.iload_n 1, 1) := by decide +kernel
theorem dX10_givesFrom_1 : decode cX10_givesFrom 1 = .ok (.aload_n 0, 1) := by decide +kernel
theorem dX10_givesFrom_2 : decode cX10_givesFrom 2 = .ok (.getfield 236, 3) := by decide +kernel
theorem dX10_givesFrom_5 : decode cX10_givesFrom 5 = .ok (.if_icmp .ne 76, 3) := by decide +kernel
theorem dX10_givesFrom_8 : decode cX10_givesFrom 8 = .ok (.aload_n 0, 1) := by decide +kernel
theorem dX10_givesFrom_9 : decode cX10_givesFrom 9 = .ok (.iload_n 2, 1) := by decide +kernel
theorem dX10_givesFrom_10 : decode cX10_givesFrom 10 = .ok (.invokevirtual 242, 3) := by decide +kernel
theorem dX10_givesFrom_13 : decode cX10_givesFrom 13 = .ok (.istore_n 3, 1) := by decide +kernel
theorem dX10_givesFrom_14 : decode cX10_givesFrom 14 = .ok (.aload_n 0, 1) := by decide +kernel
theorem dX10_givesFrom_15 : decode cX10_givesFrom 15 = .ok (.getfield 245, 3) := by decide +kernel
theorem dX10_givesFrom_18 : decode cX10_givesFrom 18 = .ok (.ifCond .eq 11, 3) := by decide +kernel
theorem dX10_givesFrom_21 : decode cX10_givesFrom 21 = .ok (.iload_n 3, 1) := by decide +kernel
theorem dX10_givesFrom_22 : decode cX10_givesFrom 22 = .ok (.aload_n 0, 1) := by decide +kernel
theorem dX10_givesFrom_23 : decode cX10_givesFrom 23 = .ok (.getfield 248, 3) := by decide +kernel
theorem dX10_givesFrom_26 : decode cX10_givesFrom 26 = .ok (.if_icmp .le 44, 3) := by decide +kernel
theorem dX10_givesFrom_29 : decode cX10_givesFrom 29 = .ok (.aload_n 0, 1) := by decide +kernel
theorem dX10_givesFrom_30 : decode cX10_givesFrom 30 = .ok (.iload_n 3, 1) := by decide +kernel
theorem dX10_givesFrom_31 : decode cX10_givesFrom 31 = .ok (.putfield 248, 3) := by decide +kernel
theorem dX10_givesFrom_34 : decode cX10_givesFrom 34 = .ok (.iconst 0, 1) := by decide +kernel
theorem dX10_givesFrom_35 : decode cX10_givesFrom 35 = .ok (.istore 4, 2) := by decide +kernel
theorem dX10_givesFrom_37 : decode cX10_givesFrom 37 = .ok (.iload 4, 2) := by decide +kernel
theorem dX10_givesFrom_39 : decode cX10_givesFrom 39 = .ok (.aload_n 0, 1) := by decide +kernel
theorem dX10_givesFrom_40 : decode cX10_givesFrom 40 = .ok (.getfield 236, 3) := by decide +kernel
theorem dX10_givesFrom_43 : decode cX10_givesFrom 43 = .ok (.if_icmp .ge 27, 3) := by decide +kernel
theorem dX10_givesFrom_46 : decode cX10_givesFrom 46 = .ok (.aload_n 0, 1) := by decide +kernel
theorem dX10_givesFrom_47 : decode cX10_givesFrom 47 = .ok (.getfield 28, 3) := by decide +kernel
theorem dX10_givesFrom_50 : decode cX10_givesFrom 50 = .ok (.iload 4, 2) := by decide +kernel
theorem dX10_givesFrom_52 : decode cX10_givesFrom 52 = .ok (.aload_n 0, 1) := by decide +kernel
theorem dX10_givesFrom_53 : decode cX10_givesFrom 53 = .ok (.aload_n 0, 1) := by decide +kernel
theorem dX10_givesFrom_54 : decode cX10_givesFrom 54 = .ok (.getfield 25, 3) := by decide +kernel
theorem dX10_givesFrom_57 : decode cX10_givesFrom 57 = .ok (.iload 4, 2) := by decide +kernel
theorem dX10_givesFrom_59 : decode cX10_givesFrom 59 = .ok (.iaload, 1) := by decide +kernel
theorem dX10_givesFrom_60 : decode cX10_givesFrom 60 = .ok (.invokevirtual 107, 3) := by decide +kernel
theorem dX10_givesFrom_63 : decode cX10_givesFrom 63 = .ok (.iastore, 1) := by decide +kernel
theorem dX10_givesFrom_64 : decode cX10_givesFrom 64 = .ok (.iinc 4 1, 3) := by decide +kernel
theorem dX10_givesFrom_67 : decode cX10_givesFrom 67 = .ok (.goto (-30), 3) := by decide +kernel
theorem dX10_givesFrom_70 : decode cX10_givesFrom 70 = .ok (.aload_n 0, 1) := by decide +kernel
theorem dX10_givesFrom_71 : decode cX10_givesFrom 71 = .ok (.dup, 1) := by decide +kernel
theorem dX10_givesFrom_72 : decode cX10_givesFrom 72 = .ok (.getfield 245, 3) := by decide +kernel
theorem dX10_givesFrom_75 : decode cX10_givesFrom 75 = .ok (.iconst 1, 1) := by decide +kernel
theorem dX10_givesFrom_76 : decode cX10_givesFrom 76 = .ok (.iadd, 1) := by decide +kernel
theorem dX10_givesFrom_77 : decode cX10_givesFrom 77 = .ok (.putfield 245, 3) := by decide +kernel
theorem dX10_givesFrom_80 : decode cX10_givesFrom 80 = .ok (.return_, 1) := by decide +kernel
theorem dX10_givesFrom_81 : decode cX10_givesFrom 81 = .ok (.aload_n 0, 1) := by decide +kernel
theorem dX10_givesFrom_82 : decode cX10_givesFrom 82 = .ok (.getfield 25, 3) := by decide +kernel
theorem dX10_givesFrom_85 : decode cX10_givesFrom 85 = .ok (.iload_n 1, 1) := by decide +kernel
theorem dX10_givesFrom_86 : decode cX10_givesFrom 86 = .ok (.iaload, 1) := by decide +kernel
theorem dX10_givesFrom_87 : decode cX10_givesFrom 87 = .ok (.istore_n 3, 1) := by decide +kernel
theorem dX10_givesFrom_88 : decode cX10_givesFrom 88 = .ok (.iconst 0, 1) := by decide +kernel
theorem dX10_givesFrom_89 : decode cX10_givesFrom 89 = .ok (.istore 4, 2) := by decide +kernel
theorem dX10_givesFrom_91 : decode cX10_givesFrom 91 = .ok (.iload 4, 2) := by decide +kernel
theorem dX10_givesFrom_93 : decode cX10_givesFrom 93 = .ok (.aload_n 0, 1) := by decide +kernel
theorem dX10_givesFrom_94 : decode cX10_givesFrom 94 = .ok (.getfield 9, 3) := by decide +kernel
theorem dX10_givesFrom_97 : decode cX10_givesFrom 97 = .ok (.iconst 0, 1) := by decide +kernel
theorem dX10_givesFrom_98 : decode cX10_givesFrom 98 = .ok (.iaload, 1) := by decide +kernel
theorem dX10_givesFrom_99 : decode cX10_givesFrom 99 = .ok (.if_icmp .ge 52, 3) := by decide +kernel
theorem dX10_givesFrom_102 : decode cX10_givesFrom 102 = .ok (.aload_n 0, 1) := by decide +kernel
theorem dX10_givesFrom_103 : decode cX10_givesFrom 103 = .ok (.iload 4, 2) := by decide +kernel
theorem dX10_givesFrom_105 : decode cX10_givesFrom 105 = .ok (.invokevirtual 159, 3) := by decide +kernel
theorem dX10_givesFrom_108 : decode cX10_givesFrom 108 = .ok (.ifCond .ne 37, 3) := by decide +kernel
theorem dX10_givesFrom_111 : decode cX10_givesFrom 111 = .ok (.aload_n 0, 1) := by decide +kernel
theorem dX10_givesFrom_112 : decode cX10_givesFrom 112 = .ok (.iload_n 3, 1) := by decide +kernel
theorem dX10_givesFrom_113 : decode cX10_givesFrom 113 = .ok (.iload 4, 2) := by decide +kernel
theorem dX10_givesFrom_115 : decode cX10_givesFrom 115 = .ok (.invokevirtual 118, 3) := by decide +kernel
theorem dX10_givesFrom_118 : decode cX10_givesFrom 118 = .ok (.ifCond .eq 6, 3) := by decide +kernel
theorem dX10_givesFrom_121 : decode cX10_givesFrom 121 = .ok (.goto 24, 3) := by decide +kernel
theorem dX10_givesFrom_124 : decode cX10_givesFrom 124 = .ok (.aload_n 0, 1) := by decide +kernel
theorem dX10_givesFrom_125 : decode cX10_givesFrom 125 = .ok (.iload_n 3, 1) := by decide +kernel
theorem dX10_givesFrom_126 : decode cX10_givesFrom 126 = .ok (.iload 4, 2) := by decide +kernel
theorem dX10_givesFrom_128 : decode cX10_givesFrom 128 = .ok (.invokevirtual 251, 3) := by decide +kernel
theorem dX10_givesFrom_131 : decode cX10_givesFrom 131 = .ok (.aload_n 0, 1) := by decide +kernel
theorem dX10_givesFrom_132 : decode cX10_givesFrom 132 = .ok (.iload_n 1, 1) := by decide +kernel
theorem dX10_givesFrom_133 : decode cX10_givesFrom 133 = .ok (.iconst 1, 1) := by decide +kernel
theorem dX10_givesFrom_134 : decode cX10_givesFrom 134 = .ok (.iadd, 1) := by decide +kernel
theorem dX10_givesFrom_135 : decode cX10_givesFrom 135 = .ok (.iload_n 2, 1) := by decide +kernel
theorem dX10_givesFrom_136 : decode cX10_givesFrom 136 = .ok (.invokevirtual 254, 3) := by decide +kernel
theorem dX10_givesFrom_139 : decode cX10_givesFrom 139 = .ok (.aload_n 0, 1) := by decide +kernel
theorem dX10_givesFrom_140 : decode cX10_givesFrom 140 = .ok (.iload_n 3, 1) := by decide +kernel
theorem dX10_givesFrom_141 : decode cX10_givesFrom 141 = .ok (.iconst (-1), 1) := by decide +kernel
theorem dX10_givesFrom_142 : decode cX10_givesFrom 142 = .ok (.invokevirtual 251, 3) := by decide +kernel
theorem dX10_givesFrom_145 : decode cX10_givesFrom 145 = .ok (.iinc 4 1, 3) := by decide +kernel
theorem dX10_givesFrom_148 : decode cX10_givesFrom 148 = .ok (.goto (-57), 3) := by decide +kernel
theorem dX10_givesFrom_151 : decode cX10_givesFrom 151 = .ok (.return_, 1) := by decide +kernel
theorem dX10_findGivings_0 : decode cX10_findGivings 0 = .ok (.aload_n 0, 1) := by decide +kernel
theorem dX10_findGivings_1 : decode cX10_findGivings 1 = .ok (.iconst 0, 1) := by decide +kernel
theorem dX10_findGivings_2 : decode cX10_findGivings 2 = .ok (.putfield 245, 3) := by decide +kernel
theorem dX10_findGivings_5 : decode cX10_findGivings 5 = .ok (.aload_n 0, 1) := by decide +kernel
theorem dX10_findGivings_6 : decode cX10_findGivings 6 = .ok (.iconst 0, 1) := by decide +kernel
theorem dX10_findGivings_7 : decode cX10_findGivings 7 = .ok (.iload_n 1, 1) := by decide +kernel
theorem dX10_findGivings_8 : decode cX10_findGivings 8 = .ok (.invokevirtual 254, 3) := by decide +kernel
theorem dX10_findGivings_11 : decode cX10_findGivings 11 = .ok (.return_, 1) := by decide +kernel
theorem dX10_nameThen_0 : decode cX10_nameThen 0 = .ok (.iconst 0, 1) := by decide +kernel
theorem dX10_nameThen_1 : decode cX10_nameThen 1 = .ok (.istore_n 2, 1) := by decide +kernel
theorem dX10_nameThen_2 : decode cX10_nameThen 2 = .ok (.iload_n 2, 1) := by decide +kernel
theorem dX10_nameThen_3 : decode cX10_nameThen 3 = .ok (.aload_n 0, 1) := by decide +kernel
theorem dX10_nameThen_4 : decode cX10_nameThen 4 = .ok (.getfield 236, 3) := by decide +kernel
theorem dX10_nameThen_7 : decode cX10_nameThen 7 = .ok (.if_icmp .ge 26, 3) := by decide +kernel
theorem dX10_nameThen_10 : decode cX10_nameThen 10 = .ok (.aload_n 0, 1) := by decide +kernel
theorem dX10_nameThen_11 : decode cX10_nameThen 11 = .ok (.getfield 25, 3) := by decide +kernel
theorem dX10_nameThen_14 : decode cX10_nameThen 14 = .ok (.iload_n 2, 1) := by decide +kernel
theorem dX10_nameThen_15 : decode cX10_nameThen 15 = .ok (.iaload, 1) := by decide +kernel
theorem dX10_nameThen_16 : decode cX10_nameThen 16 = .ok (.iload_n 1, 1) := by decide +kernel
theorem dX10_nameThen_17 : decode cX10_nameThen 17 = .ok (.if_icmp .ne 10, 3) := by decide +kernel
theorem dX10_nameThen_20 : decode cX10_nameThen 20 = .ok (.aload_n 0, 1) := by decide +kernel
theorem dX10_nameThen_21 : decode cX10_nameThen 21 = .ok (.getfield 28, 3) := by decide +kernel
theorem dX10_nameThen_24 : decode cX10_nameThen 24 = .ok (.iload_n 2, 1) := by decide +kernel
theorem dX10_nameThen_25 : decode cX10_nameThen 25 = .ok (.iaload, 1) := by decide +kernel
theorem dX10_nameThen_26 : decode cX10_nameThen 26 = .ok (.ireturn, 1) := by decide +kernel
theorem dX10_nameThen_27 : decode cX10_nameThen 27 = .ok (.iinc 2 1, 3) := by decide +kernel
theorem dX10_nameThen_30 : decode cX10_nameThen 30 = .ok (.goto (-28), 3) := by decide +kernel
theorem dX10_nameThen_33 : decode cX10_nameThen 33 = .ok (.aload_n 0, 1) := by decide +kernel
theorem dX10_nameThen_34 : decode cX10_nameThen 34 = .ok (.iload_n 1, 1) := by decide +kernel
theorem dX10_nameThen_35 : decode cX10_nameThen 35 = .ok (.invokevirtual 107, 3) := by decide +kernel
theorem dX10_nameThen_38 : decode cX10_nameThen 38 = .ok (.ireturn, 1) := by decide +kernel
theorem dX10_asked_0 : decode cX10_asked 0 = .ok (.aload_n 0, 1) := by decide +kernel
theorem dX10_asked_1 : decode cX10_asked 1 = .ok (.invokevirtual 257, 3) := by decide +kernel
theorem dX10_asked_4 : decode cX10_asked 4 = .ok (.ifCond .eq 11, 3) := by decide +kernel
theorem dX10_asked_7 : decode cX10_asked 7 = .ok (.aload_n 0, 1) := by decide +kernel
theorem dX10_asked_8 : decode cX10_asked 8 = .ok (.ldc_w 260, 3) := by decide +kernel
theorem dX10_asked_11 : decode cX10_asked 11 = .ok (.invokevirtual 63, 3) := by decide +kernel
theorem dX10_asked_14 : decode cX10_asked 14 = .ok (.ireturn, 1) := by decide +kernel
theorem dX10_asked_15 : decode cX10_asked 15 = .ok (.aload_n 0, 1) := by decide +kernel
theorem dX10_asked_16 : decode cX10_asked 16 = .ok (.iload_n 2, 1) := by decide +kernel
theorem dX10_asked_17 : decode cX10_asked 17 = .ok (.invokevirtual 261, 3) := by decide +kernel
theorem dX10_asked_20 : decode cX10_asked 20 = .ok (.aload_n 0, 1) := by decide +kernel
theorem dX10_asked_21 : decode cX10_asked 21 = .ok (.getfield 245, 3) := by decide +kernel
theorem dX10_asked_24 : decode cX10_asked 24 = .ok (.ifCond .ne 10, 3) := by decide +kernel
theorem dX10_asked_27 : decode cX10_asked 27 = .ok (.aload_n 0, 1) := by decide +kernel
theorem dX10_asked_28 : decode cX10_asked 28 = .ok (.ldc 138, 2) := by decide +kernel
theorem dX10_asked_30 : decode cX10_asked 30 = .ok (.invokevirtual 63, 3) := by decide +kernel
theorem dX10_asked_33 : decode cX10_asked 33 = .ok (.ireturn, 1) := by decide +kernel
theorem dX10_asked_34 : decode cX10_asked 34 = .ok (.iload_n 1, 1) := by decide +kernel
theorem dX10_asked_35 : decode cX10_asked 35 = .ok (.ifCond .lt 11, 3) := by decide +kernel
theorem dX10_asked_38 : decode cX10_asked 38 = .ok (.aload_n 0, 1) := by decide +kernel
theorem dX10_asked_39 : decode cX10_asked 39 = .ok (.iload_n 1, 1) := by decide +kernel
theorem dX10_asked_40 : decode cX10_asked 40 = .ok (.invokevirtual 264, 3) := by decide +kernel
theorem dX10_asked_43 : decode cX10_asked 43 = .ok (.goto 20, 3) := by decide +kernel
theorem dX10_asked_46 : decode cX10_asked 46 = .ok (.iload_n 2, 1) := by decide +kernel
theorem dX10_asked_47 : decode cX10_asked 47 = .ok (.iconst 1, 1) := by decide +kernel
theorem dX10_asked_48 : decode cX10_asked 48 = .ok (.if_icmp .ne 10, 3) := by decide +kernel
theorem dX10_asked_51 : decode cX10_asked 51 = .ok (.aload_n 0, 1) := by decide +kernel
theorem dX10_asked_52 : decode cX10_asked 52 = .ok (.getfield 248, 3) := by decide +kernel
theorem dX10_asked_55 : decode cX10_asked 55 = .ok (.goto 8, 3) := by decide +kernel
theorem dX10_asked_58 : decode cX10_asked 58 = .ok (.aload_n 0, 1) := by decide +kernel
theorem dX10_asked_59 : decode cX10_asked 59 = .ok (.getfield 248, 3) := by decide +kernel
theorem dX10_asked_62 : decode cX10_asked 62 = .ok (.ineg, 1) := by decide +kernel
theorem dX10_asked_63 : decode cX10_asked 63 = .ok (.ireturn, 1) := by decide +kernel
theorem dX10_first_0 : decode cX10_first 0 = .ok (.aload_n 0, 1) := by decide +kernel
theorem dX10_first_1 : decode cX10_first 1 = .ok (.iload_n 1, 1) := by decide +kernel
theorem dX10_first_2 : decode cX10_first 2 = .ok (.invokevirtual 113, 3) := by decide +kernel
theorem dX10_first_5 : decode cX10_first 5 = .ok (.ifCond .eq 12, 3) := by decide +kernel
theorem dX10_first_8 : decode cX10_first 8 = .ok (.aload_n 0, 1) := by decide +kernel
theorem dX10_first_9 : decode cX10_first 9 = .ok (.iload_n 1, 1) := by decide +kernel
theorem dX10_first_10 : decode cX10_first 10 = .ok (.iconst 0, 1) := by decide +kernel
theorem dX10_first_11 : decode cX10_first 11 = .ok (.invokevirtual 267, 3) := by decide +kernel
theorem dX10_first_14 : decode cX10_first 14 = .ok (.goto 9, 3) := by decide +kernel
theorem dX10_first_17 : decode cX10_first 17 = .ok (.aload_n 0, 1) := by decide +kernel
theorem dX10_first_18 : decode cX10_first 18 = .ok (.ldc 62, 2) := by decide +kernel
theorem dX10_first_20 : decode cX10_first 20 = .ok (.invokevirtual 63, 3) := by decide +kernel
theorem dX10_first_23 : decode cX10_first 23 = .ok (.ireturn, 1) := by decide +kernel
theorem dX10_all_0 : decode cX10_all 0 = .ok (.aload_n 0, 1) := by decide +kernel
theorem dX10_all_1 : decode cX10_all 1 = .ok (.invokevirtual 257, 3) := by decide +kernel
theorem dX10_all_4 : decode cX10_all 4 = .ok (.ifCond .eq 11, 3) := by decide +kernel
theorem dX10_all_7 : decode cX10_all 7 = .ok (.aload_n 0, 1) := by decide +kernel
theorem dX10_all_8 : decode cX10_all 8 = .ok (.ldc_w 260, 3) := by decide +kernel
theorem dX10_all_11 : decode cX10_all 11 = .ok (.invokevirtual 63, 3) := by decide +kernel
theorem dX10_all_14 : decode cX10_all 14 = .ok (.ireturn, 1) := by decide +kernel
theorem dX10_all_15 : decode cX10_all 15 = .ok (.aload_n 0, 1) := by decide +kernel
theorem dX10_all_16 : decode cX10_all 16 = .ok (.iconst 0, 1) := by decide +kernel
theorem dX10_all_17 : decode cX10_all 17 = .ok (.invokevirtual 261, 3) := by decide +kernel
theorem dX10_all_20 : decode cX10_all 20 = .ok (.aload_n 0, 1) := by decide +kernel
theorem dX10_all_21 : decode cX10_all 21 = .ok (.getfield 245, 3) := by decide +kernel
theorem dX10_all_24 : decode cX10_all 24 = .ok (.ireturn, 1) := by decide +kernel
theorem dX10_best_0 : decode cX10_best 0 = .ok (.iload_n 1, 1) := by decide +kernel
theorem dX10_best_1 : decode cX10_best 1 = .ok (.iconst (-1), 1) := by decide +kernel
theorem dX10_best_2 : decode cX10_best 2 = .ok (.if_icmp .eq 11, 3) := by decide +kernel
theorem dX10_best_5 : decode cX10_best 5 = .ok (.aload_n 0, 1) := by decide +kernel
theorem dX10_best_6 : decode cX10_best 6 = .ok (.iload_n 1, 1) := by decide +kernel
theorem dX10_best_7 : decode cX10_best 7 = .ok (.invokevirtual 113, 3) := by decide +kernel
theorem dX10_best_10 : decode cX10_best 10 = .ok (.ifCond .eq 12, 3) := by decide +kernel
theorem dX10_best_13 : decode cX10_best 13 = .ok (.aload_n 0, 1) := by decide +kernel
theorem dX10_best_14 : decode cX10_best 14 = .ok (.iload_n 1, 1) := by decide +kernel
theorem dX10_best_15 : decode cX10_best 15 = .ok (.iconst 1, 1) := by decide +kernel
theorem dX10_best_16 : decode cX10_best 16 = .ok (.invokevirtual 267, 3) := by decide +kernel
theorem dX10_best_19 : decode cX10_best 19 = .ok (.goto 9, 3) := by decide +kernel
theorem dX10_best_22 : decode cX10_best 22 = .ok (.aload_n 0, 1) := by decide +kernel
theorem dX10_best_23 : decode cX10_best 23 = .ok (.ldc 62, 2) := by decide +kernel
theorem dX10_best_25 : decode cX10_best 25 = .ok (.invokevirtual 63, 3) := by decide +kernel
theorem dX10_best_28 : decode cX10_best 28 = .ok (.ireturn, 1) := by decide +kernel
theorem dX10_fewest_0 : decode cX10_fewest 0 = .ok (.iload_n 1, 1) := by decide +kernel
theorem dX10_fewest_1 : decode cX10_fewest 1 = .ok (.iconst (-1), 1) := by decide +kernel
theorem dX10_fewest_2 : decode cX10_fewest 2 = .ok (.if_icmp .eq 11, 3) := by decide +kernel
theorem dX10_fewest_5 : decode cX10_fewest 5 = .ok (.aload_n 0, 1) := by decide +kernel
theorem dX10_fewest_6 : decode cX10_fewest 6 = .ok (.iload_n 1, 1) := by decide +kernel
theorem dX10_fewest_7 : decode cX10_fewest 7 = .ok (.invokevirtual 113, 3) := by decide +kernel
theorem dX10_fewest_10 : decode cX10_fewest 10 = .ok (.ifCond .eq 12, 3) := by decide +kernel
theorem dX10_fewest_13 : decode cX10_fewest 13 = .ok (.aload_n 0, 1) := by decide +kernel
theorem dX10_fewest_14 : decode cX10_fewest 14 = .ok (.iload_n 1, 1) := by decide +kernel
theorem dX10_fewest_15 : decode cX10_fewest 15 = .ok (.iconst 2, 1) := by decide +kernel
theorem dX10_fewest_16 : decode cX10_fewest 16 = .ok (.invokevirtual 267, 3) := by decide +kernel
theorem dX10_fewest_19 : decode cX10_fewest 19 = .ok (.goto 9, 3) := by decide +kernel
theorem dX10_fewest_22 : decode cX10_fewest 22 = .ok (.aload_n 0, 1) := by decide +kernel
theorem dX10_fewest_23 : decode cX10_fewest 23 = .ok (.ldc 62, 2) := by decide +kernel
theorem dX10_fewest_25 : decode cX10_fewest 25 = .ok (.invokevirtual 63, 3) := by decide +kernel
theorem dX10_fewest_28 : decode cX10_fewest 28 = .ok (.ireturn, 1) := by decide +kernel
theorem dX10_give_0 : decode cX10_give 0 = .ok (.iload_n 1, 1) := by decide +kernel
theorem dX10_give_1 : decode cX10_give 1 = .ok (.i2l, 1) := by decide +kernel
theorem dX10_give_2 : decode cX10_give 2 = .ok (.lconst 0, 1) := by decide +kernel
theorem dX10_give_3 : decode cX10_give 3 = .ok (.ldc2_w 270, 3) := by decide +kernel
theorem dX10_give_6 : decode cX10_give 6 = .ok (.invokestatic 48, 3) := by decide +kernel
theorem dX10_give_9 : decode cX10_give 9 = .ok (.ifCond .ne 10, 3) := by decide +kernel
theorem dX10_give_12 : decode cX10_give 12 = .ok (.aload_n 0, 1) := by decide +kernel
theorem dX10_give_13 : decode cX10_give 13 = .ok (.ldc 62, 2) := by decide +kernel
theorem dX10_give_15 : decode cX10_give 15 = .ok (.invokevirtual 63, 3) := by decide +kernel
theorem dX10_give_18 : decode cX10_give 18 = .ok (.ireturn, 1) := by decide +kernel
theorem dX10_give_19 : decode cX10_give 19 = .ok (.aload_n 0, 1) := by decide +kernel
theorem dX10_give_20 : decode cX10_give 20 = .ok (.invokevirtual 257, 3) := by decide +kernel
theorem dX10_give_23 : decode cX10_give 23 = .ok (.ifCond .eq 11, 3) := by decide +kernel
theorem dX10_give_26 : decode cX10_give 26 = .ok (.aload_n 0, 1) := by decide +kernel
theorem dX10_give_27 : decode cX10_give 27 = .ok (.ldc_w 260, 3) := by decide +kernel
theorem dX10_give_30 : decode cX10_give 30 = .ok (.invokevirtual 63, 3) := by decide +kernel
theorem dX10_give_33 : decode cX10_give 33 = .ok (.ireturn, 1) := by decide +kernel
theorem dX10_give_34 : decode cX10_give 34 = .ok (.aload_n 0, 1) := by decide +kernel
theorem dX10_give_35 : decode cX10_give 35 = .ok (.iload_n 1, 1) := by decide +kernel
theorem dX10_give_36 : decode cX10_give 36 = .ok (.invokevirtual 261, 3) := by decide +kernel
theorem dX10_give_39 : decode cX10_give 39 = .ok (.aload_n 0, 1) := by decide +kernel
theorem dX10_give_40 : decode cX10_give 40 = .ok (.getfield 245, 3) := by decide +kernel
theorem dX10_give_43 : decode cX10_give 43 = .ok (.ifCond .ne 10, 3) := by decide +kernel
theorem dX10_give_46 : decode cX10_give 46 = .ok (.aload_n 0, 1) := by decide +kernel
theorem dX10_give_47 : decode cX10_give 47 = .ok (.ldc 138, 2) := by decide +kernel
theorem dX10_give_49 : decode cX10_give 49 = .ok (.invokevirtual 63, 3) := by decide +kernel
theorem dX10_give_52 : decode cX10_give 52 = .ok (.ireturn, 1) := by decide +kernel
theorem dX10_give_53 : decode cX10_give 53 = .ok (.iconst 0, 1) := by decide +kernel
theorem dX10_give_54 : decode cX10_give 54 = .ok (.istore_n 2, 1) := by decide +kernel
theorem dX10_give_55 : decode cX10_give 55 = .ok (.iload_n 2, 1) := by decide +kernel
theorem dX10_give_56 : decode cX10_give 56 = .ok (.aload_n 0, 1) := by decide +kernel
theorem dX10_give_57 : decode cX10_give 57 = .ok (.getfield 236, 3) := by decide +kernel
theorem dX10_give_60 : decode cX10_give 60 = .ok (.if_icmp .ge 25, 3) := by decide +kernel
theorem dX10_give_63 : decode cX10_give 63 = .ok (.aload_n 0, 1) := by decide +kernel
theorem dX10_give_64 : decode cX10_give 64 = .ok (.aload_n 0, 1) := by decide +kernel
theorem dX10_give_65 : decode cX10_give 65 = .ok (.getfield 25, 3) := by decide +kernel
theorem dX10_give_68 : decode cX10_give 68 = .ok (.iload_n 2, 1) := by decide +kernel
theorem dX10_give_69 : decode cX10_give 69 = .ok (.iaload, 1) := by decide +kernel
theorem dX10_give_70 : decode cX10_give 70 = .ok (.aload_n 0, 1) := by decide +kernel
theorem dX10_give_71 : decode cX10_give 71 = .ok (.getfield 28, 3) := by decide +kernel
theorem dX10_give_74 : decode cX10_give 74 = .ok (.iload_n 2, 1) := by decide +kernel
theorem dX10_give_75 : decode cX10_give 75 = .ok (.iaload, 1) := by decide +kernel
theorem dX10_give_76 : decode cX10_give 76 = .ok (.invokevirtual 251, 3) := by decide +kernel
theorem dX10_give_79 : decode cX10_give 79 = .ok (.iinc 2 1, 3) := by decide +kernel
theorem dX10_give_82 : decode cX10_give 82 = .ok (.goto (-27), 3) := by decide +kernel
theorem dX10_give_85 : decode cX10_give 85 = .ok (.aload_n 0, 1) := by decide +kernel
theorem dX10_give_86 : decode cX10_give 86 = .ok (.getfield 236, 3) := by decide +kernel
theorem dX10_give_89 : decode cX10_give 89 = .ok (.ireturn, 1) := by decide +kernel
theorem dX10_canChange_0 : decode cX10_canChange 0 = .ok (.iload_n 1, 1) := by decide +kernel
theorem dX10_canChange_1 : decode cX10_canChange 1 = .ok (.ifCond .ne 8, 3) := by decide +kernel
theorem dX10_canChange_4 : decode cX10_canChange 4 = .ok (.aload_n 0, 1) := by decide +kernel
theorem dX10_canChange_5 : decode cX10_canChange 5 = .ok (.invokevirtual 162, 3) := by decide +kernel
theorem dX10_canChange_8 : decode cX10_canChange 8 = .ok (.ireturn, 1) := by decide +kernel
theorem dX10_canChange_9 : decode cX10_canChange 9 = .ok (.iconst 0, 1) := by decide +kernel
theorem dX10_canChange_10 : decode cX10_canChange 10 = .ok (.istore_n 2, 1) := by decide +kernel
theorem dX10_canChange_11 : decode cX10_canChange 11 = .ok (.iload_n 1, 1) := by decide +kernel
theorem dX10_canChange_12 : decode cX10_canChange 12 = .ok (.iload_n 2, 1) := by decide +kernel
theorem dX10_canChange_13 : decode cX10_canChange 13 = .ok (.invokestatic 103, 3) := by decide +kernel
theorem dX10_canChange_16 : decode cX10_canChange 16 = .ok (.ifCond .ne 9, 3) := by decide +kernel
theorem dX10_canChange_19 : decode cX10_canChange 19 = .ok (.iinc 2 1, 3) := by decide +kernel
theorem dX10_canChange_22 : decode cX10_canChange 22 = .ok (.goto (-11), 3) := by decide +kernel
theorem dX10_canChange_25 : decode cX10_canChange 25 = .ok (.aload_n 0, 1) := by decide +kernel
theorem dX10_canChange_26 : decode cX10_canChange 26 = .ok (.iload_n 2, 1) := by decide +kernel
theorem dX10_canChange_27 : decode cX10_canChange 27 = .ok (.invokevirtual 107, 3) := by decide +kernel
theorem dX10_canChange_30 : decode cX10_canChange 30 = .ok (.istore_n 3, 1) := by decide +kernel
theorem dX10_canChange_31 : decode cX10_canChange 31 = .ok (.iconst 0, 1) := by decide +kernel
theorem dX10_canChange_32 : decode cX10_canChange 32 = .ok (.istore 4, 2) := by decide +kernel
theorem dX10_canChange_34 : decode cX10_canChange 34 = .ok (.iconst 0, 1) := by decide +kernel
theorem dX10_canChange_35 : decode cX10_canChange 35 = .ok (.istore 5, 2) := by decide +kernel
theorem dX10_canChange_37 : decode cX10_canChange 37 = .ok (.iload 5, 2) := by decide +kernel
theorem dX10_canChange_39 : decode cX10_canChange 39 = .ok (.aload_n 0, 1) := by decide +kernel
theorem dX10_canChange_40 : decode cX10_canChange 40 = .ok (.getfield 9, 3) := by decide +kernel
theorem dX10_canChange_43 : decode cX10_canChange 43 = .ok (.iconst 0, 1) := by decide +kernel
theorem dX10_canChange_44 : decode cX10_canChange 44 = .ok (.iaload, 1) := by decide +kernel
theorem dX10_canChange_45 : decode cX10_canChange 45 = .ok (.if_icmp .ge 51, 3) := by decide +kernel
theorem dX10_canChange_48 : decode cX10_canChange 48 = .ok (.iload 4, 2) := by decide +kernel
theorem dX10_canChange_50 : decode cX10_canChange 50 = .ok (.ifCond .ne 46, 3) := by decide +kernel
theorem dX10_canChange_53 : decode cX10_canChange 53 = .ok (.aload_n 0, 1) := by decide +kernel
theorem dX10_canChange_54 : decode cX10_canChange 54 = .ok (.iload_n 2, 1) := by decide +kernel
theorem dX10_canChange_55 : decode cX10_canChange 55 = .ok (.iload 5, 2) := by decide +kernel
theorem dX10_canChange_57 : decode cX10_canChange 57 = .ok (.invokevirtual 251, 3) := by decide +kernel
theorem dX10_canChange_60 : decode cX10_canChange 60 = .ok (.aload_n 0, 1) := by decide +kernel
theorem dX10_canChange_61 : decode cX10_canChange 61 = .ok (.iload 5, 2) := by decide +kernel
theorem dX10_canChange_63 : decode cX10_canChange 63 = .ok (.invokevirtual 159, 3) := by decide +kernel
theorem dX10_canChange_66 : decode cX10_canChange 66 = .ok (.ifCond .ne 21, 3) := by decide +kernel
theorem dX10_canChange_69 : decode cX10_canChange 69 = .ok (.aload_n 0, 1) := by decide +kernel
theorem dX10_canChange_70 : decode cX10_canChange 70 = .ok (.iload_n 1, 1) := by decide +kernel
theorem dX10_canChange_71 : decode cX10_canChange 71 = .ok (.iconst 1, 1) := by decide +kernel
theorem dX10_canChange_72 : decode cX10_canChange 72 = .ok (.iload_n 2, 1) := by decide +kernel
theorem dX10_canChange_73 : decode cX10_canChange 73 = .ok (.ishl, 1) := by decide +kernel
theorem dX10_canChange_74 : decode cX10_canChange 74 = .ok (.iconst (-1), 1) := by decide +kernel
theorem dX10_canChange_75 : decode cX10_canChange 75 = .ok (.ixor, 1) := by decide +kernel
theorem dX10_canChange_76 : decode cX10_canChange 76 = .ok (.iand, 1) := by decide +kernel
theorem dX10_canChange_77 : decode cX10_canChange 77 = .ok (.invokevirtual 272, 3) := by decide +kernel
theorem dX10_canChange_80 : decode cX10_canChange 80 = .ok (.ifCond .eq 7, 3) := by decide +kernel
theorem dX10_canChange_83 : decode cX10_canChange 83 = .ok (.iconst 1, 1) := by decide +kernel
theorem dX10_canChange_84 : decode cX10_canChange 84 = .ok (.goto 4, 3) := by decide +kernel
theorem dX10_canChange_87 : decode cX10_canChange 87 = .ok (.iconst 0, 1) := by decide +kernel
theorem dX10_canChange_88 : decode cX10_canChange 88 = .ok (.istore 4, 2) := by decide +kernel
theorem dX10_canChange_90 : decode cX10_canChange 90 = .ok (.iinc 5 1, 3) := by decide +kernel
theorem dX10_canChange_93 : decode cX10_canChange 93 = .ok (.goto (-56), 3) := by decide +kernel
theorem dX10_canChange_96 : decode cX10_canChange 96 = .ok (.aload_n 0, 1) := by decide +kernel
theorem dX10_canChange_97 : decode cX10_canChange 97 = .ok (.iload_n 2, 1) := by decide +kernel
theorem dX10_canChange_98 : decode cX10_canChange 98 = .ok (.iload_n 3, 1) := by decide +kernel
theorem dX10_canChange_99 : decode cX10_canChange 99 = .ok (.invokevirtual 251, 3) := by decide +kernel
theorem dX10_canChange_102 : decode cX10_canChange 102 = .ok (.iload 4, 2) := by decide +kernel
theorem dX10_canChange_104 : decode cX10_canChange 104 = .ok (.ireturn, 1) := by decide +kernel
theorem dX10_changes_0 : decode cX10_changes 0 = .ok (.aload_n 0, 1) := by decide +kernel
theorem dX10_changes_1 : decode cX10_changes 1 = .ok (.iload_n 1, 1) := by decide +kernel
theorem dX10_changes_2 : decode cX10_changes 2 = .ok (.invokevirtual 113, 3) := by decide +kernel
theorem dX10_changes_5 : decode cX10_changes 5 = .ok (.ifCond .eq 11, 3) := by decide +kernel
theorem dX10_changes_8 : decode cX10_changes 8 = .ok (.aload_n 0, 1) := by decide +kernel
theorem dX10_changes_9 : decode cX10_changes 9 = .ok (.iload_n 2, 1) := by decide +kernel
theorem dX10_changes_10 : decode cX10_changes 10 = .ok (.invokevirtual 78, 3) := by decide +kernel
theorem dX10_changes_13 : decode cX10_changes 13 = .ok (.ifCond .ne 10, 3) := by decide +kernel
theorem dX10_changes_16 : decode cX10_changes 16 = .ok (.aload_n 0, 1) := by decide +kernel
theorem dX10_changes_17 : decode cX10_changes 17 = .ok (.ldc 62, 2) := by decide +kernel
theorem dX10_changes_19 : decode cX10_changes 19 = .ok (.invokevirtual 63, 3) := by decide +kernel
theorem dX10_changes_22 : decode cX10_changes 22 = .ok (.ireturn, 1) := by decide +kernel
theorem dX10_changes_23 : decode cX10_changes 23 = .ok (.aload_n 0, 1) := by decide +kernel
theorem dX10_changes_24 : decode cX10_changes 24 = .ok (.iload_n 1, 1) := by decide +kernel
theorem dX10_changes_25 : decode cX10_changes 25 = .ok (.invokevirtual 107, 3) := by decide +kernel
theorem dX10_changes_28 : decode cX10_changes 28 = .ok (.istore_n 3, 1) := by decide +kernel
theorem dX10_changes_29 : decode cX10_changes 29 = .ok (.aload_n 0, 1) := by decide +kernel
theorem dX10_changes_30 : decode cX10_changes 30 = .ok (.iload_n 1, 1) := by decide +kernel
theorem dX10_changes_31 : decode cX10_changes 31 = .ok (.iload_n 2, 1) := by decide +kernel
theorem dX10_changes_32 : decode cX10_changes 32 = .ok (.invokevirtual 251, 3) := by decide +kernel
theorem dX10_changes_35 : decode cX10_changes 35 = .ok (.iconst (-1), 1) := by decide +kernel
theorem dX10_changes_36 : decode cX10_changes 36 = .ok (.istore 4, 2) := by decide +kernel
theorem dX10_changes_38 : decode cX10_changes 38 = .ok (.iconst 0, 1) := by decide +kernel
theorem dX10_changes_39 : decode cX10_changes 39 = .ok (.istore 5, 2) := by decide +kernel
theorem dX10_changes_41 : decode cX10_changes 41 = .ok (.iload 5, 2) := by decide +kernel
theorem dX10_changes_43 : decode cX10_changes 43 = .ok (.iconst 3, 1) := by decide +kernel
theorem dX10_changes_44 : decode cX10_changes 44 = .ok (.if_icmp .gt 74, 3) := by decide +kernel
theorem dX10_changes_47 : decode cX10_changes 47 = .ok (.iload 4, 2) := by decide +kernel
theorem dX10_changes_49 : decode cX10_changes 49 = .ok (.ifCond .ge 69, 3) := by decide +kernel
theorem dX10_changes_52 : decode cX10_changes 52 = .ok (.iconst 0, 1) := by decide +kernel
theorem dX10_changes_53 : decode cX10_changes 53 = .ok (.istore 6, 2) := by decide +kernel
theorem dX10_changes_55 : decode cX10_changes 55 = .ok (.iload 6, 2) := by decide +kernel
theorem dX10_changes_57 : decode cX10_changes 57 = .ok (.iconst 1, 1) := by decide +kernel
theorem dX10_changes_58 : decode cX10_changes 58 = .ok (.aload_n 0, 1) := by decide +kernel
theorem dX10_changes_59 : decode cX10_changes 59 = .ok (.getfield 9, 3) := by decide +kernel
theorem dX10_changes_62 : decode cX10_changes 62 = .ok (.iconst 1, 1) := by decide +kernel
theorem dX10_changes_63 : decode cX10_changes 63 = .ok (.iaload, 1) := by decide +kernel
theorem dX10_changes_64 : decode cX10_changes 64 = .ok (.ishl, 1) := by decide +kernel
theorem dX10_changes_65 : decode cX10_changes 65 = .ok (.if_icmp .ge 47, 3) := by decide +kernel
theorem dX10_changes_68 : decode cX10_changes 68 = .ok (.iload 4, 2) := by decide +kernel
theorem dX10_changes_70 : decode cX10_changes 70 = .ok (.ifCond .ge 42, 3) := by decide +kernel
theorem dX10_changes_73 : decode cX10_changes 73 = .ok (.iload 6, 2) := by decide +kernel
theorem dX10_changes_75 : decode cX10_changes 75 = .ok (.invokestatic 145, 3) := by decide +kernel
theorem dX10_changes_78 : decode cX10_changes 78 = .ok (.iload 5, 2) := by decide +kernel
theorem dX10_changes_80 : decode cX10_changes 80 = .ok (.if_icmp .ne 26, 3) := by decide +kernel
theorem dX10_changes_83 : decode cX10_changes 83 = .ok (.aload_n 0, 1) := by decide +kernel
theorem dX10_changes_84 : decode cX10_changes 84 = .ok (.iload 6, 2) := by decide +kernel
theorem dX10_changes_86 : decode cX10_changes 86 = .ok (.iload_n 1, 1) := by decide +kernel
theorem dX10_changes_87 : decode cX10_changes 87 = .ok (.invokevirtual 275, 3) := by decide +kernel
theorem dX10_changes_90 : decode cX10_changes 90 = .ok (.ifCond .eq 16, 3) := by decide +kernel
theorem dX10_changes_93 : decode cX10_changes 93 = .ok (.aload_n 0, 1) := by decide +kernel
theorem dX10_changes_94 : decode cX10_changes 94 = .ok (.iload 6, 2) := by decide +kernel
theorem dX10_changes_96 : decode cX10_changes 96 = .ok (.invokevirtual 272, 3) := by decide +kernel
theorem dX10_changes_99 : decode cX10_changes 99 = .ok (.ifCond .eq 7, 3) := by decide +kernel
theorem dX10_changes_102 : decode cX10_changes 102 = .ok (.iload 6, 2) := by decide +kernel
theorem dX10_changes_104 : decode cX10_changes 104 = .ok (.istore 4, 2) := by decide +kernel
theorem dX10_changes_106 : decode cX10_changes 106 = .ok (.iinc 6 1, 3) := by decide +kernel
theorem dX10_changes_109 : decode cX10_changes 109 = .ok (.goto (-54), 3) := by decide +kernel
theorem dX10_changes_112 : decode cX10_changes 112 = .ok (.iinc 5 1, 3) := by decide +kernel
theorem dX10_changes_115 : decode cX10_changes 115 = .ok (.goto (-74), 3) := by decide +kernel
theorem dX10_changes_118 : decode cX10_changes 118 = .ok (.aload_n 0, 1) := by decide +kernel
theorem dX10_changes_119 : decode cX10_changes 119 = .ok (.iload_n 1, 1) := by decide +kernel
theorem dX10_changes_120 : decode cX10_changes 120 = .ok (.iload_n 3, 1) := by decide +kernel
theorem dX10_changes_121 : decode cX10_changes 121 = .ok (.invokevirtual 251, 3) := by decide +kernel
theorem dX10_changes_124 : decode cX10_changes 124 = .ok (.iload 4, 2) := by decide +kernel
theorem dX10_changes_126 : decode cX10_changes 126 = .ok (.ifCond .ge 12, 3) := by decide +kernel
theorem dX10_changes_129 : decode cX10_changes 129 = .ok (.aload_n 0, 1) := by decide +kernel
theorem dX10_changes_130 : decode cX10_changes 130 = .ok (.ldc 138, 2) := by decide +kernel
theorem dX10_changes_132 : decode cX10_changes 132 = .ok (.invokevirtual 63, 3) := by decide +kernel
theorem dX10_changes_135 : decode cX10_changes 135 = .ok (.goto 5, 3) := by decide +kernel
theorem dX10_changes_138 : decode cX10_changes 138 = .ok (.iload 4, 2) := by decide +kernel
theorem dX10_changes_140 : decode cX10_changes 140 = .ok (.ireturn, 1) := by decide +kernel
theorem dX10_mayAll_0 : decode cX10_mayAll 0 = .ok (.iconst 0, 1) := by decide +kernel
theorem dX10_mayAll_1 : decode cX10_mayAll 1 = .ok (.istore_n 3, 1) := by decide +kernel
theorem dX10_mayAll_2 : decode cX10_mayAll 2 = .ok (.iload_n 3, 1) := by decide +kernel
theorem dX10_mayAll_3 : decode cX10_mayAll 3 = .ok (.aload_n 0, 1) := by decide +kernel
theorem dX10_mayAll_4 : decode cX10_mayAll 4 = .ok (.getfield 9, 3) := by decide +kernel
theorem dX10_mayAll_7 : decode cX10_mayAll 7 = .ok (.iconst 1, 1) := by decide +kernel
theorem dX10_mayAll_8 : decode cX10_mayAll 8 = .ok (.iaload, 1) := by decide +kernel
theorem dX10_mayAll_9 : decode cX10_mayAll 9 = .ok (.if_icmp .ge 32, 3) := by decide +kernel
theorem dX10_mayAll_12 : decode cX10_mayAll 12 = .ok (.iload_n 1, 1) := by decide +kernel
theorem dX10_mayAll_13 : decode cX10_mayAll 13 = .ok (.iload_n 3, 1) := by decide +kernel
theorem dX10_mayAll_14 : decode cX10_mayAll 14 = .ok (.invokestatic 103, 3) := by decide +kernel
theorem dX10_mayAll_17 : decode cX10_mayAll 17 = .ok (.ifCond .eq 18, 3) := by decide +kernel
theorem dX10_mayAll_20 : decode cX10_mayAll 20 = .ok (.iload_n 3, 1) := by decide +kernel
theorem dX10_mayAll_21 : decode cX10_mayAll 21 = .ok (.iload_n 2, 1) := by decide +kernel
theorem dX10_mayAll_22 : decode cX10_mayAll 22 = .ok (.if_icmp .eq 11, 3) := by decide +kernel
theorem dX10_mayAll_25 : decode cX10_mayAll 25 = .ok (.aload_n 0, 1) := by decide +kernel
theorem dX10_mayAll_26 : decode cX10_mayAll 26 = .ok (.iload_n 3, 1) := by decide +kernel
theorem dX10_mayAll_27 : decode cX10_mayAll 27 = .ok (.invokevirtual 107, 3) := by decide +kernel
theorem dX10_mayAll_30 : decode cX10_mayAll 30 = .ok (.ifCond .ge 5, 3) := by decide +kernel
theorem dX10_mayAll_33 : decode cX10_mayAll 33 = .ok (.iconst 0, 1) := by decide +kernel
theorem dX10_mayAll_34 : decode cX10_mayAll 34 = .ok (.ireturn, 1) := by decide +kernel
theorem dX10_mayAll_35 : decode cX10_mayAll 35 = .ok (.iinc 3 1, 3) := by decide +kernel
theorem dX10_mayAll_38 : decode cX10_mayAll 38 = .ok (.goto (-36), 3) := by decide +kernel
theorem dX10_mayAll_41 : decode cX10_mayAll 41 = .ok (.iconst 1, 1) := by decide +kernel
theorem dX10_mayAll_42 : decode cX10_mayAll 42 = .ok (.ireturn, 1) := by decide +kernel
theorem dX10_isSide_0 : decode cX10_isSide 0 = .ok (.iconst 0, 1) := by decide +kernel
theorem dX10_isSide_1 : decode cX10_isSide 1 = .ok (.istore_n 2, 1) := by decide +kernel
theorem dX10_isSide_2 : decode cX10_isSide 2 = .ok (.iconst 0, 1) := by decide +kernel
theorem dX10_isSide_3 : decode cX10_isSide 3 = .ok (.istore_n 3, 1) := by decide +kernel
theorem dX10_isSide_4 : decode cX10_isSide 4 = .ok (.iload_n 3, 1) := by decide +kernel
theorem dX10_isSide_5 : decode cX10_isSide 5 = .ok (.aload_n 0, 1) := by decide +kernel
theorem dX10_isSide_6 : decode cX10_isSide 6 = .ok (.getfield 9, 3) := by decide +kernel
theorem dX10_isSide_9 : decode cX10_isSide 9 = .ok (.iconst 0, 1) := by decide +kernel
theorem dX10_isSide_10 : decode cX10_isSide 10 = .ok (.iaload, 1) := by decide +kernel
theorem dX10_isSide_11 : decode cX10_isSide 11 = .ok (.if_icmp .ge 40, 3) := by decide +kernel
theorem dX10_isSide_14 : decode cX10_isSide 14 = .ok (.iload_n 1, 1) := by decide +kernel
theorem dX10_isSide_15 : decode cX10_isSide 15 = .ok (.iload_n 3, 1) := by decide +kernel
theorem dX10_isSide_16 : decode cX10_isSide 16 = .ok (.invokestatic 103, 3) := by decide +kernel
theorem dX10_isSide_19 : decode cX10_isSide 19 = .ok (.ifCond .ne 6, 3) := by decide +kernel
theorem dX10_isSide_22 : decode cX10_isSide 22 = .ok (.goto 23, 3) := by decide +kernel
theorem dX10_isSide_25 : decode cX10_isSide 25 = .ok (.iload_n 2, 1) := by decide +kernel
theorem dX10_isSide_26 : decode cX10_isSide 26 = .ok (.aload_n 0, 1) := by decide +kernel
theorem dX10_isSide_27 : decode cX10_isSide 27 = .ok (.iload_n 3, 1) := by decide +kernel
theorem dX10_isSide_28 : decode cX10_isSide 28 = .ok (.invokevirtual 56, 3) := by decide +kernel
theorem dX10_isSide_31 : decode cX10_isSide 31 = .ok (.iand, 1) := by decide +kernel
theorem dX10_isSide_32 : decode cX10_isSide 32 = .ok (.ifCond .eq 5, 3) := by decide +kernel
theorem dX10_isSide_35 : decode cX10_isSide 35 = .ok (.iconst 0, 1) := by decide +kernel
theorem dX10_isSide_36 : decode cX10_isSide 36 = .ok (.ireturn, 1) := by decide +kernel
theorem dX10_isSide_37 : decode cX10_isSide 37 = .ok (.iload_n 2, 1) := by decide +kernel
theorem dX10_isSide_38 : decode cX10_isSide 38 = .ok (.aload_n 0, 1) := by decide +kernel
theorem dX10_isSide_39 : decode cX10_isSide 39 = .ok (.iload_n 3, 1) := by decide +kernel
theorem dX10_isSide_40 : decode cX10_isSide 40 = .ok (.invokevirtual 56, 3) := by decide +kernel
theorem dX10_isSide_43 : decode cX10_isSide 43 = .ok (.ior, 1) := by decide +kernel
theorem dX10_isSide_44 : decode cX10_isSide 44 = .ok (.istore_n 2, 1) := by decide +kernel
theorem dX10_isSide_45 : decode cX10_isSide 45 = .ok (.iinc 3 1, 3) := by decide +kernel
theorem dX10_isSide_48 : decode cX10_isSide 48 = .ok (.goto (-44), 3) := by decide +kernel
theorem dX10_isSide_51 : decode cX10_isSide 51 = .ok (.iconst 1, 1) := by decide +kernel
theorem dX10_isSide_52 : decode cX10_isSide 52 = .ok (.ireturn, 1) := by decide +kernel
theorem dX10_side_0 : decode cX10_side 0 = .ok (.iload_n 1, 1) := by decide +kernel
theorem dX10_side_1 : decode cX10_side 1 = .ok (.i2l, 1) := by decide +kernel
theorem dX10_side_2 : decode cX10_side 2 = .ok (.lconst 0, 1) := by decide +kernel
theorem dX10_side_3 : decode cX10_side 3 = .ok (.lconst 1, 1) := by decide +kernel
theorem dX10_side_4 : decode cX10_side 4 = .ok (.invokestatic 48, 3) := by decide +kernel
theorem dX10_side_7 : decode cX10_side 7 = .ok (.ifCond .ne 10, 3) := by decide +kernel
theorem dX10_side_10 : decode cX10_side 10 = .ok (.aload_n 0, 1) := by decide +kernel
theorem dX10_side_11 : decode cX10_side 11 = .ok (.ldc 62, 2) := by decide +kernel
theorem dX10_side_13 : decode cX10_side 13 = .ok (.invokevirtual 63, 3) := by decide +kernel
theorem dX10_side_16 : decode cX10_side 16 = .ok (.ireturn, 1) := by decide +kernel
theorem dX10_side_17 : decode cX10_side 17 = .ok (.iconst 0, 1) := by decide +kernel
theorem dX10_side_18 : decode cX10_side 18 = .ok (.istore_n 2, 1) := by decide +kernel
theorem dX10_side_19 : decode cX10_side 19 = .ok (.iconst 1, 1) := by decide +kernel
theorem dX10_side_20 : decode cX10_side 20 = .ok (.istore_n 3, 1) := by decide +kernel
theorem dX10_side_21 : decode cX10_side 21 = .ok (.iload_n 3, 1) := by decide +kernel
theorem dX10_side_22 : decode cX10_side 22 = .ok (.iconst 1, 1) := by decide +kernel
theorem dX10_side_23 : decode cX10_side 23 = .ok (.aload_n 0, 1) := by decide +kernel
theorem dX10_side_24 : decode cX10_side 24 = .ok (.getfield 9, 3) := by decide +kernel
theorem dX10_side_27 : decode cX10_side 27 = .ok (.iconst 0, 1) := by decide +kernel
theorem dX10_side_28 : decode cX10_side 28 = .ok (.iaload, 1) := by decide +kernel
theorem dX10_side_29 : decode cX10_side 29 = .ok (.ishl, 1) := by decide +kernel
theorem dX10_side_30 : decode cX10_side 30 = .ok (.if_icmp .ge 34, 3) := by decide +kernel
theorem dX10_side_33 : decode cX10_side 33 = .ok (.iload_n 3, 1) := by decide +kernel
theorem dX10_side_34 : decode cX10_side 34 = .ok (.invokestatic 145, 3) := by decide +kernel
theorem dX10_side_37 : decode cX10_side 37 = .ok (.iload_n 2, 1) := by decide +kernel
theorem dX10_side_38 : decode cX10_side 38 = .ok (.invokestatic 145, 3) := by decide +kernel
theorem dX10_side_41 : decode cX10_side 41 = .ok (.if_icmp .le 15, 3) := by decide +kernel
theorem dX10_side_44 : decode cX10_side 44 = .ok (.aload_n 0, 1) := by decide +kernel
theorem dX10_side_45 : decode cX10_side 45 = .ok (.iload_n 3, 1) := by decide +kernel
theorem dX10_side_46 : decode cX10_side 46 = .ok (.invokevirtual 278, 3) := by decide +kernel
theorem dX10_side_49 : decode cX10_side 49 = .ok (.ifCond .eq 7, 3) := by decide +kernel
theorem dX10_side_52 : decode cX10_side 52 = .ok (.iload_n 3, 1) := by decide +kernel
theorem dX10_side_53 : decode cX10_side 53 = .ok (.goto 4, 3) := by decide +kernel
theorem dX10_side_56 : decode cX10_side 56 = .ok (.iload_n 2, 1) := by decide +kernel
theorem dX10_side_57 : decode cX10_side 57 = .ok (.istore_n 2, 1) := by decide +kernel
theorem dX10_side_58 : decode cX10_side 58 = .ok (.iinc 3 1, 3) := by decide +kernel
theorem dX10_side_61 : decode cX10_side 61 = .ok (.goto (-40), 3) := by decide +kernel
theorem dX10_side_64 : decode cX10_side 64 = .ok (.iload_n 1, 1) := by decide +kernel
theorem dX10_side_65 : decode cX10_side 65 = .ok (.ifCond .ne 7, 3) := by decide +kernel
theorem dX10_side_68 : decode cX10_side 68 = .ok (.iload_n 2, 1) := by decide +kernel
theorem dX10_side_69 : decode cX10_side 69 = .ok (.goto 7, 3) := by decide +kernel
theorem dX10_side_72 : decode cX10_side 72 = .ok (.iload_n 2, 1) := by decide +kernel
theorem dX10_side_73 : decode cX10_side 73 = .ok (.invokestatic 145, 3) := by decide +kernel
theorem dX10_side_76 : decode cX10_side 76 = .ok (.ireturn, 1) := by decide +kernel
theorem dX10_rows_0 : decode cX10_rows 0 = .ok (.iload_n 1, 1) := by decide +kernel
theorem dX10_rows_1 : decode cX10_rows 1 = .ok (.i2l, 1) := by decide +kernel
theorem dX10_rows_2 : decode cX10_rows 2 = .ok (.lconst 1, 1) := by decide +kernel
theorem dX10_rows_3 : decode cX10_rows 3 = .ok (.ldc2_w 82, 3) := by decide +kernel
theorem dX10_rows_6 : decode cX10_rows 6 = .ok (.invokestatic 48, 3) := by decide +kernel
theorem dX10_rows_9 : decode cX10_rows 9 = .ok (.ifCond .ne 11, 3) := by decide +kernel
theorem dX10_rows_12 : decode cX10_rows 12 = .ok (.aload_n 0, 1) := by decide +kernel
theorem dX10_rows_13 : decode cX10_rows 13 = .ok (.ldc 62, 2) := by decide +kernel
theorem dX10_rows_15 : decode cX10_rows 15 = .ok (.invokevirtual 63, 3) := by decide +kernel
theorem dX10_rows_18 : decode cX10_rows 18 = .ok (.i2l, 1) := by decide +kernel
theorem dX10_rows_19 : decode cX10_rows 19 = .ok (.lreturn, 1) := by decide +kernel
theorem dX10_rows_20 : decode cX10_rows 20 = .ok (.bipush 14, 2) := by decide +kernel
theorem dX10_rows_22 : decode cX10_rows 22 = .ok (.newarray .long, 2) := by decide +kernel
theorem dX10_rows_24 : decode cX10_rows 24 = .ok (.astore_n 2, 1) := by decide +kernel
theorem dX10_rows_25 : decode cX10_rows 25 = .ok (.iconst 0, 1) := by decide +kernel
theorem dX10_rows_26 : decode cX10_rows 26 = .ok (.istore_n 3, 1) := by decide +kernel
theorem dX10_rows_27 : decode cX10_rows 27 = .ok (.iload_n 3, 1) := by decide +kernel
theorem dX10_rows_28 : decode cX10_rows 28 = .ok (.aload_n 0, 1) := by decide +kernel
theorem dX10_rows_29 : decode cX10_rows 29 = .ok (.getfield 9, 3) := by decide +kernel
theorem dX10_rows_32 : decode cX10_rows 32 = .ok (.iconst 0, 1) := by decide +kernel
theorem dX10_rows_33 : decode cX10_rows 33 = .ok (.iaload, 1) := by decide +kernel
theorem dX10_rows_34 : decode cX10_rows 34 = .ok (.if_icmp .ge 13, 3) := by decide +kernel
theorem dX10_rows_37 : decode cX10_rows 37 = .ok (.aload_n 2, 1) := by decide +kernel
theorem dX10_rows_38 : decode cX10_rows 38 = .ok (.iload_n 3, 1) := by decide +kernel
theorem dX10_rows_39 : decode cX10_rows 39 = .ok (.lconst 1, 1) := by decide +kernel
theorem dX10_rows_40 : decode cX10_rows 40 = .ok (.lastore, 1) := by decide +kernel
theorem dX10_rows_41 : decode cX10_rows 41 = .ok (.iinc 3 1, 3) := by decide +kernel
theorem dX10_rows_44 : decode cX10_rows 44 = .ok (.goto (-17), 3) := by decide +kernel
theorem dX10_rows_47 : decode cX10_rows 47 = .ok (.iconst 1, 1) := by decide +kernel
theorem dX10_rows_48 : decode cX10_rows 48 = .ok (.istore_n 3, 1) := by decide +kernel
theorem dX10_rows_49 : decode cX10_rows 49 = .ok (.iload_n 3, 1) := by decide +kernel
theorem dX10_rows_50 : decode cX10_rows 50 = .ok (.iload_n 1, 1) := by decide +kernel
theorem dX10_rows_51 : decode cX10_rows 51 = .ok (.if_icmp .ge 85, 3) := by decide +kernel
theorem dX10_rows_54 : decode cX10_rows 54 = .ok (.bipush 14, 2) := by decide +kernel
theorem dX10_rows_56 : decode cX10_rows 56 = .ok (.newarray .long, 2) := by decide +kernel
theorem dX10_rows_58 : decode cX10_rows 58 = .ok (.astore 4, 2) := by decide +kernel
theorem dX10_rows_60 : decode cX10_rows 60 = .ok (.iconst 0, 1) := by decide +kernel
theorem dX10_rows_61 : decode cX10_rows 61 = .ok (.istore 5, 2) := by decide +kernel
theorem dX10_rows_63 : decode cX10_rows 63 = .ok (.iload 5, 2) := by decide +kernel
theorem dX10_rows_65 : decode cX10_rows 65 = .ok (.aload_n 0, 1) := by decide +kernel
theorem dX10_rows_66 : decode cX10_rows 66 = .ok (.getfield 9, 3) := by decide +kernel
theorem dX10_rows_69 : decode cX10_rows 69 = .ok (.iconst 0, 1) := by decide +kernel
theorem dX10_rows_70 : decode cX10_rows 70 = .ok (.iaload, 1) := by decide +kernel
theorem dX10_rows_71 : decode cX10_rows 71 = .ok (.if_icmp .ge 56, 3) := by decide +kernel
theorem dX10_rows_74 : decode cX10_rows 74 = .ok (.iconst 0, 1) := by decide +kernel
theorem dX10_rows_75 : decode cX10_rows 75 = .ok (.istore 6, 2) := by decide +kernel
theorem dX10_rows_77 : decode cX10_rows 77 = .ok (.iload 6, 2) := by decide +kernel
theorem dX10_rows_79 : decode cX10_rows 79 = .ok (.aload_n 0, 1) := by decide +kernel
theorem dX10_rows_80 : decode cX10_rows 80 = .ok (.getfield 9, 3) := by decide +kernel
theorem dX10_rows_83 : decode cX10_rows 83 = .ok (.iconst 0, 1) := by decide +kernel
theorem dX10_rows_84 : decode cX10_rows 84 = .ok (.iaload, 1) := by decide +kernel
theorem dX10_rows_85 : decode cX10_rows 85 = .ok (.if_icmp .ge 36, 3) := by decide +kernel
theorem dX10_rows_88 : decode cX10_rows 88 = .ok (.aload 4, 2) := by decide +kernel
theorem dX10_rows_90 : decode cX10_rows 90 = .ok (.iload 6, 2) := by decide +kernel
theorem dX10_rows_92 : decode cX10_rows 92 = .ok (.dup2, 1) := by decide +kernel
theorem dX10_rows_93 : decode cX10_rows 93 = .ok (.laload, 1) := by decide +kernel
theorem dX10_rows_94 : decode cX10_rows 94 = .ok (.aload_n 0, 1) := by decide +kernel
theorem dX10_rows_95 : decode cX10_rows 95 = .ok (.iload 5, 2) := by decide +kernel
theorem dX10_rows_97 : decode cX10_rows 97 = .ok (.iload 6, 2) := by decide +kernel
theorem dX10_rows_99 : decode cX10_rows 99 = .ok (.invokevirtual 110, 3) := by decide +kernel
theorem dX10_rows_102 : decode cX10_rows 102 = .ok (.ifCond .eq 7, 3) := by decide +kernel
theorem dX10_rows_105 : decode cX10_rows 105 = .ok (.lconst 0, 1) := by decide +kernel
theorem dX10_rows_106 : decode cX10_rows 106 = .ok (.goto 7, 3) := by decide +kernel
theorem dX10_rows_109 : decode cX10_rows 109 = .ok (.aload_n 2, 1) := by decide +kernel
theorem dX10_rows_110 : decode cX10_rows 110 = .ok (.iload 5, 2) := by decide +kernel
theorem dX10_rows_112 : decode cX10_rows 112 = .ok (.laload, 1) := by decide +kernel
theorem dX10_rows_113 : decode cX10_rows 113 = .ok (.ladd, 1) := by decide +kernel
theorem dX10_rows_114 : decode cX10_rows 114 = .ok (.lastore, 1) := by decide +kernel
theorem dX10_rows_115 : decode cX10_rows 115 = .ok (.iinc 6 1, 3) := by decide +kernel
theorem dX10_rows_118 : decode cX10_rows 118 = .ok (.goto (-41), 3) := by decide +kernel
theorem dX10_rows_121 : decode cX10_rows 121 = .ok (.iinc 5 1, 3) := by decide +kernel
theorem dX10_rows_124 : decode cX10_rows 124 = .ok (.goto (-61), 3) := by decide +kernel
theorem dX10_rows_127 : decode cX10_rows 127 = .ok (.aload 4, 2) := by decide +kernel
theorem dX10_rows_129 : decode cX10_rows 129 = .ok (.astore_n 2, 1) := by decide +kernel
theorem dX10_rows_130 : decode cX10_rows 130 = .ok (.iinc 3 1, 3) := by decide +kernel
theorem dX10_rows_133 : decode cX10_rows 133 = .ok (.goto (-84), 3) := by decide +kernel
theorem dX10_rows_136 : decode cX10_rows 136 = .ok (.lconst 0, 1) := by decide +kernel
theorem dX10_rows_137 : decode cX10_rows 137 = .ok (.lstore_n 3, 1) := by decide +kernel
theorem dX10_rows_138 : decode cX10_rows 138 = .ok (.iconst 0, 1) := by decide +kernel
theorem dX10_rows_139 : decode cX10_rows 139 = .ok (.istore 5, 2) := by decide +kernel
theorem dX10_rows_141 : decode cX10_rows 141 = .ok (.iload 5, 2) := by decide +kernel
theorem dX10_rows_143 : decode cX10_rows 143 = .ok (.aload_n 0, 1) := by decide +kernel
theorem dX10_rows_144 : decode cX10_rows 144 = .ok (.getfield 9, 3) := by decide +kernel
theorem dX10_rows_147 : decode cX10_rows 147 = .ok (.iconst 0, 1) := by decide +kernel
theorem dX10_rows_148 : decode cX10_rows 148 = .ok (.iaload, 1) := by decide +kernel
theorem dX10_rows_149 : decode cX10_rows 149 = .ok (.if_icmp .ge 16, 3) := by decide +kernel
theorem dX10_rows_152 : decode cX10_rows 152 = .ok (.lload_n 3, 1) := by decide +kernel
theorem dX10_rows_153 : decode cX10_rows 153 = .ok (.aload_n 2, 1) := by decide +kernel
theorem dX10_rows_154 : decode cX10_rows 154 = .ok (.iload 5, 2) := by decide +kernel
theorem dX10_rows_156 : decode cX10_rows 156 = .ok (.laload, 1) := by decide +kernel
theorem dX10_rows_157 : decode cX10_rows 157 = .ok (.ladd, 1) := by decide +kernel
theorem dX10_rows_158 : decode cX10_rows 158 = .ok (.lstore_n 3, 1) := by decide +kernel
theorem dX10_rows_159 : decode cX10_rows 159 = .ok (.iinc 5 1, 3) := by decide +kernel
theorem dX10_rows_162 : decode cX10_rows 162 = .ok (.goto (-21), 3) := by decide +kernel
theorem dX10_rows_165 : decode cX10_rows 165 = .ok (.lload_n 3, 1) := by decide +kernel
theorem dX10_rows_166 : decode cX10_rows 166 = .ok (.lreturn, 1) := by decide +kernel
theorem dX10_findOn_0 : decode cX10_findOn 0 = .ok (.iload_n 1, 1) := by decide +kernel
theorem dX10_findOn_1 : decode cX10_findOn 1 = .ok (.iconst 1, 1) := by decide +kernel
theorem dX10_findOn_2 : decode cX10_findOn 2 = .ok (.isub, 1) := by decide +kernel
theorem dX10_findOn_3 : decode cX10_findOn 3 = .ok (.istore_n 3, 1) := by decide +kernel
theorem dX10_findOn_4 : decode cX10_findOn 4 = .ok (.iload_n 3, 1) := by decide +kernel
theorem dX10_findOn_5 : decode cX10_findOn 5 = .ok (.ifCond .lt 124, 3) := by decide +kernel
theorem dX10_findOn_8 : decode cX10_findOn 8 = .ok (.iconst 0, 1) := by decide +kernel
theorem dX10_findOn_9 : decode cX10_findOn 9 = .ok (.istore 4, 2) := by decide +kernel
theorem dX10_findOn_11 : decode cX10_findOn 11 = .ok (.iload 4, 2) := by decide +kernel
theorem dX10_findOn_13 : decode cX10_findOn 13 = .ok (.bipush 26, 2) := by decide +kernel
theorem dX10_findOn_15 : decode cX10_findOn 15 = .ok (.if_icmp .ge 108, 3) := by decide +kernel
theorem dX10_findOn_18 : decode cX10_findOn 18 = .ok (.aload_n 0, 1) := by decide +kernel
theorem dX10_findOn_19 : decode cX10_findOn 19 = .ok (.getfield 31, 3) := by decide +kernel
theorem dX10_findOn_22 : decode cX10_findOn 22 = .ok (.bipush 26, 2) := by decide +kernel
theorem dX10_findOn_24 : decode cX10_findOn 24 = .ok (.iload_n 3, 1) := by decide +kernel
theorem dX10_findOn_25 : decode cX10_findOn 25 = .ok (.imul, 1) := by decide +kernel
theorem dX10_findOn_26 : decode cX10_findOn 26 = .ok (.iload 4, 2) := by decide +kernel
theorem dX10_findOn_28 : decode cX10_findOn 28 = .ok (.iadd, 1) := by decide +kernel
theorem dX10_findOn_29 : decode cX10_findOn 29 = .ok (.iload_n 3, 1) := by decide +kernel
theorem dX10_findOn_30 : decode cX10_findOn 30 = .ok (.iload_n 1, 1) := by decide +kernel
theorem dX10_findOn_31 : decode cX10_findOn 31 = .ok (.iconst 1, 1) := by decide +kernel
theorem dX10_findOn_32 : decode cX10_findOn 32 = .ok (.isub, 1) := by decide +kernel
theorem dX10_findOn_33 : decode cX10_findOn 33 = .ok (.if_icmp .ne 7, 3) := by decide +kernel
theorem dX10_findOn_36 : decode cX10_findOn 36 = .ok (.lconst 1, 1) := by decide +kernel
theorem dX10_findOn_37 : decode cX10_findOn 37 = .ok (.goto 4, 3) := by decide +kernel
theorem dX10_findOn_40 : decode cX10_findOn 40 = .ok (.lconst 0, 1) := by decide +kernel
theorem dX10_findOn_41 : decode cX10_findOn 41 = .ok (.lastore, 1) := by decide +kernel
theorem dX10_findOn_42 : decode cX10_findOn 42 = .ok (.iconst 0, 1) := by decide +kernel
theorem dX10_findOn_43 : decode cX10_findOn 43 = .ok (.istore 5, 2) := by decide +kernel
theorem dX10_findOn_45 : decode cX10_findOn 45 = .ok (.iload 5, 2) := by decide +kernel
theorem dX10_findOn_47 : decode cX10_findOn 47 = .ok (.bipush 26, 2) := by decide +kernel
theorem dX10_findOn_49 : decode cX10_findOn 49 = .ok (.if_icmp .ge 68, 3) := by decide +kernel
theorem dX10_findOn_52 : decode cX10_findOn 52 = .ok (.iload_n 3, 1) := by decide +kernel
theorem dX10_findOn_53 : decode cX10_findOn 53 = .ok (.iload_n 1, 1) := by decide +kernel
theorem dX10_findOn_54 : decode cX10_findOn 54 = .ok (.iconst 1, 1) := by decide +kernel
theorem dX10_findOn_55 : decode cX10_findOn 55 = .ok (.isub, 1) := by decide +kernel
theorem dX10_findOn_56 : decode cX10_findOn 56 = .ok (.if_icmp .ge 61, 3) := by decide +kernel
theorem dX10_findOn_59 : decode cX10_findOn 59 = .ok (.iload_n 2, 1) := by decide +kernel
theorem dX10_findOn_60 : decode cX10_findOn 60 = .ok (.iload 5, 2) := by decide +kernel
theorem dX10_findOn_62 : decode cX10_findOn 62 = .ok (.invokestatic 103, 3) := by decide +kernel
theorem dX10_findOn_65 : decode cX10_findOn 65 = .ok (.ifCond .ne 46, 3) := by decide +kernel
theorem dX10_findOn_68 : decode cX10_findOn 68 = .ok (.aload_n 0, 1) := by decide +kernel
theorem dX10_findOn_69 : decode cX10_findOn 69 = .ok (.iload 4, 2) := by decide +kernel
theorem dX10_findOn_71 : decode cX10_findOn 71 = .ok (.iload 5, 2) := by decide +kernel
theorem dX10_findOn_73 : decode cX10_findOn 73 = .ok (.iload_n 3, 1) := by decide +kernel
theorem dX10_findOn_74 : decode cX10_findOn 74 = .ok (.iconst 1, 1) := by decide +kernel
theorem dX10_findOn_75 : decode cX10_findOn 75 = .ok (.iadd, 1) := by decide +kernel
theorem dX10_findOn_76 : decode cX10_findOn 76 = .ok (.invokevirtual 232, 3) := by decide +kernel
theorem dX10_findOn_79 : decode cX10_findOn 79 = .ok (.ifCond .eq 32, 3) := by decide +kernel
theorem dX10_findOn_82 : decode cX10_findOn 82 = .ok (.aload_n 0, 1) := by decide +kernel
theorem dX10_findOn_83 : decode cX10_findOn 83 = .ok (.getfield 31, 3) := by decide +kernel
theorem dX10_findOn_86 : decode cX10_findOn 86 = .ok (.bipush 26, 2) := by decide +kernel
theorem dX10_findOn_88 : decode cX10_findOn 88 = .ok (.iload_n 3, 1) := by decide +kernel
theorem dX10_findOn_89 : decode cX10_findOn 89 = .ok (.imul, 1) := by decide +kernel
theorem dX10_findOn_90 : decode cX10_findOn 90 = .ok (.iload 4, 2) := by decide +kernel
theorem dX10_findOn_92 : decode cX10_findOn 92 = .ok (.iadd, 1) := by decide +kernel
theorem dX10_findOn_93 : decode cX10_findOn 93 = .ok (.dup2, 1) := by decide +kernel
theorem dX10_findOn_94 : decode cX10_findOn 94 = .ok (.laload, 1) := by decide +kernel
theorem dX10_findOn_95 : decode cX10_findOn 95 = .ok (.aload_n 0, 1) := by decide +kernel
theorem dX10_findOn_96 : decode cX10_findOn 96 = .ok (.getfield 31, 3) := by decide +kernel
theorem dX10_findOn_99 : decode cX10_findOn 99 = .ok (.bipush 26, 2) := by decide +kernel
theorem dX10_findOn_101 : decode cX10_findOn 101 = .ok (.iload_n 3, 1) := by decide +kernel
theorem dX10_findOn_102 : decode cX10_findOn 102 = .ok (.iconst 1, 1) := by decide +kernel
theorem dX10_findOn_103 : decode cX10_findOn 103 = .ok (.iadd, 1) := by decide +kernel
theorem dX10_findOn_104 : decode cX10_findOn 104 = .ok (.imul, 1) := by decide +kernel
theorem dX10_findOn_105 : decode cX10_findOn 105 = .ok (.iload 5, 2) := by decide +kernel
theorem dX10_findOn_107 : decode cX10_findOn 107 = .ok (.iadd, 1) := by decide +kernel
theorem dX10_findOn_108 : decode cX10_findOn 108 = .ok (.laload, 1) := by decide +kernel
theorem dX10_findOn_109 : decode cX10_findOn 109 = .ok (.ladd, 1) := by decide +kernel
theorem dX10_findOn_110 : decode cX10_findOn 110 = .ok (.lastore, 1) := by decide +kernel
theorem dX10_findOn_111 : decode cX10_findOn 111 = .ok (.iinc 5 1, 3) := by decide +kernel
theorem dX10_findOn_114 : decode cX10_findOn 114 = .ok (.goto (-69), 3) := by decide +kernel
theorem dX10_findOn_117 : decode cX10_findOn 117 = .ok (.iinc 4 1, 3) := by decide +kernel
theorem dX10_findOn_120 : decode cX10_findOn 120 = .ok (.goto (-109), 3) := by decide +kernel
theorem dX10_findOn_123 : decode cX10_findOn 123 = .ok (.iinc 3 (-1), 3) := by decide +kernel
theorem dX10_findOn_126 : decode cX10_findOn 126 = .ok (.goto (-122), 3) := by decide +kernel
theorem dX10_findOn_129 : decode cX10_findOn 129 = .ok (.return_, 1) := by decide +kernel
theorem dX10_letterAt_0 : decode cX10_letterAt 0 = .ok (.iconst 0, 1) := by decide +kernel
theorem dX10_letterAt_1 : decode cX10_letterAt 1 = .ok (.istore 4, 2) := by decide +kernel
theorem dX10_letterAt_3 : decode cX10_letterAt 3 = .ok (.iload 4, 2) := by decide +kernel
theorem dX10_letterAt_5 : decode cX10_letterAt 5 = .ok (.bipush 26, 2) := by decide +kernel
theorem dX10_letterAt_7 : decode cX10_letterAt 7 = .ok (.if_icmp .ge 49, 3) := by decide +kernel
theorem dX10_letterAt_10 : decode cX10_letterAt 10 = .ok (.iload_n 3, 1) := by decide +kernel
theorem dX10_letterAt_11 : decode cX10_letterAt 11 = .ok (.iload 4, 2) := by decide +kernel
theorem dX10_letterAt_13 : decode cX10_letterAt 13 = .ok (.invokestatic 103, 3) := by decide +kernel
theorem dX10_letterAt_16 : decode cX10_letterAt 16 = .ok (.ifCond .ne 34, 3) := by decide +kernel
theorem dX10_letterAt_19 : decode cX10_letterAt 19 = .ok (.aload_n 0, 1) := by decide +kernel
theorem dX10_letterAt_20 : decode cX10_letterAt 20 = .ok (.getfield 31, 3) := by decide +kernel
theorem dX10_letterAt_23 : decode cX10_letterAt 23 = .ok (.bipush 26, 2) := by decide +kernel
theorem dX10_letterAt_25 : decode cX10_letterAt 25 = .ok (.iload_n 2, 1) := by decide +kernel
theorem dX10_letterAt_26 : decode cX10_letterAt 26 = .ok (.imul, 1) := by decide +kernel
theorem dX10_letterAt_27 : decode cX10_letterAt 27 = .ok (.iload 4, 2) := by decide +kernel
theorem dX10_letterAt_29 : decode cX10_letterAt 29 = .ok (.iadd, 1) := by decide +kernel
theorem dX10_letterAt_30 : decode cX10_letterAt 30 = .ok (.laload, 1) := by decide +kernel
theorem dX10_letterAt_31 : decode cX10_letterAt 31 = .ok (.lconst 0, 1) := by decide +kernel
theorem dX10_letterAt_32 : decode cX10_letterAt 32 = .ok (.lcmp, 1) := by decide +kernel
theorem dX10_letterAt_33 : decode cX10_letterAt 33 = .ok (.ifCond .le 17, 3) := by decide +kernel
theorem dX10_letterAt_36 : decode cX10_letterAt 36 = .ok (.aload_n 0, 1) := by decide +kernel
theorem dX10_letterAt_37 : decode cX10_letterAt 37 = .ok (.iload_n 1, 1) := by decide +kernel
theorem dX10_letterAt_38 : decode cX10_letterAt 38 = .ok (.iload 4, 2) := by decide +kernel
theorem dX10_letterAt_40 : decode cX10_letterAt 40 = .ok (.iload_n 2, 1) := by decide +kernel
theorem dX10_letterAt_41 : decode cX10_letterAt 41 = .ok (.invokevirtual 232, 3) := by decide +kernel
theorem dX10_letterAt_44 : decode cX10_letterAt 44 = .ok (.ifCond .eq 6, 3) := by decide +kernel
theorem dX10_letterAt_47 : decode cX10_letterAt 47 = .ok (.iload 4, 2) := by decide +kernel
theorem dX10_letterAt_49 : decode cX10_letterAt 49 = .ok (.ireturn, 1) := by decide +kernel
theorem dX10_letterAt_50 : decode cX10_letterAt 50 = .ok (.iinc 4 1, 3) := by decide +kernel
theorem dX10_letterAt_53 : decode cX10_letterAt 53 = .ok (.goto (-50), 3) := by decide +kernel
theorem dX10_letterAt_56 : decode cX10_letterAt 56 = .ok (.iconst (-1), 1) := by decide +kernel
theorem dX10_letterAt_57 : decode cX10_letterAt 57 = .ok (.ireturn, 1) := by decide +kernel
theorem dX10_made_0 : decode cX10_made 0 = .ok (.iload_n 1, 1) := by decide +kernel
theorem dX10_made_1 : decode cX10_made 1 = .ok (.i2l, 1) := by decide +kernel
theorem dX10_made_2 : decode cX10_made 2 = .ok (.lconst 1, 1) := by decide +kernel
theorem dX10_made_3 : decode cX10_made 3 = .ok (.ldc2_w 89, 3) := by decide +kernel
theorem dX10_made_6 : decode cX10_made 6 = .ok (.invokestatic 48, 3) := by decide +kernel
theorem dX10_made_9 : decode cX10_made 9 = .ok (.ifCond .eq 30, 3) := by decide +kernel
theorem dX10_made_12 : decode cX10_made 12 = .ok (.iload_n 2, 1) := by decide +kernel
theorem dX10_made_13 : decode cX10_made 13 = .ok (.i2l, 1) := by decide +kernel
theorem dX10_made_14 : decode cX10_made 14 = .ok (.lconst 0, 1) := by decide +kernel
theorem dX10_made_15 : decode cX10_made 15 = .ok (.ldc2_w 281, 3) := by decide +kernel
theorem dX10_made_18 : decode cX10_made 18 = .ok (.invokestatic 48, 3) := by decide +kernel
theorem dX10_made_21 : decode cX10_made 21 = .ok (.ifCond .eq 18, 3) := by decide +kernel
theorem dX10_made_24 : decode cX10_made 24 = .ok (.iload_n 3, 1) := by decide +kernel
theorem dX10_made_25 : decode cX10_made 25 = .ok (.i2l, 1) := by decide +kernel
theorem dX10_made_26 : decode cX10_made 26 = .ok (.ldc2_w 97, 3) := by decide +kernel
theorem dX10_made_29 : decode cX10_made 29 = .ok (.iload_n 1, 1) := by decide +kernel
theorem dX10_made_30 : decode cX10_made 30 = .ok (.iconst 1, 1) := by decide +kernel
theorem dX10_made_31 : decode cX10_made 31 = .ok (.isub, 1) := by decide +kernel
theorem dX10_made_32 : decode cX10_made 32 = .ok (.i2l, 1) := by decide +kernel
theorem dX10_made_33 : decode cX10_made 33 = .ok (.invokestatic 48, 3) := by decide +kernel
theorem dX10_made_36 : decode cX10_made 36 = .ok (.ifCond .ne 11, 3) := by decide +kernel
theorem dX10_made_39 : decode cX10_made 39 = .ok (.aload_n 0, 1) := by decide +kernel
theorem dX10_made_40 : decode cX10_made 40 = .ok (.ldc 62, 2) := by decide +kernel
theorem dX10_made_42 : decode cX10_made 42 = .ok (.invokevirtual 63, 3) := by decide +kernel
theorem dX10_made_45 : decode cX10_made 45 = .ok (.i2l, 1) := by decide +kernel
theorem dX10_made_46 : decode cX10_made 46 = .ok (.lreturn, 1) := by decide +kernel
theorem dX10_made_47 : decode cX10_made 47 = .ok (.aload_n 0, 1) := by decide +kernel
theorem dX10_made_48 : decode cX10_made 48 = .ok (.iload_n 1, 1) := by decide +kernel
theorem dX10_made_49 : decode cX10_made 49 = .ok (.iload_n 2, 1) := by decide +kernel
theorem dX10_made_50 : decode cX10_made 50 = .ok (.invokevirtual 283, 3) := by decide +kernel
theorem dX10_made_53 : decode cX10_made 53 = .ok (.lconst 0, 1) := by decide +kernel
theorem dX10_made_54 : decode cX10_made 54 = .ok (.lstore 4, 2) := by decide +kernel
theorem dX10_made_56 : decode cX10_made 56 = .ok (.iconst 0, 1) := by decide +kernel
theorem dX10_made_57 : decode cX10_made 57 = .ok (.istore 6, 2) := by decide +kernel
theorem dX10_made_59 : decode cX10_made 59 = .ok (.iload 6, 2) := by decide +kernel
theorem dX10_made_61 : decode cX10_made 61 = .ok (.bipush 26, 2) := by decide +kernel
theorem dX10_made_63 : decode cX10_made 63 = .ok (.if_icmp .ge 45, 3) := by decide +kernel
theorem dX10_made_66 : decode cX10_made 66 = .ok (.lload 4, 2) := by decide +kernel
theorem dX10_made_68 : decode cX10_made 68 = .ok (.iload_n 2, 1) := by decide +kernel
theorem dX10_made_69 : decode cX10_made 69 = .ok (.iload 6, 2) := by decide +kernel
theorem dX10_made_71 : decode cX10_made 71 = .ok (.invokestatic 103, 3) := by decide +kernel
theorem dX10_made_74 : decode cX10_made 74 = .ok (.ifCond .ne 24, 3) := by decide +kernel
theorem dX10_made_77 : decode cX10_made 77 = .ok (.aload_n 0, 1) := by decide +kernel
theorem dX10_made_78 : decode cX10_made 78 = .ok (.iconst (-1), 1) := by decide +kernel
theorem dX10_made_79 : decode cX10_made 79 = .ok (.iload 6, 2) := by decide +kernel
theorem dX10_made_81 : decode cX10_made 81 = .ok (.iconst 0, 1) := by decide +kernel
theorem dX10_made_82 : decode cX10_made 82 = .ok (.invokevirtual 232, 3) := by decide +kernel
theorem dX10_made_85 : decode cX10_made 85 = .ok (.ifCond .eq 13, 3) := by decide +kernel
theorem dX10_made_88 : decode cX10_made 88 = .ok (.aload_n 0, 1) := by decide +kernel
theorem dX10_made_89 : decode cX10_made 89 = .ok (.getfield 31, 3) := by decide +kernel
theorem dX10_made_92 : decode cX10_made 92 = .ok (.iload 6, 2) := by decide +kernel
theorem dX10_made_94 : decode cX10_made 94 = .ok (.laload, 1) := by decide +kernel
theorem dX10_made_95 : decode cX10_made 95 = .ok (.goto 4, 3) := by decide +kernel
theorem dX10_made_98 : decode cX10_made 98 = .ok (.lconst 0, 1) := by decide +kernel
theorem dX10_made_99 : decode cX10_made 99 = .ok (.ladd, 1) := by decide +kernel
theorem dX10_made_100 : decode cX10_made 100 = .ok (.lstore 4, 2) := by decide +kernel
theorem dX10_made_102 : decode cX10_made 102 = .ok (.iinc 6 1, 3) := by decide +kernel
theorem dX10_made_105 : decode cX10_made 105 = .ok (.goto (-46), 3) := by decide +kernel
theorem dX10_made_108 : decode cX10_made 108 = .ok (.iload_n 3, 1) := by decide +kernel
theorem dX10_made_109 : decode cX10_made 109 = .ok (.ifCond .ge 6, 3) := by decide +kernel
theorem dX10_made_112 : decode cX10_made 112 = .ok (.lload 4, 2) := by decide +kernel
theorem dX10_made_114 : decode cX10_made 114 = .ok (.lreturn, 1) := by decide +kernel
theorem dX10_made_115 : decode cX10_made 115 = .ok (.iconst (-1), 1) := by decide +kernel
theorem dX10_made_116 : decode cX10_made 116 = .ok (.istore 6, 2) := by decide +kernel
theorem dX10_made_118 : decode cX10_made 118 = .ok (.iconst 0, 1) := by decide +kernel
theorem dX10_made_119 : decode cX10_made 119 = .ok (.istore 7, 2) := by decide +kernel
theorem dX10_made_121 : decode cX10_made 121 = .ok (.iload 7, 2) := by decide +kernel
theorem dX10_made_123 : decode cX10_made 123 = .ok (.iload_n 3, 1) := by decide +kernel
theorem dX10_made_124 : decode cX10_made 124 = .ok (.if_icmp .gt 33, 3) := by decide +kernel
theorem dX10_made_127 : decode cX10_made 127 = .ok (.aload_n 0, 1) := by decide +kernel
theorem dX10_made_128 : decode cX10_made 128 = .ok (.iload 6, 2) := by decide +kernel
theorem dX10_made_130 : decode cX10_made 130 = .ok (.iload 7, 2) := by decide +kernel
theorem dX10_made_132 : decode cX10_made 132 = .ok (.iload_n 2, 1) := by decide +kernel
theorem dX10_made_133 : decode cX10_made 133 = .ok (.invokevirtual 286, 3) := by decide +kernel
theorem dX10_made_136 : decode cX10_made 136 = .ok (.istore 6, 2) := by decide +kernel
theorem dX10_made_138 : decode cX10_made 138 = .ok (.iload 6, 2) := by decide +kernel
theorem dX10_made_140 : decode cX10_made 140 = .ok (.ifCond .ge 11, 3) := by decide +kernel
theorem dX10_made_143 : decode cX10_made 143 = .ok (.aload_n 0, 1) := by decide +kernel
theorem dX10_made_144 : decode cX10_made 144 = .ok (.ldc 138, 2) := by decide +kernel
theorem dX10_made_146 : decode cX10_made 146 = .ok (.invokevirtual 63, 3) := by decide +kernel
theorem dX10_made_149 : decode cX10_made 149 = .ok (.i2l, 1) := by decide +kernel
theorem dX10_made_150 : decode cX10_made 150 = .ok (.lreturn, 1) := by decide +kernel
theorem dX10_made_151 : decode cX10_made 151 = .ok (.iinc 7 1, 3) := by decide +kernel
theorem dX10_made_154 : decode cX10_made 154 = .ok (.goto (-33), 3) := by decide +kernel
theorem dX10_made_157 : decode cX10_made 157 = .ok (.iload 6, 2) := by decide +kernel
theorem dX10_made_159 : decode cX10_made 159 = .ok (.i2l, 1) := by decide +kernel
theorem dX10_made_160 : decode cX10_made 160 = .ok (.lreturn, 1) := by decide +kernel
theorem dX10_strikes_0 : decode cX10_strikes 0 = .ok (.iload_n 1, 1) := by decide +kernel
theorem dX10_strikes_1 : decode cX10_strikes 1 = .ok (.i2l, 1) := by decide +kernel
theorem dX10_strikes_2 : decode cX10_strikes 2 = .ok (.lconst 0, 1) := by decide +kernel
theorem dX10_strikes_3 : decode cX10_strikes 3 = .ok (.ldc2_w 87, 3) := by decide +kernel
theorem dX10_strikes_6 : decode cX10_strikes 6 = .ok (.invokestatic 48, 3) := by decide +kernel
theorem dX10_strikes_9 : decode cX10_strikes 9 = .ok (.ifCond .ne 10, 3) := by decide +kernel
theorem dX10_strikes_12 : decode cX10_strikes 12 = .ok (.aload_n 0, 1) := by decide +kernel
theorem dX10_strikes_13 : decode cX10_strikes 13 = .ok (.ldc 62, 2) := by decide +kernel
theorem dX10_strikes_15 : decode cX10_strikes 15 = .ok (.invokevirtual 63, 3) := by decide +kernel
theorem dX10_strikes_18 : decode cX10_strikes 18 = .ok (.ireturn, 1) := by decide +kernel
theorem dX10_strikes_19 : decode cX10_strikes 19 = .ok (.iconst 0, 1) := by decide +kernel
theorem dX10_strikes_20 : decode cX10_strikes 20 = .ok (.istore_n 2, 1) := by decide +kernel
theorem dX10_strikes_21 : decode cX10_strikes 21 = .ok (.iconst 0, 1) := by decide +kernel
theorem dX10_strikes_22 : decode cX10_strikes 22 = .ok (.istore_n 3, 1) := by decide +kernel
theorem dX10_strikes_23 : decode cX10_strikes 23 = .ok (.iload_n 3, 1) := by decide +kernel
theorem dX10_strikes_24 : decode cX10_strikes 24 = .ok (.aload_n 0, 1) := by decide +kernel
theorem dX10_strikes_25 : decode cX10_strikes 25 = .ok (.getfield 9, 3) := by decide +kernel
theorem dX10_strikes_28 : decode cX10_strikes 28 = .ok (.iconst 1, 1) := by decide +kernel
theorem dX10_strikes_29 : decode cX10_strikes 29 = .ok (.iaload, 1) := by decide +kernel
theorem dX10_strikes_30 : decode cX10_strikes 30 = .ok (.if_icmp .ge 35, 3) := by decide +kernel
theorem dX10_strikes_33 : decode cX10_strikes 33 = .ok (.iload_n 2, 1) := by decide +kernel
theorem dX10_strikes_34 : decode cX10_strikes 34 = .ok (.aload_n 0, 1) := by decide +kernel
theorem dX10_strikes_35 : decode cX10_strikes 35 = .ok (.aload_n 0, 1) := by decide +kernel
theorem dX10_strikes_36 : decode cX10_strikes 36 = .ok (.iload_n 3, 1) := by decide +kernel
theorem dX10_strikes_37 : decode cX10_strikes 37 = .ok (.invokevirtual 107, 3) := by decide +kernel
theorem dX10_strikes_40 : decode cX10_strikes 40 = .ok (.invokevirtual 56, 3) := by decide +kernel
theorem dX10_strikes_43 : decode cX10_strikes 43 = .ok (.iload_n 1, 1) := by decide +kernel
theorem dX10_strikes_44 : decode cX10_strikes 44 = .ok (.invokestatic 103, 3) := by decide +kernel
theorem dX10_strikes_47 : decode cX10_strikes 47 = .ok (.ifCond .eq 9, 3) := by decide +kernel
theorem dX10_strikes_50 : decode cX10_strikes 50 = .ok (.iconst 1, 1) := by decide +kernel
theorem dX10_strikes_51 : decode cX10_strikes 51 = .ok (.iload_n 3, 1) := by decide +kernel
theorem dX10_strikes_52 : decode cX10_strikes 52 = .ok (.ishl, 1) := by decide +kernel
theorem dX10_strikes_53 : decode cX10_strikes 53 = .ok (.goto 4, 3) := by decide +kernel
theorem dX10_strikes_56 : decode cX10_strikes 56 = .ok (.iconst 0, 1) := by decide +kernel
theorem dX10_strikes_57 : decode cX10_strikes 57 = .ok (.ior, 1) := by decide +kernel
theorem dX10_strikes_58 : decode cX10_strikes 58 = .ok (.istore_n 2, 1) := by decide +kernel
theorem dX10_strikes_59 : decode cX10_strikes 59 = .ok (.iinc 3 1, 3) := by decide +kernel
theorem dX10_strikes_62 : decode cX10_strikes 62 = .ok (.goto (-39), 3) := by decide +kernel
theorem dX10_strikes_65 : decode cX10_strikes 65 = .ok (.iload_n 2, 1) := by decide +kernel
theorem dX10_strikes_66 : decode cX10_strikes 66 = .ok (.ireturn, 1) := by decide +kernel
theorem dX10_draw_0 : decode cX10_draw 0 = .ok (.aload_n 0, 1) := by decide +kernel
theorem dX10_draw_1 : decode cX10_draw 1 = .ok (.getfield 9, 3) := by decide +kernel
theorem dX10_draw_4 : decode cX10_draw 4 = .ok (.iconst 3, 1) := by decide +kernel
theorem dX10_draw_5 : decode cX10_draw 5 = .ok (.aload_n 0, 1) := by decide +kernel
theorem dX10_draw_6 : decode cX10_draw 6 = .ok (.getfield 9, 3) := by decide +kernel
theorem dX10_draw_9 : decode cX10_draw 9 = .ok (.iconst 3, 1) := by decide +kernel
theorem dX10_draw_10 : decode cX10_draw 10 = .ok (.iaload, 1) := by decide +kernel
theorem dX10_draw_11 : decode cX10_draw 11 = .ok (.ldc_w 289, 3) := by decide +kernel
theorem dX10_draw_14 : decode cX10_draw 14 = .ok (.imul, 1) := by decide +kernel
theorem dX10_draw_15 : decode cX10_draw 15 = .ok (.sipush 12345, 3) := by decide +kernel
theorem dX10_draw_18 : decode cX10_draw 18 = .ok (.iadd, 1) := by decide +kernel
theorem dX10_draw_19 : decode cX10_draw 19 = .ok (.iastore, 1) := by decide +kernel
theorem dX10_draw_20 : decode cX10_draw 20 = .ok (.aload_n 0, 1) := by decide +kernel
theorem dX10_draw_21 : decode cX10_draw 21 = .ok (.getfield 9, 3) := by decide +kernel
theorem dX10_draw_24 : decode cX10_draw 24 = .ok (.iconst 3, 1) := by decide +kernel
theorem dX10_draw_25 : decode cX10_draw 25 = .ok (.iaload, 1) := by decide +kernel
theorem dX10_draw_26 : decode cX10_draw 26 = .ok (.bipush 8, 2) := by decide +kernel
theorem dX10_draw_28 : decode cX10_draw 28 = .ok (.iushr, 1) := by decide +kernel
theorem dX10_draw_29 : decode cX10_draw 29 = .ok (.ireturn, 1) := by decide +kernel
theorem dX10_isNamed_0 : decode cX10_isNamed 0 = .ok (.aload_n 0, 1) := by decide +kernel
theorem dX10_isNamed_1 : decode cX10_isNamed 1 = .ok (.getfield 9, 3) := by decide +kernel
theorem dX10_isNamed_4 : decode cX10_isNamed 4 = .ok (.iconst 1, 1) := by decide +kernel
theorem dX10_isNamed_5 : decode cX10_isNamed 5 = .ok (.iaload, 1) := by decide +kernel
theorem dX10_isNamed_6 : decode cX10_isNamed 6 = .ok (.istore_n 1, 1) := by decide +kernel
theorem dX10_isNamed_7 : decode cX10_isNamed 7 = .ok (.aload_n 0, 1) := by decide +kernel
theorem dX10_isNamed_8 : decode cX10_isNamed 8 = .ok (.invokevirtual 290, 3) := by decide +kernel
theorem dX10_isNamed_11 : decode cX10_isNamed 11 = .ok (.bipush 7, 2) := by decide +kernel
theorem dX10_isNamed_13 : decode cX10_isNamed 13 = .ok (.irem, 1) := by decide +kernel
theorem dX10_isNamed_14 : decode cX10_isNamed 14 = .ok (.istore_n 2, 1) := by decide +kernel
theorem dX10_isNamed_15 : decode cX10_isNamed 15 = .ok (.iload_n 1, 1) := by decide +kernel
theorem dX10_isNamed_16 : decode cX10_isNamed 16 = .ok (.ifCond .ne 7, 3) := by decide +kernel
theorem dX10_isNamed_19 : decode cX10_isNamed 19 = .ok (.iconst (-1), 1) := by decide +kernel
theorem dX10_isNamed_20 : decode cX10_isNamed 20 = .ok (.goto 9, 3) := by decide +kernel
theorem dX10_isNamed_23 : decode cX10_isNamed 23 = .ok (.aload_n 0, 1) := by decide +kernel
theorem dX10_isNamed_24 : decode cX10_isNamed 24 = .ok (.invokevirtual 290, 3) := by decide +kernel
theorem dX10_isNamed_27 : decode cX10_isNamed 27 = .ok (.iload_n 1, 1) := by decide +kernel
theorem dX10_isNamed_28 : decode cX10_isNamed 28 = .ok (.irem, 1) := by decide +kernel
theorem dX10_isNamed_29 : decode cX10_isNamed 29 = .ok (.istore_n 3, 1) := by decide +kernel
theorem dX10_isNamed_30 : decode cX10_isNamed 30 = .ok (.aload_n 0, 1) := by decide +kernel
theorem dX10_isNamed_31 : decode cX10_isNamed 31 = .ok (.iload_n 2, 1) := by decide +kernel
theorem dX10_isNamed_32 : decode cX10_isNamed 32 = .ok (.iload_n 3, 1) := by decide +kernel
theorem dX10_isNamed_33 : decode cX10_isNamed 33 = .ok (.invokevirtual 99, 3) := by decide +kernel
theorem dX10_isNamed_36 : decode cX10_isNamed 36 = .ok (.iload_n 3, 1) := by decide +kernel
theorem dX10_isNamed_37 : decode cX10_isNamed 37 = .ok (.ifCond .lt 10, 3) := by decide +kernel
theorem dX10_isNamed_40 : decode cX10_isNamed 40 = .ok (.aload_n 0, 1) := by decide +kernel
theorem dX10_isNamed_41 : decode cX10_isNamed 41 = .ok (.iload_n 1, 1) := by decide +kernel
theorem dX10_isNamed_42 : decode cX10_isNamed 42 = .ok (.iload_n 3, 1) := by decide +kernel
theorem dX10_isNamed_43 : decode cX10_isNamed 43 = .ok (.iconst 1, 1) := by decide +kernel
theorem dX10_isNamed_44 : decode cX10_isNamed 44 = .ok (.invokevirtual 131, 3) := by decide +kernel
theorem dX10_isNamed_47 : decode cX10_isNamed 47 = .ok (.iload_n 1, 1) := by decide +kernel
theorem dX10_isNamed_48 : decode cX10_isNamed 48 = .ok (.ifCond .le 12, 3) := by decide +kernel
theorem dX10_isNamed_51 : decode cX10_isNamed 51 = .ok (.aload_n 0, 1) := by decide +kernel
theorem dX10_isNamed_52 : decode cX10_isNamed 52 = .ok (.iload_n 1, 1) := by decide +kernel
theorem dX10_isNamed_53 : decode cX10_isNamed 53 = .ok (.iload_n 1, 1) := by decide +kernel
theorem dX10_isNamed_54 : decode cX10_isNamed 54 = .ok (.iconst 1, 1) := by decide +kernel
theorem dX10_isNamed_55 : decode cX10_isNamed 55 = .ok (.isub, 1) := by decide +kernel
theorem dX10_isNamed_56 : decode cX10_isNamed 56 = .ok (.iconst 1, 1) := by decide +kernel
theorem dX10_isNamed_57 : decode cX10_isNamed 57 = .ok (.invokevirtual 131, 3) := by decide +kernel
theorem dX10_isNamed_60 : decode cX10_isNamed 60 = .ok (.aload_n 0, 1) := by decide +kernel
theorem dX10_isNamed_61 : decode cX10_isNamed 61 = .ok (.getfield 9, 3) := by decide +kernel
theorem dX10_isNamed_64 : decode cX10_isNamed 64 = .ok (.iconst 0, 1) := by decide +kernel
theorem dX10_isNamed_65 : decode cX10_isNamed 65 = .ok (.iaload, 1) := by decide +kernel
theorem dX10_isNamed_66 : decode cX10_isNamed 66 = .ok (.istore 4, 2) := by decide +kernel
theorem dX10_isNamed_68 : decode cX10_isNamed 68 = .ok (.aload_n 0, 1) := by decide +kernel
theorem dX10_isNamed_69 : decode cX10_isNamed 69 = .ok (.invokevirtual 290, 3) := by decide +kernel
theorem dX10_isNamed_72 : decode cX10_isNamed 72 = .ok (.iload 4, 2) := by decide +kernel
theorem dX10_isNamed_74 : decode cX10_isNamed 74 = .ok (.ifCond .ne 7, 3) := by decide +kernel
theorem dX10_isNamed_77 : decode cX10_isNamed 77 = .ok (.iconst 1, 1) := by decide +kernel
theorem dX10_isNamed_78 : decode cX10_isNamed 78 = .ok (.goto 5, 3) := by decide +kernel
theorem dX10_isNamed_81 : decode cX10_isNamed 81 = .ok (.iload 4, 2) := by decide +kernel
theorem dX10_isNamed_83 : decode cX10_isNamed 83 = .ok (.irem, 1) := by decide +kernel
theorem dX10_isNamed_84 : decode cX10_isNamed 84 = .ok (.istore 5, 2) := by decide +kernel
theorem dX10_isNamed_86 : decode cX10_isNamed 86 = .ok (.iconst 0, 1) := by decide +kernel
theorem dX10_isNamed_87 : decode cX10_isNamed 87 = .ok (.istore 6, 2) := by decide +kernel
theorem dX10_isNamed_89 : decode cX10_isNamed 89 = .ok (.iload 6, 2) := by decide +kernel
theorem dX10_isNamed_91 : decode cX10_isNamed 91 = .ok (.iload 4, 2) := by decide +kernel
theorem dX10_isNamed_93 : decode cX10_isNamed 93 = .ok (.if_icmp .ge 50, 3) := by decide +kernel
theorem dX10_isNamed_96 : decode cX10_isNamed 96 = .ok (.iload 5, 2) := by decide +kernel
theorem dX10_isNamed_98 : decode cX10_isNamed 98 = .ok (.iload 6, 2) := by decide +kernel
theorem dX10_isNamed_100 : decode cX10_isNamed 100 = .ok (.iadd, 1) := by decide +kernel
theorem dX10_isNamed_101 : decode cX10_isNamed 101 = .ok (.iload 4, 2) := by decide +kernel
theorem dX10_isNamed_103 : decode cX10_isNamed 103 = .ok (.irem, 1) := by decide +kernel
theorem dX10_isNamed_104 : decode cX10_isNamed 104 = .ok (.istore 7, 2) := by decide +kernel
theorem dX10_isNamed_106 : decode cX10_isNamed 106 = .ok (.aload_n 0, 1) := by decide +kernel
theorem dX10_isNamed_107 : decode cX10_isNamed 107 = .ok (.iload 7, 2) := by decide +kernel
theorem dX10_isNamed_109 : decode cX10_isNamed 109 = .ok (.invokevirtual 159, 3) := by decide +kernel
theorem dX10_isNamed_112 : decode cX10_isNamed 112 = .ok (.ifCond .ne 25, 3) := by decide +kernel
theorem dX10_isNamed_115 : decode cX10_isNamed 115 = .ok (.aload_n 0, 1) := by decide +kernel
theorem dX10_isNamed_116 : decode cX10_isNamed 116 = .ok (.iload_n 1, 1) := by decide +kernel
theorem dX10_isNamed_117 : decode cX10_isNamed 117 = .ok (.iload 7, 2) := by decide +kernel
theorem dX10_isNamed_119 : decode cX10_isNamed 119 = .ok (.invokevirtual 118, 3) := by decide +kernel
theorem dX10_isNamed_122 : decode cX10_isNamed 122 = .ok (.ifCond .eq 6, 3) := by decide +kernel
theorem dX10_isNamed_125 : decode cX10_isNamed 125 = .ok (.goto 12, 3) := by decide +kernel
theorem dX10_isNamed_128 : decode cX10_isNamed 128 = .ok (.aload_n 0, 1) := by decide +kernel
theorem dX10_isNamed_129 : decode cX10_isNamed 129 = .ok (.iload_n 1, 1) := by decide +kernel
theorem dX10_isNamed_130 : decode cX10_isNamed 130 = .ok (.iload 7, 2) := by decide +kernel
theorem dX10_isNamed_132 : decode cX10_isNamed 132 = .ok (.invokevirtual 251, 3) := by decide +kernel
theorem dX10_isNamed_135 : decode cX10_isNamed 135 = .ok (.iconst 1, 1) := by decide +kernel
theorem dX10_isNamed_136 : decode cX10_isNamed 136 = .ok (.ireturn, 1) := by decide +kernel
theorem dX10_isNamed_137 : decode cX10_isNamed 137 = .ok (.iinc 6 1, 3) := by decide +kernel
theorem dX10_isNamed_140 : decode cX10_isNamed 140 = .ok (.goto (-51), 3) := by decide +kernel
theorem dX10_isNamed_143 : decode cX10_isNamed 143 = .ok (.iconst 0, 1) := by decide +kernel
theorem dX10_isNamed_144 : decode cX10_isNamed 144 = .ok (.ireturn, 1) := by decide +kernel
theorem dX10_births_0 : decode cX10_births 0 = .ok (.iload_n 1, 1) := by decide +kernel
theorem dX10_births_1 : decode cX10_births 1 = .ok (.i2l, 1) := by decide +kernel
theorem dX10_births_2 : decode cX10_births 2 = .ok (.lconst 1, 1) := by decide +kernel
theorem dX10_births_3 : decode cX10_births 3 = .ok (.ldc2_w 82, 3) := by decide +kernel
theorem dX10_births_6 : decode cX10_births 6 = .ok (.invokestatic 48, 3) := by decide +kernel
theorem dX10_births_9 : decode cX10_births 9 = .ok (.ifCond .ne 10, 3) := by decide +kernel
theorem dX10_births_12 : decode cX10_births 12 = .ok (.aload_n 0, 1) := by decide +kernel
theorem dX10_births_13 : decode cX10_births 13 = .ok (.ldc 62, 2) := by decide +kernel
theorem dX10_births_15 : decode cX10_births 15 = .ok (.invokevirtual 63, 3) := by decide +kernel
theorem dX10_births_18 : decode cX10_births 18 = .ok (.ireturn, 1) := by decide +kernel
theorem dX10_births_19 : decode cX10_births 19 = .ok (.aload_n 0, 1) := by decide +kernel
theorem dX10_births_20 : decode cX10_births 20 = .ok (.getfield 9, 3) := by decide +kernel
theorem dX10_births_23 : decode cX10_births 23 = .ok (.iconst 1, 1) := by decide +kernel
theorem dX10_births_24 : decode cX10_births 24 = .ok (.iaload, 1) := by decide +kernel
theorem dX10_births_25 : decode cX10_births 25 = .ok (.iload_n 1, 1) := by decide +kernel
theorem dX10_births_26 : decode cX10_births 26 = .ok (.iadd, 1) := by decide +kernel
theorem dX10_births_27 : decode cX10_births 27 = .ok (.bipush 10, 2) := by decide +kernel
theorem dX10_births_29 : decode cX10_births 29 = .ok (.if_icmp .le 10, 3) := by decide +kernel
theorem dX10_births_32 : decode cX10_births 32 = .ok (.aload_n 0, 1) := by decide +kernel
theorem dX10_births_33 : decode cX10_births 33 = .ok (.ldc 66, 2) := by decide +kernel
theorem dX10_births_35 : decode cX10_births 35 = .ok (.invokevirtual 63, 3) := by decide +kernel
theorem dX10_births_38 : decode cX10_births 38 = .ok (.ireturn, 1) := by decide +kernel
theorem dX10_births_39 : decode cX10_births 39 = .ok (.iconst 0, 1) := by decide +kernel
theorem dX10_births_40 : decode cX10_births 40 = .ok (.istore_n 2, 1) := by decide +kernel
theorem dX10_births_41 : decode cX10_births 41 = .ok (.iconst 0, 1) := by decide +kernel
theorem dX10_births_42 : decode cX10_births 42 = .ok (.istore_n 3, 1) := by decide +kernel
theorem dX10_births_43 : decode cX10_births 43 = .ok (.iload_n 3, 1) := by decide +kernel
theorem dX10_births_44 : decode cX10_births 44 = .ok (.iload_n 1, 1) := by decide +kernel
theorem dX10_births_45 : decode cX10_births 45 = .ok (.if_icmp .ge 24, 3) := by decide +kernel
theorem dX10_births_48 : decode cX10_births 48 = .ok (.iload_n 2, 1) := by decide +kernel
theorem dX10_births_49 : decode cX10_births 49 = .ok (.aload_n 0, 1) := by decide +kernel
theorem dX10_births_50 : decode cX10_births 50 = .ok (.invokevirtual 293, 3) := by decide +kernel
theorem dX10_births_53 : decode cX10_births 53 = .ok (.ifCond .eq 7, 3) := by decide +kernel
theorem dX10_births_56 : decode cX10_births 56 = .ok (.iconst 1, 1) := by decide +kernel
theorem dX10_births_57 : decode cX10_births 57 = .ok (.goto 4, 3) := by decide +kernel
theorem dX10_births_60 : decode cX10_births 60 = .ok (.iconst 0, 1) := by decide +kernel
theorem dX10_births_61 : decode cX10_births 61 = .ok (.iadd, 1) := by decide +kernel
theorem dX10_births_62 : decode cX10_births 62 = .ok (.istore_n 2, 1) := by decide +kernel
theorem dX10_births_63 : decode cX10_births 63 = .ok (.iinc 3 1, 3) := by decide +kernel
theorem dX10_births_66 : decode cX10_births 66 = .ok (.goto (-23), 3) := by decide +kernel
theorem dX10_births_69 : decode cX10_births 69 = .ok (.iload_n 2, 1) := by decide +kernel
theorem dX10_births_70 : decode cX10_births 70 = .ok (.ireturn, 1) := by decide +kernel
theorem dX10_seed_0 : decode cX10_seed 0 = .ok (.aload_n 0, 1) := by decide +kernel
theorem dX10_seed_1 : decode cX10_seed 1 = .ok (.iconst 3, 1) := by decide +kernel
theorem dX10_seed_2 : decode cX10_seed 2 = .ok (.iload_n 1, 1) := by decide +kernel
theorem dX10_seed_3 : decode cX10_seed 3 = .ok (.invokevirtual 84, 3) := by decide +kernel
theorem dX10_seed_6 : decode cX10_seed 6 = .ok (.ireturn, 1) := by decide +kernel
theorem dX10_bodyOf_0 : decode cX10_bodyOf 0 = .ok (.iload_n 0, 1) := by decide +kernel
theorem dX10_bodyOf_1 : decode cX10_bodyOf 1 = .ok (.tableswitch 112 0 5 #[39, 44, 56, 67, 79, 100], 39) := by decide +kernel
theorem dX10_bodyOf_40 : decode cX10_bodyOf 40 = .ok (.bipush 10, 2) := by decide +kernel
theorem dX10_bodyOf_42 : decode cX10_bodyOf 42 = .ok (.iload_n 1, 1) := by decide +kernel
theorem dX10_bodyOf_43 : decode cX10_bodyOf 43 = .ok (.iadd, 1) := by decide +kernel
theorem dX10_bodyOf_44 : decode cX10_bodyOf 44 = .ok (.ireturn, 1) := by decide +kernel
theorem dX10_bodyOf_45 : decode cX10_bodyOf 45 = .ok (.iload_n 1, 1) := by decide +kernel
theorem dX10_bodyOf_46 : decode cX10_bodyOf 46 = .ok (.iconst 1, 1) := by decide +kernel
theorem dX10_bodyOf_47 : decode cX10_bodyOf 47 = .ok (.if_icmp .ne 8, 3) := by decide +kernel
theorem dX10_bodyOf_50 : decode cX10_bodyOf 50 = .ok (.bipush 20, 2) := by decide +kernel
theorem dX10_bodyOf_52 : decode cX10_bodyOf 52 = .ok (.goto 4, 3) := by decide +kernel
theorem dX10_bodyOf_55 : decode cX10_bodyOf 55 = .ok (.iconst 0, 1) := by decide +kernel
theorem dX10_bodyOf_56 : decode cX10_bodyOf 56 = .ok (.ireturn, 1) := by decide +kernel
theorem dX10_bodyOf_57 : decode cX10_bodyOf 57 = .ok (.iload_n 1, 1) := by decide +kernel
theorem dX10_bodyOf_58 : decode cX10_bodyOf 58 = .ok (.ifCond .ne 8, 3) := by decide +kernel
theorem dX10_bodyOf_61 : decode cX10_bodyOf 61 = .ok (.bipush 30, 2) := by decide +kernel
theorem dX10_bodyOf_63 : decode cX10_bodyOf 63 = .ok (.goto 4, 3) := by decide +kernel
theorem dX10_bodyOf_66 : decode cX10_bodyOf 66 = .ok (.iconst 0, 1) := by decide +kernel
theorem dX10_bodyOf_67 : decode cX10_bodyOf 67 = .ok (.ireturn, 1) := by decide +kernel
theorem dX10_bodyOf_68 : decode cX10_bodyOf 68 = .ok (.iload_n 1, 1) := by decide +kernel
theorem dX10_bodyOf_69 : decode cX10_bodyOf 69 = .ok (.iconst 2, 1) := by decide +kernel
theorem dX10_bodyOf_70 : decode cX10_bodyOf 70 = .ok (.if_icmp .ne 8, 3) := by decide +kernel
theorem dX10_bodyOf_73 : decode cX10_bodyOf 73 = .ok (.bipush 40, 2) := by decide +kernel
theorem dX10_bodyOf_75 : decode cX10_bodyOf 75 = .ok (.goto 4, 3) := by decide +kernel
theorem dX10_bodyOf_78 : decode cX10_bodyOf 78 = .ok (.iconst 0, 1) := by decide +kernel
theorem dX10_bodyOf_79 : decode cX10_bodyOf 79 = .ok (.ireturn, 1) := by decide +kernel
theorem dX10_bodyOf_80 : decode cX10_bodyOf 80 = .ok (.iload_n 1, 1) := by decide +kernel
theorem dX10_bodyOf_81 : decode cX10_bodyOf 81 = .ok (.ifCond .ne 8, 3) := by decide +kernel
theorem dX10_bodyOf_84 : decode cX10_bodyOf 84 = .ok (.bipush 50, 2) := by decide +kernel
theorem dX10_bodyOf_86 : decode cX10_bodyOf 86 = .ok (.goto 14, 3) := by decide +kernel
theorem dX10_bodyOf_89 : decode cX10_bodyOf 89 = .ok (.iload_n 1, 1) := by decide +kernel
theorem dX10_bodyOf_90 : decode cX10_bodyOf 90 = .ok (.iconst 3, 1) := by decide +kernel
theorem dX10_bodyOf_91 : decode cX10_bodyOf 91 = .ok (.if_icmp .ne 8, 3) := by decide +kernel
theorem dX10_bodyOf_94 : decode cX10_bodyOf 94 = .ok (.bipush 51, 2) := by decide +kernel
theorem dX10_bodyOf_96 : decode cX10_bodyOf 96 = .ok (.goto 4, 3) := by decide +kernel
theorem dX10_bodyOf_99 : decode cX10_bodyOf 99 = .ok (.iconst 0, 1) := by decide +kernel
theorem dX10_bodyOf_100 : decode cX10_bodyOf 100 = .ok (.ireturn, 1) := by decide +kernel
theorem dX10_bodyOf_101 : decode cX10_bodyOf 101 = .ok (.iload_n 1, 1) := by decide +kernel
theorem dX10_bodyOf_102 : decode cX10_bodyOf 102 = .ok (.iconst 1, 1) := by decide +kernel
theorem dX10_bodyOf_103 : decode cX10_bodyOf 103 = .ok (.if_icmp .ne 8, 3) := by decide +kernel
theorem dX10_bodyOf_106 : decode cX10_bodyOf 106 = .ok (.bipush 60, 2) := by decide +kernel
theorem dX10_bodyOf_108 : decode cX10_bodyOf 108 = .ok (.goto 4, 3) := by decide +kernel
theorem dX10_bodyOf_111 : decode cX10_bodyOf 111 = .ok (.iconst 0, 1) := by decide +kernel
theorem dX10_bodyOf_112 : decode cX10_bodyOf 112 = .ok (.ireturn, 1) := by decide +kernel
theorem dX10_bodyOf_113 : decode cX10_bodyOf 113 = .ok (.iload_n 1, 1) := by decide +kernel
theorem dX10_bodyOf_114 : decode cX10_bodyOf 114 = .ok (.iconst 2, 1) := by decide +kernel
theorem dX10_bodyOf_115 : decode cX10_bodyOf 115 = .ok (.if_icmp .ne 8, 3) := by decide +kernel
theorem dX10_bodyOf_118 : decode cX10_bodyOf 118 = .ok (.bipush 70, 2) := by decide +kernel
theorem dX10_bodyOf_120 : decode cX10_bodyOf 120 = .ok (.goto 14, 3) := by decide +kernel
theorem dX10_bodyOf_123 : decode cX10_bodyOf 123 = .ok (.iload_n 1, 1) := by decide +kernel
theorem dX10_bodyOf_124 : decode cX10_bodyOf 124 = .ok (.iconst 3, 1) := by decide +kernel
theorem dX10_bodyOf_125 : decode cX10_bodyOf 125 = .ok (.if_icmp .ne 8, 3) := by decide +kernel
theorem dX10_bodyOf_128 : decode cX10_bodyOf 128 = .ok (.bipush 71, 2) := by decide +kernel
theorem dX10_bodyOf_130 : decode cX10_bodyOf 130 = .ok (.goto 4, 3) := by decide +kernel
theorem dX10_bodyOf_133 : decode cX10_bodyOf 133 = .ok (.iconst 0, 1) := by decide +kernel
theorem dX10_bodyOf_134 : decode cX10_bodyOf 134 = .ok (.ireturn, 1) := by decide +kernel
theorem dX10_says_0 : decode cX10_says 0 = .ok (.aload_n 0, 1) := by decide +kernel
theorem dX10_says_1 : decode cX10_says 1 = .ok (.aload_n 0, 1) := by decide +kernel
theorem dX10_says_2 : decode cX10_says 2 = .ok (.aload_n 0, 1) := by decide +kernel
theorem dX10_says_3 : decode cX10_says 3 = .ok (.getfield 296, 3) := by decide +kernel
theorem dX10_says_6 : decode cX10_says 6 = .ok (.iconst 0, 1) := by decide +kernel
theorem dX10_says_7 : decode cX10_says 7 = .ok (.invokevirtual 91, 3) := by decide +kernel
theorem dX10_says_10 : decode cX10_says 10 = .ok (.iload_n 1, 1) := by decide +kernel
theorem dX10_says_11 : decode cX10_says 11 = .ok (.iload_n 2, 1) := by decide +kernel
theorem dX10_says_12 : decode cX10_says 12 = .ok (.invokevirtual 299, 3) := by decide +kernel
theorem dX10_says_15 : decode cX10_says 15 = .ok (.ireturn, 1) := by decide +kernel
theorem dX10_speaks_0 : decode cX10_speaks 0 = .ok (.iload_n 1, 1) := by decide +kernel
theorem dX10_speaks_1 : decode cX10_speaks 1 = .ok (.istore 4, 2) := by decide +kernel
theorem dX10_speaks_3 : decode cX10_speaks 3 = .ok (.iload 4, 2) := by decide +kernel
theorem dX10_speaks_5 : decode cX10_speaks 5 = .ok (.iload_n 2, 1) := by decide +kernel
theorem dX10_speaks_6 : decode cX10_speaks 6 = .ok (.invokestatic 302, 3) := by decide +kernel
theorem dX10_speaks_9 : decode cX10_speaks 9 = .ok (.ifCond .ne 13, 3) := by decide +kernel
theorem dX10_speaks_12 : decode cX10_speaks 12 = .ok (.iload 4, 2) := by decide +kernel
theorem dX10_speaks_14 : decode cX10_speaks 14 = .ok (.invokestatic 121, 3) := by decide +kernel
theorem dX10_speaks_17 : decode cX10_speaks 17 = .ok (.istore 4, 2) := by decide +kernel
theorem dX10_speaks_19 : decode cX10_speaks 19 = .ok (.goto (-16), 3) := by decide +kernel
theorem dX10_speaks_22 : decode cX10_speaks 22 = .ok (.iload 4, 2) := by decide +kernel
theorem dX10_speaks_24 : decode cX10_speaks 24 = .ok (.iload_n 2, 1) := by decide +kernel
theorem dX10_speaks_25 : decode cX10_speaks 25 = .ok (.invokestatic 302, 3) := by decide +kernel
theorem dX10_speaks_28 : decode cX10_speaks 28 = .ok (.istore 5, 2) := by decide +kernel
theorem dX10_speaks_30 : decode cX10_speaks 30 = .ok (.aload_n 0, 1) := by decide +kernel
theorem dX10_speaks_31 : decode cX10_speaks 31 = .ok (.getfield 305, 3) := by decide +kernel
theorem dX10_speaks_34 : decode cX10_speaks 34 = .ok (.bipush 40, 2) := by decide +kernel
theorem dX10_speaks_36 : decode cX10_speaks 36 = .ok (.if_icmp .ge 24, 3) := by decide +kernel
theorem dX10_speaks_39 : decode cX10_speaks 39 = .ok (.aload_n 0, 1) := by decide +kernel
theorem dX10_speaks_40 : decode cX10_speaks 40 = .ok (.getfield 35, 3) := by decide +kernel
theorem dX10_speaks_43 : decode cX10_speaks 43 = .ok (.aload_n 0, 1) := by decide +kernel
theorem dX10_speaks_44 : decode cX10_speaks 44 = .ok (.getfield 305, 3) := by decide +kernel
theorem dX10_speaks_47 : decode cX10_speaks 47 = .ok (.iload 5, 2) := by decide +kernel
theorem dX10_speaks_49 : decode cX10_speaks 49 = .ok (.iastore, 1) := by decide +kernel
theorem dX10_speaks_50 : decode cX10_speaks 50 = .ok (.aload_n 0, 1) := by decide +kernel
theorem dX10_speaks_51 : decode cX10_speaks 51 = .ok (.dup, 1) := by decide +kernel
theorem dX10_speaks_52 : decode cX10_speaks 52 = .ok (.getfield 305, 3) := by decide +kernel
theorem dX10_speaks_55 : decode cX10_speaks 55 = .ok (.iconst 1, 1) := by decide +kernel
theorem dX10_speaks_56 : decode cX10_speaks 56 = .ok (.iadd, 1) := by decide +kernel
theorem dX10_speaks_57 : decode cX10_speaks 57 = .ok (.putfield 305, 3) := by decide +kernel
theorem dX10_speaks_60 : decode cX10_speaks 60 = .ok (.aload_n 0, 1) := by decide +kernel
theorem dX10_speaks_61 : decode cX10_speaks 61 = .ok (.iload 5, 2) := by decide +kernel
theorem dX10_speaks_63 : decode cX10_speaks 63 = .ok (.iload 4, 2) := by decide +kernel
theorem dX10_speaks_65 : decode cX10_speaks 65 = .ok (.invokestatic 121, 3) := by decide +kernel
theorem dX10_speaks_68 : decode cX10_speaks 68 = .ok (.iload_n 3, 1) := by decide +kernel
theorem dX10_speaks_69 : decode cX10_speaks 69 = .ok (.invokevirtual 308, 3) := by decide +kernel
theorem dX10_speaks_72 : decode cX10_speaks 72 = .ok (.ireturn, 1) := by decide +kernel
theorem dX10_does_0 : decode cX10_does 0 = .ok (.iload_n 1, 1) := by decide +kernel
theorem dX10_does_1 : decode cX10_does 1 = .ok (.lookupswitch 243 #[(10, 99), (11, 106), (12, 115), (13, 127), (20, 145), (30, 164), (40, 174), (50, 183), (51, 193), (60, 212), (70, 225)], 99) := by decide +kernel
theorem dX10_does_100 : decode cX10_does 100 = .ok (.iload_n 3, 1) := by decide +kernel
theorem dX10_does_101 : decode cX10_does 101 = .ok (.aload_n 0, 1) := by decide +kernel
theorem dX10_does_102 : decode cX10_does 102 = .ok (.getfield 296, 3) := by decide +kernel
theorem dX10_does_105 : decode cX10_does 105 = .ok (.iadd, 1) := by decide +kernel
theorem dX10_does_106 : decode cX10_does 106 = .ok (.ireturn, 1) := by decide +kernel
theorem dX10_does_107 : decode cX10_does 107 = .ok (.aload_n 0, 1) := by decide +kernel
theorem dX10_does_108 : decode cX10_does 108 = .ok (.iconst 0, 1) := by decide +kernel
theorem dX10_does_109 : decode cX10_does 109 = .ok (.iload_n 3, 1) := by decide +kernel
theorem dX10_does_110 : decode cX10_does 110 = .ok (.invokevirtual 311, 3) := by decide +kernel
theorem dX10_does_113 : decode cX10_does 113 = .ok (.iconst 2, 1) := by decide +kernel
theorem dX10_does_114 : decode cX10_does 114 = .ok (.imul, 1) := by decide +kernel
theorem dX10_does_115 : decode cX10_does 115 = .ok (.ireturn, 1) := by decide +kernel
theorem dX10_does_116 : decode cX10_does 116 = .ok (.iload_n 3, 1) := by decide +kernel
theorem dX10_does_117 : decode cX10_does 117 = .ok (.aload_n 0, 1) := by decide +kernel
theorem dX10_does_118 : decode cX10_does 118 = .ok (.aload_n 0, 1) := by decide +kernel
theorem dX10_does_119 : decode cX10_does 119 = .ok (.getfield 296, 3) := by decide +kernel
theorem dX10_does_122 : decode cX10_does 122 = .ok (.iconst 1, 1) := by decide +kernel
theorem dX10_does_123 : decode cX10_does 123 = .ok (.invokevirtual 91, 3) := by decide +kernel
theorem dX10_does_126 : decode cX10_does 126 = .ok (.isub, 1) := by decide +kernel
theorem dX10_does_127 : decode cX10_does 127 = .ok (.ireturn, 1) := by decide +kernel
theorem dX10_does_128 : decode cX10_does 128 = .ok (.aload_n 0, 1) := by decide +kernel
theorem dX10_does_129 : decode cX10_does 129 = .ok (.iconst 1, 1) := by decide +kernel
theorem dX10_does_130 : decode cX10_does 130 = .ok (.iload_n 3, 1) := by decide +kernel
theorem dX10_does_131 : decode cX10_does 131 = .ok (.invokevirtual 311, 3) := by decide +kernel
theorem dX10_does_134 : decode cX10_does 134 = .ok (.istore 4, 2) := by decide +kernel
theorem dX10_does_136 : decode cX10_does 136 = .ok (.iload 4, 2) := by decide +kernel
theorem dX10_does_138 : decode cX10_does 138 = .ok (.aload_n 0, 1) := by decide +kernel
theorem dX10_does_139 : decode cX10_does 139 = .ok (.iconst 2, 1) := by decide +kernel
theorem dX10_does_140 : decode cX10_does 140 = .ok (.iload_n 3, 1) := by decide +kernel
theorem dX10_does_141 : decode cX10_does 141 = .ok (.invokevirtual 311, 3) := by decide +kernel
theorem dX10_does_144 : decode cX10_does 144 = .ok (.ixor, 1) := by decide +kernel
theorem dX10_does_145 : decode cX10_does 145 = .ok (.ireturn, 1) := by decide +kernel
theorem dX10_does_146 : decode cX10_does 146 = .ok (.aload_n 0, 1) := by decide +kernel
theorem dX10_does_147 : decode cX10_does 147 = .ok (.iload_n 2, 1) := by decide +kernel
theorem dX10_does_148 : decode cX10_does 148 = .ok (.iconst 1, 1) := by decide +kernel
theorem dX10_does_149 : decode cX10_does 149 = .ok (.iload_n 3, 1) := by decide +kernel
theorem dX10_does_150 : decode cX10_does 150 = .ok (.invokevirtual 299, 3) := by decide +kernel
theorem dX10_does_153 : decode cX10_does 153 = .ok (.istore 4, 2) := by decide +kernel
theorem dX10_does_155 : decode cX10_does 155 = .ok (.iload 4, 2) := by decide +kernel
theorem dX10_does_157 : decode cX10_does 157 = .ok (.aload_n 0, 1) := by decide +kernel
theorem dX10_does_158 : decode cX10_does 158 = .ok (.iconst 2, 1) := by decide +kernel
theorem dX10_does_159 : decode cX10_does 159 = .ok (.iconst 1, 1) := by decide +kernel
theorem dX10_does_160 : decode cX10_does 160 = .ok (.invokevirtual 311, 3) := by decide +kernel
theorem dX10_does_163 : decode cX10_does 163 = .ok (.isub, 1) := by decide +kernel
theorem dX10_does_164 : decode cX10_does 164 = .ok (.ireturn, 1) := by decide +kernel
theorem dX10_does_165 : decode cX10_does 165 = .ok (.aload_n 0, 1) := by decide +kernel
theorem dX10_does_166 : decode cX10_does 166 = .ok (.iload_n 2, 1) := by decide +kernel
theorem dX10_does_167 : decode cX10_does 167 = .ok (.iconst 0, 1) := by decide +kernel
theorem dX10_does_168 : decode cX10_does 168 = .ok (.iload_n 3, 1) := by decide +kernel
theorem dX10_does_169 : decode cX10_does 169 = .ok (.invokevirtual 299, 3) := by decide +kernel
theorem dX10_does_172 : decode cX10_does 172 = .ok (.iconst 3, 1) := by decide +kernel
theorem dX10_does_173 : decode cX10_does 173 = .ok (.imul, 1) := by decide +kernel
theorem dX10_does_174 : decode cX10_does 174 = .ok (.ireturn, 1) := by decide +kernel
theorem dX10_does_175 : decode cX10_does 175 = .ok (.aload_n 0, 1) := by decide +kernel
theorem dX10_does_176 : decode cX10_does 176 = .ok (.iload_n 2, 1) := by decide +kernel
theorem dX10_does_177 : decode cX10_does 177 = .ok (.iconst 2, 1) := by decide +kernel
theorem dX10_does_178 : decode cX10_does 178 = .ok (.iload_n 3, 1) := by decide +kernel
theorem dX10_does_179 : decode cX10_does 179 = .ok (.invokevirtual 299, 3) := by decide +kernel
theorem dX10_does_182 : decode cX10_does 182 = .ok (.ineg, 1) := by decide +kernel
theorem dX10_does_183 : decode cX10_does 183 = .ok (.ireturn, 1) := by decide +kernel
theorem dX10_does_184 : decode cX10_does 184 = .ok (.aload_n 0, 1) := by decide +kernel
theorem dX10_does_185 : decode cX10_does 185 = .ok (.iload_n 2, 1) := by decide +kernel
theorem dX10_does_186 : decode cX10_does 186 = .ok (.iconst 0, 1) := by decide +kernel
theorem dX10_does_187 : decode cX10_does 187 = .ok (.iload_n 3, 1) := by decide +kernel
theorem dX10_does_188 : decode cX10_does 188 = .ok (.iconst 1, 1) := by decide +kernel
theorem dX10_does_189 : decode cX10_does 189 = .ok (.iadd, 1) := by decide +kernel
theorem dX10_does_190 : decode cX10_does 190 = .ok (.invokevirtual 299, 3) := by decide +kernel
theorem dX10_does_193 : decode cX10_does 193 = .ok (.ireturn, 1) := by decide +kernel
theorem dX10_does_194 : decode cX10_does 194 = .ok (.aload_n 0, 1) := by decide +kernel
theorem dX10_does_195 : decode cX10_does 195 = .ok (.iload_n 2, 1) := by decide +kernel
theorem dX10_does_196 : decode cX10_does 196 = .ok (.iconst 3, 1) := by decide +kernel
theorem dX10_does_197 : decode cX10_does 197 = .ok (.iload_n 3, 1) := by decide +kernel
theorem dX10_does_198 : decode cX10_does 198 = .ok (.invokevirtual 299, 3) := by decide +kernel
theorem dX10_does_201 : decode cX10_does 201 = .ok (.istore 4, 2) := by decide +kernel
theorem dX10_does_203 : decode cX10_does 203 = .ok (.iload 4, 2) := by decide +kernel
theorem dX10_does_205 : decode cX10_does 205 = .ok (.aload_n 0, 1) := by decide +kernel
theorem dX10_does_206 : decode cX10_does 206 = .ok (.iconst 0, 1) := by decide +kernel
theorem dX10_does_207 : decode cX10_does 207 = .ok (.iconst 2, 1) := by decide +kernel
theorem dX10_does_208 : decode cX10_does 208 = .ok (.invokevirtual 311, 3) := by decide +kernel
theorem dX10_does_211 : decode cX10_does 211 = .ok (.isub, 1) := by decide +kernel
theorem dX10_does_212 : decode cX10_does 212 = .ok (.ireturn, 1) := by decide +kernel
theorem dX10_does_213 : decode cX10_does 213 = .ok (.aload_n 0, 1) := by decide +kernel
theorem dX10_does_214 : decode cX10_does 214 = .ok (.iload_n 2, 1) := by decide +kernel
theorem dX10_does_215 : decode cX10_does 215 = .ok (.iconst 1, 1) := by decide +kernel
theorem dX10_does_216 : decode cX10_does 216 = .ok (.iload_n 3, 1) := by decide +kernel
theorem dX10_does_217 : decode cX10_does 217 = .ok (.invokevirtual 299, 3) := by decide +kernel
theorem dX10_does_220 : decode cX10_does 220 = .ok (.aload_n 0, 1) := by decide +kernel
theorem dX10_does_221 : decode cX10_does 221 = .ok (.getfield 296, 3) := by decide +kernel
theorem dX10_does_224 : decode cX10_does 224 = .ok (.ixor, 1) := by decide +kernel
theorem dX10_does_225 : decode cX10_does 225 = .ok (.ireturn, 1) := by decide +kernel
theorem dX10_does_226 : decode cX10_does 226 = .ok (.aload_n 0, 1) := by decide +kernel
theorem dX10_does_227 : decode cX10_does 227 = .ok (.iload_n 2, 1) := by decide +kernel
theorem dX10_does_228 : decode cX10_does 228 = .ok (.iconst 2, 1) := by decide +kernel
theorem dX10_does_229 : decode cX10_does 229 = .ok (.iload_n 3, 1) := by decide +kernel
theorem dX10_does_230 : decode cX10_does 230 = .ok (.invokevirtual 299, 3) := by decide +kernel
theorem dX10_does_233 : decode cX10_does 233 = .ok (.aload_n 0, 1) := by decide +kernel
theorem dX10_does_234 : decode cX10_does 234 = .ok (.aload_n 0, 1) := by decide +kernel
theorem dX10_does_235 : decode cX10_does 235 = .ok (.getfield 296, 3) := by decide +kernel
theorem dX10_does_238 : decode cX10_does 238 = .ok (.iconst 1, 1) := by decide +kernel
theorem dX10_does_239 : decode cX10_does 239 = .ok (.invokevirtual 91, 3) := by decide +kernel
theorem dX10_does_242 : decode cX10_does 242 = .ok (.iadd, 1) := by decide +kernel
theorem dX10_does_243 : decode cX10_does 243 = .ok (.ireturn, 1) := by decide +kernel
theorem dX10_does_244 : decode cX10_does 244 = .ok (.aload_n 0, 1) := by decide +kernel
theorem dX10_does_245 : decode cX10_does 245 = .ok (.iconst 1, 1) := by decide +kernel
theorem dX10_does_246 : decode cX10_does 246 = .ok (.iload_n 3, 1) := by decide +kernel
theorem dX10_does_247 : decode cX10_does 247 = .ok (.invokevirtual 311, 3) := by decide +kernel
theorem dX10_does_250 : decode cX10_does 250 = .ok (.istore 4, 2) := by decide +kernel
theorem dX10_does_252 : decode cX10_does 252 = .ok (.iload 4, 2) := by decide +kernel
theorem dX10_does_254 : decode cX10_does 254 = .ok (.aload_n 0, 1) := by decide +kernel
theorem dX10_does_255 : decode cX10_does 255 = .ok (.iload_n 2, 1) := by decide +kernel
theorem dX10_does_256 : decode cX10_does 256 = .ok (.iconst 3, 1) := by decide +kernel
theorem dX10_does_257 : decode cX10_does 257 = .ok (.iload_n 3, 1) := by decide +kernel
theorem dX10_does_258 : decode cX10_does 258 = .ok (.invokevirtual 299, 3) := by decide +kernel
theorem dX10_does_261 : decode cX10_does 261 = .ok (.isub, 1) := by decide +kernel
theorem dX10_does_262 : decode cX10_does 262 = .ok (.ireturn, 1) := by decide +kernel
theorem dX10_voice_0 : decode cX10_voice 0 = .ok (.aload_n 0, 1) := by decide +kernel
theorem dX10_voice_1 : decode cX10_voice 1 = .ok (.iload_n 1, 1) := by decide +kernel
theorem dX10_voice_2 : decode cX10_voice 2 = .ok (.invokevirtual 113, 3) := by decide +kernel
theorem dX10_voice_5 : decode cX10_voice 5 = .ok (.ifCond .eq 15, 3) := by decide +kernel
theorem dX10_voice_8 : decode cX10_voice 8 = .ok (.iload_n 2, 1) := by decide +kernel
theorem dX10_voice_9 : decode cX10_voice 9 = .ok (.i2l, 1) := by decide +kernel
theorem dX10_voice_10 : decode cX10_voice 10 = .ok (.lconst 0, 1) := by decide +kernel
theorem dX10_voice_11 : decode cX10_voice 11 = .ok (.ldc2_w 314, 3) := by decide +kernel
theorem dX10_voice_14 : decode cX10_voice 14 = .ok (.invokestatic 48, 3) := by decide +kernel
theorem dX10_voice_17 : decode cX10_voice 17 = .ok (.ifCond .ne 10, 3) := by decide +kernel
theorem dX10_voice_20 : decode cX10_voice 20 = .ok (.aload_n 0, 1) := by decide +kernel
theorem dX10_voice_21 : decode cX10_voice 21 = .ok (.ldc 62, 2) := by decide +kernel
theorem dX10_voice_23 : decode cX10_voice 23 = .ok (.invokevirtual 63, 3) := by decide +kernel
theorem dX10_voice_26 : decode cX10_voice 26 = .ok (.ireturn, 1) := by decide +kernel
theorem dX10_voice_27 : decode cX10_voice 27 = .ok (.aload_n 0, 1) := by decide +kernel
theorem dX10_voice_28 : decode cX10_voice 28 = .ok (.iconst 0, 1) := by decide +kernel
theorem dX10_voice_29 : decode cX10_voice 29 = .ok (.putfield 305, 3) := by decide +kernel
theorem dX10_voice_32 : decode cX10_voice 32 = .ok (.aload_n 0, 1) := by decide +kernel
theorem dX10_voice_33 : decode cX10_voice 33 = .ok (.iload_n 1, 1) := by decide +kernel
theorem dX10_voice_34 : decode cX10_voice 34 = .ok (.putfield 296, 3) := by decide +kernel
theorem dX10_voice_37 : decode cX10_voice 37 = .ok (.aload_n 0, 1) := by decide +kernel
theorem dX10_voice_38 : decode cX10_voice 38 = .ok (.iload_n 2, 1) := by decide +kernel
theorem dX10_voice_39 : decode cX10_voice 39 = .ok (.iload_n 3, 1) := by decide +kernel
theorem dX10_voice_40 : decode cX10_voice 40 = .ok (.invokevirtual 311, 3) := by decide +kernel
theorem dX10_voice_43 : decode cX10_voice 43 = .ok (.ireturn, 1) := by decide +kernel
theorem dX10_trace_0 : decode cX10_trace 0 = .ok (.iload_n 1, 1) := by decide +kernel
theorem dX10_trace_1 : decode cX10_trace 1 = .ok (.i2l, 1) := by decide +kernel
theorem dX10_trace_2 : decode cX10_trace 2 = .ok (.lconst 0, 1) := by decide +kernel
theorem dX10_trace_3 : decode cX10_trace 3 = .ok (.aload_n 0, 1) := by decide +kernel
theorem dX10_trace_4 : decode cX10_trace 4 = .ok (.getfield 305, 3) := by decide +kernel
theorem dX10_trace_7 : decode cX10_trace 7 = .ok (.iconst 1, 1) := by decide +kernel
theorem dX10_trace_8 : decode cX10_trace 8 = .ok (.isub, 1) := by decide +kernel
theorem dX10_trace_9 : decode cX10_trace 9 = .ok (.i2l, 1) := by decide +kernel
theorem dX10_trace_10 : decode cX10_trace 10 = .ok (.invokestatic 48, 3) := by decide +kernel
theorem dX10_trace_13 : decode cX10_trace 13 = .ok (.ifCond .eq 12, 3) := by decide +kernel
theorem dX10_trace_16 : decode cX10_trace 16 = .ok (.aload_n 0, 1) := by decide +kernel
theorem dX10_trace_17 : decode cX10_trace 17 = .ok (.getfield 35, 3) := by decide +kernel
theorem dX10_trace_20 : decode cX10_trace 20 = .ok (.iload_n 1, 1) := by decide +kernel
theorem dX10_trace_21 : decode cX10_trace 21 = .ok (.iaload, 1) := by decide +kernel
theorem dX10_trace_22 : decode cX10_trace 22 = .ok (.goto 9, 3) := by decide +kernel
theorem dX10_trace_25 : decode cX10_trace 25 = .ok (.aload_n 0, 1) := by decide +kernel
theorem dX10_trace_26 : decode cX10_trace 26 = .ok (.ldc 138, 2) := by decide +kernel
theorem dX10_trace_28 : decode cX10_trace 28 = .ok (.invokevirtual 63, 3) := by decide +kernel
theorem dX10_trace_31 : decode cX10_trace 31 = .ok (.ireturn, 1) := by decide +kernel
theorem dX10_isSheet_0 : decode cX10_isSheet 0 = .ok (.iload_n 0, 1) := by decide +kernel
theorem dX10_isSheet_1 : decode cX10_isSheet 1 = .ok (.i2l, 1) := by decide +kernel
theorem dX10_isSheet_2 : decode cX10_isSheet 2 = .ok (.lconst 0, 1) := by decide +kernel
theorem dX10_isSheet_3 : decode cX10_isSheet 3 = .ok (.ldc2_w 314, 3) := by decide +kernel
theorem dX10_isSheet_6 : decode cX10_isSheet 6 = .ok (.invokestatic 48, 3) := by decide +kernel
theorem dX10_isSheet_9 : decode cX10_isSheet 9 = .ok (.ireturn, 1) := by decide +kernel
theorem dX10_sheet_0 : decode cX10_sheet 0 = .ok (.iload_n 1, 1) := by decide +kernel
theorem dX10_sheet_1 : decode cX10_sheet 1 = .ok (.invokestatic 135, 3) := by decide +kernel
theorem dX10_sheet_4 : decode cX10_sheet 4 = .ok (.ifCond .eq 25, 3) := by decide +kernel
theorem dX10_sheet_7 : decode cX10_sheet 7 = .ok (.iload_n 2, 1) := by decide +kernel
theorem dX10_sheet_8 : decode cX10_sheet 8 = .ok (.ifCond .eq 28, 3) := by decide +kernel
theorem dX10_sheet_11 : decode cX10_sheet 11 = .ok (.iload_n 2, 1) := by decide +kernel
theorem dX10_sheet_12 : decode cX10_sheet 12 = .ok (.bipush 8, 2) := by decide +kernel
theorem dX10_sheet_14 : decode cX10_sheet 14 = .ok (.if_icmp .eq 22, 3) := by decide +kernel
theorem dX10_sheet_17 : decode cX10_sheet 17 = .ok (.iload_n 2, 1) := by decide +kernel
theorem dX10_sheet_18 : decode cX10_sheet 18 = .ok (.bipush 16, 2) := by decide +kernel
theorem dX10_sheet_20 : decode cX10_sheet 20 = .ok (.if_icmp .eq 16, 3) := by decide +kernel
theorem dX10_sheet_23 : decode cX10_sheet 23 = .ok (.iload_n 2, 1) := by decide +kernel
theorem dX10_sheet_24 : decode cX10_sheet 24 = .ok (.bipush 32, 2) := by decide +kernel
theorem dX10_sheet_26 : decode cX10_sheet 26 = .ok (.if_icmp .eq 10, 3) := by decide +kernel
theorem dX10_sheet_29 : decode cX10_sheet 29 = .ok (.aload_n 0, 1) := by decide +kernel
theorem dX10_sheet_30 : decode cX10_sheet 30 = .ok (.ldc 62, 2) := by decide +kernel
theorem dX10_sheet_32 : decode cX10_sheet 32 = .ok (.invokevirtual 63, 3) := by decide +kernel
theorem dX10_sheet_35 : decode cX10_sheet 35 = .ok (.ireturn, 1) := by decide +kernel
theorem dX10_sheet_36 : decode cX10_sheet 36 = .ok (.iload_n 2, 1) := by decide +kernel
theorem dX10_sheet_37 : decode cX10_sheet 37 = .ok (.ifCond .eq 15, 3) := by decide +kernel
theorem dX10_sheet_40 : decode cX10_sheet 40 = .ok (.iload_n 3, 1) := by decide +kernel
theorem dX10_sheet_41 : decode cX10_sheet 41 = .ok (.ifCond .ge 11, 3) := by decide +kernel
theorem dX10_sheet_44 : decode cX10_sheet 44 = .ok (.aload_n 0, 1) := by decide +kernel
theorem dX10_sheet_45 : decode cX10_sheet 45 = .ok (.ldc_w 260, 3) := by decide +kernel
theorem dX10_sheet_48 : decode cX10_sheet 48 = .ok (.invokevirtual 63, 3) := by decide +kernel
theorem dX10_sheet_51 : decode cX10_sheet 51 = .ok (.ireturn, 1) := by decide +kernel
theorem dX10_sheet_52 : decode cX10_sheet 52 = .ok (.iload_n 2, 1) := by decide +kernel
theorem dX10_sheet_53 : decode cX10_sheet 53 = .ok (.ifCond .eq 16, 3) := by decide +kernel
theorem dX10_sheet_56 : decode cX10_sheet 56 = .ok (.iload_n 3, 1) := by decide +kernel
theorem dX10_sheet_57 : decode cX10_sheet 57 = .ok (.bipush 40, 2) := by decide +kernel
theorem dX10_sheet_59 : decode cX10_sheet 59 = .ok (.if_icmp .le 10, 3) := by decide +kernel
theorem dX10_sheet_62 : decode cX10_sheet 62 = .ok (.aload_n 0, 1) := by decide +kernel
theorem dX10_sheet_63 : decode cX10_sheet 63 = .ok (.ldc 62, 2) := by decide +kernel
theorem dX10_sheet_65 : decode cX10_sheet 65 = .ok (.invokevirtual 63, 3) := by decide +kernel
theorem dX10_sheet_68 : decode cX10_sheet 68 = .ok (.ireturn, 1) := by decide +kernel
theorem dX10_sheet_69 : decode cX10_sheet 69 = .ok (.aload_n 0, 1) := by decide +kernel
theorem dX10_sheet_70 : decode cX10_sheet 70 = .ok (.getfield 38, 3) := by decide +kernel
theorem dX10_sheet_73 : decode cX10_sheet 73 = .ok (.iload_n 1, 1) := by decide +kernel
theorem dX10_sheet_74 : decode cX10_sheet 74 = .ok (.iload_n 2, 1) := by decide +kernel
theorem dX10_sheet_75 : decode cX10_sheet 75 = .ok (.iastore, 1) := by decide +kernel
theorem dX10_sheet_76 : decode cX10_sheet 76 = .ok (.aload_n 0, 1) := by decide +kernel
theorem dX10_sheet_77 : decode cX10_sheet 77 = .ok (.getfield 41, 3) := by decide +kernel
theorem dX10_sheet_80 : decode cX10_sheet 80 = .ok (.iload_n 1, 1) := by decide +kernel
theorem dX10_sheet_81 : decode cX10_sheet 81 = .ok (.iload_n 2, 1) := by decide +kernel
theorem dX10_sheet_82 : decode cX10_sheet 82 = .ok (.ifCond .ne 7, 3) := by decide +kernel
theorem dX10_sheet_85 : decode cX10_sheet 85 = .ok (.iconst 0, 1) := by decide +kernel
theorem dX10_sheet_86 : decode cX10_sheet 86 = .ok (.goto 4, 3) := by decide +kernel
theorem dX10_sheet_89 : decode cX10_sheet 89 = .ok (.iload_n 3, 1) := by decide +kernel
theorem dX10_sheet_90 : decode cX10_sheet 90 = .ok (.iastore, 1) := by decide +kernel
theorem dX10_sheet_91 : decode cX10_sheet 91 = .ok (.iconst 0, 1) := by decide +kernel
theorem dX10_sheet_92 : decode cX10_sheet 92 = .ok (.istore 4, 2) := by decide +kernel
theorem dX10_sheet_94 : decode cX10_sheet 94 = .ok (.iload 4, 2) := by decide +kernel
theorem dX10_sheet_96 : decode cX10_sheet 96 = .ok (.bipush 40, 2) := by decide +kernel
theorem dX10_sheet_98 : decode cX10_sheet 98 = .ok (.if_icmp .ge 22, 3) := by decide +kernel
theorem dX10_sheet_101 : decode cX10_sheet 101 = .ok (.aload_n 0, 1) := by decide +kernel
theorem dX10_sheet_102 : decode cX10_sheet 102 = .ok (.getfield 44, 3) := by decide +kernel
theorem dX10_sheet_105 : decode cX10_sheet 105 = .ok (.bipush 40, 2) := by decide +kernel
theorem dX10_sheet_107 : decode cX10_sheet 107 = .ok (.iload_n 1, 1) := by decide +kernel
theorem dX10_sheet_108 : decode cX10_sheet 108 = .ok (.imul, 1) := by decide +kernel
theorem dX10_sheet_109 : decode cX10_sheet 109 = .ok (.iload 4, 2) := by decide +kernel
theorem dX10_sheet_111 : decode cX10_sheet 111 = .ok (.iadd, 1) := by decide +kernel
theorem dX10_sheet_112 : decode cX10_sheet 112 = .ok (.iconst 0, 1) := by decide +kernel
theorem dX10_sheet_113 : decode cX10_sheet 113 = .ok (.iastore, 1) := by decide +kernel
theorem dX10_sheet_114 : decode cX10_sheet 114 = .ok (.iinc 4 1, 3) := by decide +kernel
theorem dX10_sheet_117 : decode cX10_sheet 117 = .ok (.goto (-23), 3) := by decide +kernel
theorem dX10_sheet_120 : decode cX10_sheet 120 = .ok (.iconst 1, 1) := by decide +kernel
theorem dX10_sheet_121 : decode cX10_sheet 121 = .ok (.ireturn, 1) := by decide +kernel
theorem dX10_put_0 : decode cX10_put 0 = .ok (.iload_n 1, 1) := by decide +kernel
theorem dX10_put_1 : decode cX10_put 1 = .ok (.invokestatic 135, 3) := by decide +kernel
theorem dX10_put_4 : decode cX10_put 4 = .ok (.ifCond .ne 10, 3) := by decide +kernel
theorem dX10_put_7 : decode cX10_put 7 = .ok (.aload_n 0, 1) := by decide +kernel
theorem dX10_put_8 : decode cX10_put 8 = .ok (.ldc 62, 2) := by decide +kernel
theorem dX10_put_10 : decode cX10_put 10 = .ok (.invokevirtual 63, 3) := by decide +kernel
theorem dX10_put_13 : decode cX10_put 13 = .ok (.ireturn, 1) := by decide +kernel
theorem dX10_put_14 : decode cX10_put 14 = .ok (.aload_n 0, 1) := by decide +kernel
theorem dX10_put_15 : decode cX10_put 15 = .ok (.getfield 38, 3) := by decide +kernel
theorem dX10_put_18 : decode cX10_put 18 = .ok (.iload_n 1, 1) := by decide +kernel
theorem dX10_put_19 : decode cX10_put 19 = .ok (.iaload, 1) := by decide +kernel
theorem dX10_put_20 : decode cX10_put 20 = .ok (.ifCond .ne 10, 3) := by decide +kernel
theorem dX10_put_23 : decode cX10_put 23 = .ok (.aload_n 0, 1) := by decide +kernel
theorem dX10_put_24 : decode cX10_put 24 = .ok (.ldc 138, 2) := by decide +kernel
theorem dX10_put_26 : decode cX10_put 26 = .ok (.invokevirtual 63, 3) := by decide +kernel
theorem dX10_put_29 : decode cX10_put 29 = .ok (.ireturn, 1) := by decide +kernel
theorem dX10_put_30 : decode cX10_put 30 = .ok (.iload_n 2, 1) := by decide +kernel
theorem dX10_put_31 : decode cX10_put 31 = .ok (.i2l, 1) := by decide +kernel
theorem dX10_put_32 : decode cX10_put 32 = .ok (.lconst 0, 1) := by decide +kernel
theorem dX10_put_33 : decode cX10_put 33 = .ok (.aload_n 0, 1) := by decide +kernel
theorem dX10_put_34 : decode cX10_put 34 = .ok (.getfield 41, 3) := by decide +kernel
theorem dX10_put_37 : decode cX10_put 37 = .ok (.iload_n 1, 1) := by decide +kernel
theorem dX10_put_38 : decode cX10_put 38 = .ok (.iaload, 1) := by decide +kernel
theorem dX10_put_39 : decode cX10_put 39 = .ok (.iconst 1, 1) := by decide +kernel
theorem dX10_put_40 : decode cX10_put 40 = .ok (.isub, 1) := by decide +kernel
theorem dX10_put_41 : decode cX10_put 41 = .ok (.i2l, 1) := by decide +kernel
theorem dX10_put_42 : decode cX10_put 42 = .ok (.invokestatic 48, 3) := by decide +kernel
theorem dX10_put_45 : decode cX10_put 45 = .ok (.ifCond .ne 10, 3) := by decide +kernel
theorem dX10_put_48 : decode cX10_put 48 = .ok (.aload_n 0, 1) := by decide +kernel
theorem dX10_put_49 : decode cX10_put 49 = .ok (.ldc 62, 2) := by decide +kernel
theorem dX10_put_51 : decode cX10_put 51 = .ok (.invokevirtual 63, 3) := by decide +kernel
theorem dX10_put_54 : decode cX10_put 54 = .ok (.ireturn, 1) := by decide +kernel
theorem dX10_put_55 : decode cX10_put 55 = .ok (.aload_n 0, 1) := by decide +kernel
theorem dX10_put_56 : decode cX10_put 56 = .ok (.getfield 44, 3) := by decide +kernel
theorem dX10_put_59 : decode cX10_put 59 = .ok (.bipush 40, 2) := by decide +kernel
theorem dX10_put_61 : decode cX10_put 61 = .ok (.iload_n 1, 1) := by decide +kernel
theorem dX10_put_62 : decode cX10_put 62 = .ok (.imul, 1) := by decide +kernel
theorem dX10_put_63 : decode cX10_put 63 = .ok (.iload_n 2, 1) := by decide +kernel
theorem dX10_put_64 : decode cX10_put 64 = .ok (.iadd, 1) := by decide +kernel
theorem dX10_put_65 : decode cX10_put 65 = .ok (.aload_n 0, 1) := by decide +kernel
theorem dX10_put_66 : decode cX10_put 66 = .ok (.getfield 38, 3) := by decide +kernel
theorem dX10_put_69 : decode cX10_put 69 = .ok (.iload_n 1, 1) := by decide +kernel
theorem dX10_put_70 : decode cX10_put 70 = .ok (.iaload, 1) := by decide +kernel
theorem dX10_put_71 : decode cX10_put 71 = .ok (.bipush 8, 2) := by decide +kernel
theorem dX10_put_73 : decode cX10_put 73 = .ok (.if_icmp .ne 8, 3) := by decide +kernel
theorem dX10_put_76 : decode cX10_put 76 = .ok (.iload_n 3, 1) := by decide +kernel
theorem dX10_put_77 : decode cX10_put 77 = .ok (.i2b, 1) := by decide +kernel
theorem dX10_put_78 : decode cX10_put 78 = .ok (.goto 20, 3) := by decide +kernel
theorem dX10_put_81 : decode cX10_put 81 = .ok (.aload_n 0, 1) := by decide +kernel
theorem dX10_put_82 : decode cX10_put 82 = .ok (.getfield 38, 3) := by decide +kernel
theorem dX10_put_85 : decode cX10_put 85 = .ok (.iload_n 1, 1) := by decide +kernel
theorem dX10_put_86 : decode cX10_put 86 = .ok (.iaload, 1) := by decide +kernel
theorem dX10_put_87 : decode cX10_put 87 = .ok (.bipush 16, 2) := by decide +kernel
theorem dX10_put_89 : decode cX10_put 89 = .ok (.if_icmp .ne 8, 3) := by decide +kernel
theorem dX10_put_92 : decode cX10_put 92 = .ok (.iload_n 3, 1) := by decide +kernel
theorem dX10_put_93 : decode cX10_put 93 = .ok (.i2s, 1) := by decide +kernel
theorem dX10_put_94 : decode cX10_put 94 = .ok (.goto 4, 3) := by decide +kernel
theorem dX10_put_97 : decode cX10_put 97 = .ok (.iload_n 3, 1) := by decide +kernel
theorem dX10_put_98 : decode cX10_put 98 = .ok (.iastore, 1) := by decide +kernel
theorem dX10_put_99 : decode cX10_put 99 = .ok (.iconst 1, 1) := by decide +kernel
theorem dX10_put_100 : decode cX10_put 100 = .ok (.ireturn, 1) := by decide +kernel
theorem dX10_move_0 : decode cX10_move 0 = .ok (.iload_n 1, 1) := by decide +kernel
theorem dX10_move_1 : decode cX10_move 1 = .ok (.invokestatic 135, 3) := by decide +kernel
theorem dX10_move_4 : decode cX10_move 4 = .ok (.ifCond .eq 10, 3) := by decide +kernel
theorem dX10_move_7 : decode cX10_move 7 = .ok (.iload_n 3, 1) := by decide +kernel
theorem dX10_move_8 : decode cX10_move 8 = .ok (.invokestatic 135, 3) := by decide +kernel
theorem dX10_move_11 : decode cX10_move 11 = .ok (.ifCond .ne 10, 3) := by decide +kernel
theorem dX10_move_14 : decode cX10_move 14 = .ok (.aload_n 0, 1) := by decide +kernel
theorem dX10_move_15 : decode cX10_move 15 = .ok (.ldc 62, 2) := by decide +kernel
theorem dX10_move_17 : decode cX10_move 17 = .ok (.invokevirtual 63, 3) := by decide +kernel
theorem dX10_move_20 : decode cX10_move 20 = .ok (.ireturn, 1) := by decide +kernel
theorem dX10_move_21 : decode cX10_move 21 = .ok (.aload_n 0, 1) := by decide +kernel
theorem dX10_move_22 : decode cX10_move 22 = .ok (.getfield 38, 3) := by decide +kernel
theorem dX10_move_25 : decode cX10_move 25 = .ok (.iload_n 1, 1) := by decide +kernel
theorem dX10_move_26 : decode cX10_move 26 = .ok (.iaload, 1) := by decide +kernel
theorem dX10_move_27 : decode cX10_move 27 = .ok (.ifCond .eq 12, 3) := by decide +kernel
theorem dX10_move_30 : decode cX10_move 30 = .ok (.aload_n 0, 1) := by decide +kernel
theorem dX10_move_31 : decode cX10_move 31 = .ok (.getfield 38, 3) := by decide +kernel
theorem dX10_move_34 : decode cX10_move 34 = .ok (.iload_n 3, 1) := by decide +kernel
theorem dX10_move_35 : decode cX10_move 35 = .ok (.iaload, 1) := by decide +kernel
theorem dX10_move_36 : decode cX10_move 36 = .ok (.ifCond .ne 10, 3) := by decide +kernel
theorem dX10_move_39 : decode cX10_move 39 = .ok (.aload_n 0, 1) := by decide +kernel
theorem dX10_move_40 : decode cX10_move 40 = .ok (.ldc 138, 2) := by decide +kernel
theorem dX10_move_42 : decode cX10_move 42 = .ok (.invokevirtual 63, 3) := by decide +kernel
theorem dX10_move_45 : decode cX10_move 45 = .ok (.ireturn, 1) := by decide +kernel
theorem dX10_move_46 : decode cX10_move 46 = .ok (.aload_n 0, 1) := by decide +kernel
theorem dX10_move_47 : decode cX10_move 47 = .ok (.getfield 38, 3) := by decide +kernel
theorem dX10_move_50 : decode cX10_move 50 = .ok (.iload_n 1, 1) := by decide +kernel
theorem dX10_move_51 : decode cX10_move 51 = .ok (.iaload, 1) := by decide +kernel
theorem dX10_move_52 : decode cX10_move 52 = .ok (.aload_n 0, 1) := by decide +kernel
theorem dX10_move_53 : decode cX10_move 53 = .ok (.getfield 38, 3) := by decide +kernel
theorem dX10_move_56 : decode cX10_move 56 = .ok (.iload_n 3, 1) := by decide +kernel
theorem dX10_move_57 : decode cX10_move 57 = .ok (.iaload, 1) := by decide +kernel
theorem dX10_move_58 : decode cX10_move 58 = .ok (.if_icmp .eq 10, 3) := by decide +kernel
theorem dX10_move_61 : decode cX10_move 61 = .ok (.aload_n 0, 1) := by decide +kernel
theorem dX10_move_62 : decode cX10_move 62 = .ok (.ldc 127, 2) := by decide +kernel
theorem dX10_move_64 : decode cX10_move 64 = .ok (.invokevirtual 63, 3) := by decide +kernel
theorem dX10_move_67 : decode cX10_move 67 = .ok (.ireturn, 1) := by decide +kernel
theorem dX10_move_68 : decode cX10_move 68 = .ok (.iload 5, 2) := by decide +kernel
theorem dX10_move_70 : decode cX10_move 70 = .ok (.ifCond .lt 39, 3) := by decide +kernel
theorem dX10_move_73 : decode cX10_move 73 = .ok (.iload_n 2, 1) := by decide +kernel
theorem dX10_move_74 : decode cX10_move 74 = .ok (.ifCond .lt 35, 3) := by decide +kernel
theorem dX10_move_77 : decode cX10_move 77 = .ok (.iload 4, 2) := by decide +kernel
theorem dX10_move_79 : decode cX10_move 79 = .ok (.ifCond .lt 30, 3) := by decide +kernel
theorem dX10_move_82 : decode cX10_move 82 = .ok (.iload 5, 2) := by decide +kernel
theorem dX10_move_84 : decode cX10_move 84 = .ok (.aload_n 0, 1) := by decide +kernel
theorem dX10_move_85 : decode cX10_move 85 = .ok (.getfield 41, 3) := by decide +kernel
theorem dX10_move_88 : decode cX10_move 88 = .ok (.iload_n 1, 1) := by decide +kernel
theorem dX10_move_89 : decode cX10_move 89 = .ok (.iaload, 1) := by decide +kernel
theorem dX10_move_90 : decode cX10_move 90 = .ok (.iload_n 2, 1) := by decide +kernel
theorem dX10_move_91 : decode cX10_move 91 = .ok (.isub, 1) := by decide +kernel
theorem dX10_move_92 : decode cX10_move 92 = .ok (.if_icmp .gt 17, 3) := by decide +kernel
theorem dX10_move_95 : decode cX10_move 95 = .ok (.iload 5, 2) := by decide +kernel
theorem dX10_move_97 : decode cX10_move 97 = .ok (.aload_n 0, 1) := by decide +kernel
theorem dX10_move_98 : decode cX10_move 98 = .ok (.getfield 41, 3) := by decide +kernel
theorem dX10_move_101 : decode cX10_move 101 = .ok (.iload_n 3, 1) := by decide +kernel
theorem dX10_move_102 : decode cX10_move 102 = .ok (.iaload, 1) := by decide +kernel
theorem dX10_move_103 : decode cX10_move 103 = .ok (.iload 4, 2) := by decide +kernel
theorem dX10_move_105 : decode cX10_move 105 = .ok (.isub, 1) := by decide +kernel
theorem dX10_move_106 : decode cX10_move 106 = .ok (.if_icmp .le 10, 3) := by decide +kernel
theorem dX10_move_109 : decode cX10_move 109 = .ok (.aload_n 0, 1) := by decide +kernel
theorem dX10_move_110 : decode cX10_move 110 = .ok (.ldc 62, 2) := by decide +kernel
theorem dX10_move_112 : decode cX10_move 112 = .ok (.invokevirtual 63, 3) := by decide +kernel
theorem dX10_move_115 : decode cX10_move 115 = .ok (.ireturn, 1) := by decide +kernel
theorem dX10_move_116 : decode cX10_move 116 = .ok (.iload_n 1, 1) := by decide +kernel
theorem dX10_move_117 : decode cX10_move 117 = .ok (.iload_n 3, 1) := by decide +kernel
theorem dX10_move_118 : decode cX10_move 118 = .ok (.if_icmp .ne 13, 3) := by decide +kernel
theorem dX10_move_121 : decode cX10_move 121 = .ok (.iload_n 2, 1) := by decide +kernel
theorem dX10_move_122 : decode cX10_move 122 = .ok (.iload 4, 2) := by decide +kernel
theorem dX10_move_124 : decode cX10_move 124 = .ok (.if_icmp .ge 7, 3) := by decide +kernel
theorem dX10_move_127 : decode cX10_move 127 = .ok (.iconst 1, 1) := by decide +kernel
theorem dX10_move_128 : decode cX10_move 128 = .ok (.goto 4, 3) := by decide +kernel
theorem dX10_move_131 : decode cX10_move 131 = .ok (.iconst 0, 1) := by decide +kernel
theorem dX10_move_132 : decode cX10_move 132 = .ok (.istore 6, 2) := by decide +kernel
theorem dX10_move_134 : decode cX10_move 134 = .ok (.iconst 0, 1) := by decide +kernel
theorem dX10_move_135 : decode cX10_move 135 = .ok (.istore 7, 2) := by decide +kernel
theorem dX10_move_137 : decode cX10_move 137 = .ok (.iload 7, 2) := by decide +kernel
theorem dX10_move_139 : decode cX10_move 139 = .ok (.iload 5, 2) := by decide +kernel
theorem dX10_move_141 : decode cX10_move 141 = .ok (.if_icmp .ge 57, 3) := by decide +kernel
theorem dX10_move_144 : decode cX10_move 144 = .ok (.iload 6, 2) := by decide +kernel
theorem dX10_move_146 : decode cX10_move 146 = .ok (.ifCond .eq 13, 3) := by decide +kernel
theorem dX10_move_149 : decode cX10_move 149 = .ok (.iload 5, 2) := by decide +kernel
theorem dX10_move_151 : decode cX10_move 151 = .ok (.iconst 1, 1) := by decide +kernel
theorem dX10_move_152 : decode cX10_move 152 = .ok (.isub, 1) := by decide +kernel
theorem dX10_move_153 : decode cX10_move 153 = .ok (.iload 7, 2) := by decide +kernel
theorem dX10_move_155 : decode cX10_move 155 = .ok (.isub, 1) := by decide +kernel
theorem dX10_move_156 : decode cX10_move 156 = .ok (.goto 5, 3) := by decide +kernel
theorem dX10_move_159 : decode cX10_move 159 = .ok (.iload 7, 2) := by decide +kernel
theorem dX10_move_161 : decode cX10_move 161 = .ok (.istore 8, 2) := by decide +kernel
theorem dX10_move_163 : decode cX10_move 163 = .ok (.aload_n 0, 1) := by decide +kernel
theorem dX10_move_164 : decode cX10_move 164 = .ok (.getfield 44, 3) := by decide +kernel
theorem dX10_move_167 : decode cX10_move 167 = .ok (.bipush 40, 2) := by decide +kernel
theorem dX10_move_169 : decode cX10_move 169 = .ok (.iload_n 3, 1) := by decide +kernel
theorem dX10_move_170 : decode cX10_move 170 = .ok (.imul, 1) := by decide +kernel
theorem dX10_move_171 : decode cX10_move 171 = .ok (.iload 4, 2) := by decide +kernel
theorem dX10_move_173 : decode cX10_move 173 = .ok (.iadd, 1) := by decide +kernel
theorem dX10_move_174 : decode cX10_move 174 = .ok (.iload 8, 2) := by decide +kernel
theorem dX10_move_176 : decode cX10_move 176 = .ok (.iadd, 1) := by decide +kernel
theorem dX10_move_177 : decode cX10_move 177 = .ok (.aload_n 0, 1) := by decide +kernel
theorem dX10_move_178 : decode cX10_move 178 = .ok (.getfield 44, 3) := by decide +kernel
theorem dX10_move_181 : decode cX10_move 181 = .ok (.bipush 40, 2) := by decide +kernel
theorem dX10_move_183 : decode cX10_move 183 = .ok (.iload_n 1, 1) := by decide +kernel
theorem dX10_move_184 : decode cX10_move 184 = .ok (.imul, 1) := by decide +kernel
theorem dX10_move_185 : decode cX10_move 185 = .ok (.iload_n 2, 1) := by decide +kernel
theorem dX10_move_186 : decode cX10_move 186 = .ok (.iadd, 1) := by decide +kernel
theorem dX10_move_187 : decode cX10_move 187 = .ok (.iload 8, 2) := by decide +kernel
theorem dX10_move_189 : decode cX10_move 189 = .ok (.iadd, 1) := by decide +kernel
theorem dX10_move_190 : decode cX10_move 190 = .ok (.iaload, 1) := by decide +kernel
theorem dX10_move_191 : decode cX10_move 191 = .ok (.iastore, 1) := by decide +kernel
theorem dX10_move_192 : decode cX10_move 192 = .ok (.iinc 7 1, 3) := by decide +kernel
theorem dX10_move_195 : decode cX10_move 195 = .ok (.goto (-58), 3) := by decide +kernel
theorem dX10_move_198 : decode cX10_move 198 = .ok (.iload 5, 2) := by decide +kernel
theorem dX10_move_200 : decode cX10_move 200 = .ok (.ireturn, 1) := by decide +kernel
theorem dX10_image_0 : decode cX10_image 0 = .ok (.iconst 0, 1) := by decide +kernel
theorem dX10_image_1 : decode cX10_image 1 = .ok (.istore_n 1, 1) := by decide +kernel
theorem dX10_image_2 : decode cX10_image 2 = .ok (.iload_n 1, 1) := by decide +kernel
theorem dX10_image_3 : decode cX10_image 3 = .ok (.sipush 372, 3) := by decide +kernel
theorem dX10_image_6 : decode cX10_image 6 = .ok (.if_icmp .ge 21, 3) := by decide +kernel
theorem dX10_image_9 : decode cX10_image 9 = .ok (.aload_n 0, 1) := by decide +kernel
theorem dX10_image_10 : decode cX10_image 10 = .ok (.getfield 13, 3) := by decide +kernel
theorem dX10_image_13 : decode cX10_image 13 = .ok (.iload_n 1, 1) := by decide +kernel
theorem dX10_image_14 : decode cX10_image 14 = .ok (.aload_n 0, 1) := by decide +kernel
theorem dX10_image_15 : decode cX10_image 15 = .ok (.getfield 9, 3) := by decide +kernel
theorem dX10_image_18 : decode cX10_image 18 = .ok (.iload_n 1, 1) := by decide +kernel
theorem dX10_image_19 : decode cX10_image 19 = .ok (.iaload, 1) := by decide +kernel
theorem dX10_image_20 : decode cX10_image 20 = .ok (.iastore, 1) := by decide +kernel
theorem dX10_image_21 : decode cX10_image 21 = .ok (.iinc 1 1, 3) := by decide +kernel
theorem dX10_image_24 : decode cX10_image 24 = .ok (.goto (-22), 3) := by decide +kernel
theorem dX10_image_27 : decode cX10_image 27 = .ok (.aload_n 0, 1) := by decide +kernel
theorem dX10_image_28 : decode cX10_image 28 = .ok (.dup, 1) := by decide +kernel
theorem dX10_image_29 : decode cX10_image 29 = .ok (.getfield 316, 3) := by decide +kernel
theorem dX10_image_32 : decode cX10_image 32 = .ok (.iconst 1, 1) := by decide +kernel
theorem dX10_image_33 : decode cX10_image 33 = .ok (.iadd, 1) := by decide +kernel
theorem dX10_image_34 : decode cX10_image 34 = .ok (.putfield 316, 3) := by decide +kernel
theorem dX10_image_37 : decode cX10_image 37 = .ok (.aload_n 0, 1) := by decide +kernel
theorem dX10_image_38 : decode cX10_image 38 = .ok (.getfield 316, 3) := by decide +kernel
theorem dX10_image_41 : decode cX10_image 41 = .ok (.ireturn, 1) := by decide +kernel
theorem dX10_restore_0 : decode cX10_restore 0 = .ok (.aload_n 0, 1) := by decide +kernel
theorem dX10_restore_1 : decode cX10_restore 1 = .ok (.getfield 316, 3) := by decide +kernel
theorem dX10_restore_4 : decode cX10_restore 4 = .ok (.ifCond .ne 10, 3) := by decide +kernel
theorem dX10_restore_7 : decode cX10_restore 7 = .ok (.aload_n 0, 1) := by decide +kernel
theorem dX10_restore_8 : decode cX10_restore 8 = .ok (.ldc 138, 2) := by decide +kernel
theorem dX10_restore_10 : decode cX10_restore 10 = .ok (.invokevirtual 63, 3) := by decide +kernel
theorem dX10_restore_13 : decode cX10_restore 13 = .ok (.ireturn, 1) := by decide +kernel
theorem dX10_restore_14 : decode cX10_restore 14 = .ok (.iconst 0, 1) := by decide +kernel
theorem dX10_restore_15 : decode cX10_restore 15 = .ok (.istore_n 1, 1) := by decide +kernel
theorem dX10_restore_16 : decode cX10_restore 16 = .ok (.iload_n 1, 1) := by decide +kernel
theorem dX10_restore_17 : decode cX10_restore 17 = .ok (.sipush 372, 3) := by decide +kernel
theorem dX10_restore_20 : decode cX10_restore 20 = .ok (.if_icmp .ge 21, 3) := by decide +kernel
theorem dX10_restore_23 : decode cX10_restore 23 = .ok (.aload_n 0, 1) := by decide +kernel
theorem dX10_restore_24 : decode cX10_restore 24 = .ok (.getfield 9, 3) := by decide +kernel
theorem dX10_restore_27 : decode cX10_restore 27 = .ok (.iload_n 1, 1) := by decide +kernel
theorem dX10_restore_28 : decode cX10_restore 28 = .ok (.aload_n 0, 1) := by decide +kernel
theorem dX10_restore_29 : decode cX10_restore 29 = .ok (.getfield 13, 3) := by decide +kernel
theorem dX10_restore_32 : decode cX10_restore 32 = .ok (.iload_n 1, 1) := by decide +kernel
theorem dX10_restore_33 : decode cX10_restore 33 = .ok (.iaload, 1) := by decide +kernel
theorem dX10_restore_34 : decode cX10_restore 34 = .ok (.iastore, 1) := by decide +kernel
theorem dX10_restore_35 : decode cX10_restore 35 = .ok (.iinc 1 1, 3) := by decide +kernel
theorem dX10_restore_38 : decode cX10_restore 38 = .ok (.goto (-22), 3) := by decide +kernel
theorem dX10_restore_41 : decode cX10_restore 41 = .ok (.aload_n 0, 1) := by decide +kernel
theorem dX10_restore_42 : decode cX10_restore 42 = .ok (.getfield 9, 3) := by decide +kernel
theorem dX10_restore_45 : decode cX10_restore 45 = .ok (.iconst 1, 1) := by decide +kernel
theorem dX10_restore_46 : decode cX10_restore 46 = .ok (.iaload, 1) := by decide +kernel
theorem dX10_restore_47 : decode cX10_restore 47 = .ok (.ireturn, 1) := by decide +kernel
theorem dX10_tell_0 : decode cX10_tell 0 = .ok (.aload_n 0, 1) := by decide +kernel
theorem dX10_tell_1 : decode cX10_tell 1 = .ok (.getfield 9, 3) := by decide +kernel
theorem dX10_tell_4 : decode cX10_tell 4 = .ok (.iconst 5, 1) := by decide +kernel
theorem dX10_tell_5 : decode cX10_tell 5 = .ok (.iaload, 1) := by decide +kernel
theorem dX10_tell_6 : decode cX10_tell 6 = .ok (.bipush 20, 2) := by decide +kernel
theorem dX10_tell_8 : decode cX10_tell 8 = .ok (.if_icmp .ne 10, 3) := by decide +kernel
theorem dX10_tell_11 : decode cX10_tell 11 = .ok (.aload_n 0, 1) := by decide +kernel
theorem dX10_tell_12 : decode cX10_tell 12 = .ok (.ldc 66, 2) := by decide +kernel
theorem dX10_tell_14 : decode cX10_tell 14 = .ok (.invokevirtual 63, 3) := by decide +kernel
theorem dX10_tell_17 : decode cX10_tell 17 = .ok (.ireturn, 1) := by decide +kernel
theorem dX10_tell_18 : decode cX10_tell 18 = .ok (.aload_n 0, 1) := by decide +kernel
theorem dX10_tell_19 : decode cX10_tell 19 = .ok (.getfield 9, 3) := by decide +kernel
theorem dX10_tell_22 : decode cX10_tell 22 = .ok (.sipush 250, 3) := by decide +kernel
theorem dX10_tell_25 : decode cX10_tell 25 = .ok (.aload_n 0, 1) := by decide +kernel
theorem dX10_tell_26 : decode cX10_tell 26 = .ok (.getfield 9, 3) := by decide +kernel
theorem dX10_tell_29 : decode cX10_tell 29 = .ok (.iconst 5, 1) := by decide +kernel
theorem dX10_tell_30 : decode cX10_tell 30 = .ok (.iaload, 1) := by decide +kernel
theorem dX10_tell_31 : decode cX10_tell 31 = .ok (.iadd, 1) := by decide +kernel
theorem dX10_tell_32 : decode cX10_tell 32 = .ok (.iload_n 1, 1) := by decide +kernel
theorem dX10_tell_33 : decode cX10_tell 33 = .ok (.iastore, 1) := by decide +kernel
theorem dX10_tell_34 : decode cX10_tell 34 = .ok (.aload_n 0, 1) := by decide +kernel
theorem dX10_tell_35 : decode cX10_tell 35 = .ok (.getfield 9, 3) := by decide +kernel
theorem dX10_tell_38 : decode cX10_tell 38 = .ok (.iconst 5, 1) := by decide +kernel
theorem dX10_tell_39 : decode cX10_tell 39 = .ok (.dup2, 1) := by decide +kernel
theorem dX10_tell_40 : decode cX10_tell 40 = .ok (.iaload, 1) := by decide +kernel
theorem dX10_tell_41 : decode cX10_tell 41 = .ok (.iconst 1, 1) := by decide +kernel
theorem dX10_tell_42 : decode cX10_tell 42 = .ok (.iadd, 1) := by decide +kernel
theorem dX10_tell_43 : decode cX10_tell 43 = .ok (.iastore, 1) := by decide +kernel
theorem dX10_tell_44 : decode cX10_tell 44 = .ok (.aload_n 0, 1) := by decide +kernel
theorem dX10_tell_45 : decode cX10_tell 45 = .ok (.getfield 9, 3) := by decide +kernel
theorem dX10_tell_48 : decode cX10_tell 48 = .ok (.iconst 5, 1) := by decide +kernel
theorem dX10_tell_49 : decode cX10_tell 49 = .ok (.iaload, 1) := by decide +kernel
theorem dX10_tell_50 : decode cX10_tell 50 = .ok (.ireturn, 1) := by decide +kernel
theorem dX10_mayTell_0 : decode cX10_mayTell 0 = .ok (.aload_n 0, 1) := by decide +kernel
theorem dX10_mayTell_1 : decode cX10_mayTell 1 = .ok (.getfield 9, 3) := by decide +kernel
theorem dX10_mayTell_4 : decode cX10_mayTell 4 = .ok (.sipush 250, 3) := by decide +kernel
theorem dX10_mayTell_7 : decode cX10_mayTell 7 = .ok (.iload_n 1, 1) := by decide +kernel
theorem dX10_mayTell_8 : decode cX10_mayTell 8 = .ok (.iadd, 1) := by decide +kernel
theorem dX10_mayTell_9 : decode cX10_mayTell 9 = .ok (.iaload, 1) := by decide +kernel
theorem dX10_mayTell_10 : decode cX10_mayTell 10 = .ok (.istore_n 2, 1) := by decide +kernel
theorem dX10_mayTell_11 : decode cX10_mayTell 11 = .ok (.aload_n 0, 1) := by decide +kernel
theorem dX10_mayTell_12 : decode cX10_mayTell 12 = .ok (.iload_n 2, 1) := by decide +kernel
theorem dX10_mayTell_13 : decode cX10_mayTell 13 = .ok (.invokevirtual 78, 3) := by decide +kernel
theorem dX10_mayTell_16 : decode cX10_mayTell 16 = .ok (.ifCond .eq 11, 3) := by decide +kernel
theorem dX10_mayTell_19 : decode cX10_mayTell 19 = .ok (.aload_n 0, 1) := by decide +kernel
theorem dX10_mayTell_20 : decode cX10_mayTell 20 = .ok (.iload_n 2, 1) := by decide +kernel
theorem dX10_mayTell_21 : decode cX10_mayTell 21 = .ok (.invokevirtual 159, 3) := by decide +kernel
theorem dX10_mayTell_24 : decode cX10_mayTell 24 = .ok (.ifCond .eq 5, 3) := by decide +kernel
theorem dX10_mayTell_27 : decode cX10_mayTell 27 = .ok (.iconst 0, 1) := by decide +kernel
theorem dX10_mayTell_28 : decode cX10_mayTell 28 = .ok (.ireturn, 1) := by decide +kernel
theorem dX10_mayTell_29 : decode cX10_mayTell 29 = .ok (.iconst 0, 1) := by decide +kernel
theorem dX10_mayTell_30 : decode cX10_mayTell 30 = .ok (.istore_n 3, 1) := by decide +kernel
theorem dX10_mayTell_31 : decode cX10_mayTell 31 = .ok (.iload_n 3, 1) := by decide +kernel
theorem dX10_mayTell_32 : decode cX10_mayTell 32 = .ok (.iload_n 1, 1) := by decide +kernel
theorem dX10_mayTell_33 : decode cX10_mayTell 33 = .ok (.if_icmp .ge 42, 3) := by decide +kernel
theorem dX10_mayTell_36 : decode cX10_mayTell 36 = .ok (.aload_n 0, 1) := by decide +kernel
theorem dX10_mayTell_37 : decode cX10_mayTell 37 = .ok (.iload_n 1, 1) := by decide +kernel
theorem dX10_mayTell_38 : decode cX10_mayTell 38 = .ok (.iconst 3, 1) := by decide +kernel
theorem dX10_mayTell_39 : decode cX10_mayTell 39 = .ok (.invokevirtual 91, 3) := by decide +kernel
theorem dX10_mayTell_42 : decode cX10_mayTell 42 = .ok (.iload_n 3, 1) := by decide +kernel
theorem dX10_mayTell_43 : decode cX10_mayTell 43 = .ok (.invokestatic 103, 3) := by decide +kernel
theorem dX10_mayTell_46 : decode cX10_mayTell 46 = .ok (.ifCond .eq 23, 3) := by decide +kernel
theorem dX10_mayTell_49 : decode cX10_mayTell 49 = .ok (.aload_n 0, 1) := by decide +kernel
theorem dX10_mayTell_50 : decode cX10_mayTell 50 = .ok (.iload_n 2, 1) := by decide +kernel
theorem dX10_mayTell_51 : decode cX10_mayTell 51 = .ok (.aload_n 0, 1) := by decide +kernel
theorem dX10_mayTell_52 : decode cX10_mayTell 52 = .ok (.getfield 9, 3) := by decide +kernel
theorem dX10_mayTell_55 : decode cX10_mayTell 55 = .ok (.sipush 250, 3) := by decide +kernel
theorem dX10_mayTell_58 : decode cX10_mayTell 58 = .ok (.iload_n 3, 1) := by decide +kernel
theorem dX10_mayTell_59 : decode cX10_mayTell 59 = .ok (.iadd, 1) := by decide +kernel
theorem dX10_mayTell_60 : decode cX10_mayTell 60 = .ok (.iaload, 1) := by decide +kernel
theorem dX10_mayTell_61 : decode cX10_mayTell 61 = .ok (.invokevirtual 110, 3) := by decide +kernel
theorem dX10_mayTell_64 : decode cX10_mayTell 64 = .ok (.ifCond .eq 5, 3) := by decide +kernel
theorem dX10_mayTell_67 : decode cX10_mayTell 67 = .ok (.iconst 0, 1) := by decide +kernel
theorem dX10_mayTell_68 : decode cX10_mayTell 68 = .ok (.ireturn, 1) := by decide +kernel
theorem dX10_mayTell_69 : decode cX10_mayTell 69 = .ok (.iinc 3 1, 3) := by decide +kernel
theorem dX10_mayTell_72 : decode cX10_mayTell 72 = .ok (.goto (-41), 3) := by decide +kernel
theorem dX10_mayTell_75 : decode cX10_mayTell 75 = .ok (.iconst 1, 1) := by decide +kernel
theorem dX10_mayTell_76 : decode cX10_mayTell 76 = .ok (.ireturn, 1) := by decide +kernel
theorem dX10_check_0 : decode cX10_check 0 = .ok (.aload_n 0, 1) := by decide +kernel
theorem dX10_check_1 : decode cX10_check 1 = .ok (.getfield 9, 3) := by decide +kernel
theorem dX10_check_4 : decode cX10_check 4 = .ok (.iconst 5, 1) := by decide +kernel
theorem dX10_check_5 : decode cX10_check 5 = .ok (.iaload, 1) := by decide +kernel
theorem dX10_check_6 : decode cX10_check 6 = .ok (.istore_n 1, 1) := by decide +kernel
theorem dX10_check_7 : decode cX10_check 7 = .ok (.aload_n 0, 1) := by decide +kernel
theorem dX10_check_8 : decode cX10_check 8 = .ok (.getfield 9, 3) := by decide +kernel
theorem dX10_check_11 : decode cX10_check 11 = .ok (.iconst 5, 1) := by decide +kernel
theorem dX10_check_12 : decode cX10_check 12 = .ok (.iconst 0, 1) := by decide +kernel
theorem dX10_check_13 : decode cX10_check 13 = .ok (.iastore, 1) := by decide +kernel
theorem dX10_check_14 : decode cX10_check 14 = .ok (.iconst 0, 1) := by decide +kernel
theorem dX10_check_15 : decode cX10_check 15 = .ok (.istore_n 2, 1) := by decide +kernel
theorem dX10_check_16 : decode cX10_check 16 = .ok (.iload_n 2, 1) := by decide +kernel
theorem dX10_check_17 : decode cX10_check 17 = .ok (.aload_n 0, 1) := by decide +kernel
theorem dX10_check_18 : decode cX10_check 18 = .ok (.getfield 9, 3) := by decide +kernel
theorem dX10_check_21 : decode cX10_check 21 = .ok (.iconst 1, 1) := by decide +kernel
theorem dX10_check_22 : decode cX10_check 22 = .ok (.iaload, 1) := by decide +kernel
theorem dX10_check_23 : decode cX10_check 23 = .ok (.if_icmp .ge 26, 3) := by decide +kernel
theorem dX10_check_26 : decode cX10_check 26 = .ok (.iload_n 2, 1) := by decide +kernel
theorem dX10_check_27 : decode cX10_check 27 = .ok (.iload_n 1, 1) := by decide +kernel
theorem dX10_check_28 : decode cX10_check 28 = .ok (.if_icmp .ge 11, 3) := by decide +kernel
theorem dX10_check_31 : decode cX10_check 31 = .ok (.aload_n 0, 1) := by decide +kernel
theorem dX10_check_32 : decode cX10_check 32 = .ok (.iload_n 2, 1) := by decide +kernel
theorem dX10_check_33 : decode cX10_check 33 = .ok (.invokevirtual 319, 3) := by decide +kernel
theorem dX10_check_36 : decode cX10_check 36 = .ok (.ifCond .ne 7, 3) := by decide +kernel
theorem dX10_check_39 : decode cX10_check 39 = .ok (.iconst 1, 1) := by decide +kernel
theorem dX10_check_40 : decode cX10_check 40 = .ok (.iload_n 2, 1) := by decide +kernel
theorem dX10_check_41 : decode cX10_check 41 = .ok (.iadd, 1) := by decide +kernel
theorem dX10_check_42 : decode cX10_check 42 = .ok (.ireturn, 1) := by decide +kernel
theorem dX10_check_43 : decode cX10_check 43 = .ok (.iinc 2 1, 3) := by decide +kernel
theorem dX10_check_46 : decode cX10_check 46 = .ok (.goto (-30), 3) := by decide +kernel
theorem dX10_check_49 : decode cX10_check 49 = .ok (.iload_n 1, 1) := by decide +kernel
theorem dX10_check_50 : decode cX10_check 50 = .ok (.aload_n 0, 1) := by decide +kernel
theorem dX10_check_51 : decode cX10_check 51 = .ok (.getfield 9, 3) := by decide +kernel
theorem dX10_check_54 : decode cX10_check 54 = .ok (.iconst 1, 1) := by decide +kernel
theorem dX10_check_55 : decode cX10_check 55 = .ok (.iaload, 1) := by decide +kernel
theorem dX10_check_56 : decode cX10_check 56 = .ok (.if_icmp .le 14, 3) := by decide +kernel
theorem dX10_check_59 : decode cX10_check 59 = .ok (.iconst 1, 1) := by decide +kernel
theorem dX10_check_60 : decode cX10_check 60 = .ok (.aload_n 0, 1) := by decide +kernel
theorem dX10_check_61 : decode cX10_check 61 = .ok (.getfield 9, 3) := by decide +kernel
theorem dX10_check_64 : decode cX10_check 64 = .ok (.iconst 1, 1) := by decide +kernel
theorem dX10_check_65 : decode cX10_check 65 = .ok (.iaload, 1) := by decide +kernel
theorem dX10_check_66 : decode cX10_check 66 = .ok (.iadd, 1) := by decide +kernel
theorem dX10_check_67 : decode cX10_check 67 = .ok (.goto 4, 3) := by decide +kernel
theorem dX10_check_70 : decode cX10_check 70 = .ok (.iconst 0, 1) := by decide +kernel
theorem dX10_check_71 : decode cX10_check 71 = .ok (.ireturn, 1) := by decide +kernel
theorem dX10_count_0 : decode cX10_count 0 = .ok (.iconst 0, 1) := by decide +kernel
theorem dX10_count_1 : decode cX10_count 1 = .ok (.istore_n 2, 1) := by decide +kernel
theorem dX10_count_2 : decode cX10_count 2 = .ok (.iload_n 1, 1) := by decide +kernel
theorem dX10_count_3 : decode cX10_count 3 = .ok (.tableswitch 130 0 8 #[49, 49, 56, 92, 99, 104, 111, 118, 123], 49) := by decide +kernel
theorem dX10_count_52 : decode cX10_count 52 = .ok (.aload_n 0, 1) := by decide +kernel
theorem dX10_count_53 : decode cX10_count 53 = .ok (.getfield 9, 3) := by decide +kernel
theorem dX10_count_56 : decode cX10_count 56 = .ok (.iload_n 1, 1) := by decide +kernel
theorem dX10_count_57 : decode cX10_count 57 = .ok (.iaload, 1) := by decide +kernel
theorem dX10_count_58 : decode cX10_count 58 = .ok (.ireturn, 1) := by decide +kernel
theorem dX10_count_59 : decode cX10_count 59 = .ok (.iconst 0, 1) := by decide +kernel
theorem dX10_count_60 : decode cX10_count 60 = .ok (.istore_n 3, 1) := by decide +kernel
theorem dX10_count_61 : decode cX10_count 61 = .ok (.iload_n 3, 1) := by decide +kernel
theorem dX10_count_62 : decode cX10_count 62 = .ok (.aload_n 0, 1) := by decide +kernel
theorem dX10_count_63 : decode cX10_count 63 = .ok (.getfield 9, 3) := by decide +kernel
theorem dX10_count_66 : decode cX10_count 66 = .ok (.iconst 1, 1) := by decide +kernel
theorem dX10_count_67 : decode cX10_count 67 = .ok (.iaload, 1) := by decide +kernel
theorem dX10_count_68 : decode cX10_count 68 = .ok (.if_icmp .ge 25, 3) := by decide +kernel
theorem dX10_count_71 : decode cX10_count 71 = .ok (.iload_n 2, 1) := by decide +kernel
theorem dX10_count_72 : decode cX10_count 72 = .ok (.aload_n 0, 1) := by decide +kernel
theorem dX10_count_73 : decode cX10_count 73 = .ok (.iload_n 3, 1) := by decide +kernel
theorem dX10_count_74 : decode cX10_count 74 = .ok (.invokevirtual 107, 3) := by decide +kernel
theorem dX10_count_77 : decode cX10_count 77 = .ok (.ifCond .ge 7, 3) := by decide +kernel
theorem dX10_count_80 : decode cX10_count 80 = .ok (.iconst 1, 1) := by decide +kernel
theorem dX10_count_81 : decode cX10_count 81 = .ok (.goto 4, 3) := by decide +kernel
theorem dX10_count_84 : decode cX10_count 84 = .ok (.iconst 0, 1) := by decide +kernel
theorem dX10_count_85 : decode cX10_count 85 = .ok (.iadd, 1) := by decide +kernel
theorem dX10_count_86 : decode cX10_count 86 = .ok (.istore_n 2, 1) := by decide +kernel
theorem dX10_count_87 : decode cX10_count 87 = .ok (.iinc 3 1, 3) := by decide +kernel
theorem dX10_count_90 : decode cX10_count 90 = .ok (.goto (-29), 3) := by decide +kernel
theorem dX10_count_93 : decode cX10_count 93 = .ok (.iload_n 2, 1) := by decide +kernel
theorem dX10_count_94 : decode cX10_count 94 = .ok (.ireturn, 1) := by decide +kernel
theorem dX10_count_95 : decode cX10_count 95 = .ok (.aload_n 0, 1) := by decide +kernel
theorem dX10_count_96 : decode cX10_count 96 = .ok (.getfield 9, 3) := by decide +kernel
theorem dX10_count_99 : decode cX10_count 99 = .ok (.iconst 2, 1) := by decide +kernel
theorem dX10_count_100 : decode cX10_count 100 = .ok (.iaload, 1) := by decide +kernel
theorem dX10_count_101 : decode cX10_count 101 = .ok (.ireturn, 1) := by decide +kernel
theorem dX10_count_102 : decode cX10_count 102 = .ok (.aload_n 0, 1) := by decide +kernel
theorem dX10_count_103 : decode cX10_count 103 = .ok (.invokevirtual 239, 3) := by decide +kernel
theorem dX10_count_106 : decode cX10_count 106 = .ok (.ireturn, 1) := by decide +kernel
theorem dX10_count_107 : decode cX10_count 107 = .ok (.aload_n 0, 1) := by decide +kernel
theorem dX10_count_108 : decode cX10_count 108 = .ok (.getfield 9, 3) := by decide +kernel
theorem dX10_count_111 : decode cX10_count 111 = .ok (.iconst 4, 1) := by decide +kernel
theorem dX10_count_112 : decode cX10_count 112 = .ok (.iaload, 1) := by decide +kernel
theorem dX10_count_113 : decode cX10_count 113 = .ok (.ireturn, 1) := by decide +kernel
theorem dX10_count_114 : decode cX10_count 114 = .ok (.aload_n 0, 1) := by decide +kernel
theorem dX10_count_115 : decode cX10_count 115 = .ok (.getfield 9, 3) := by decide +kernel
theorem dX10_count_118 : decode cX10_count 118 = .ok (.iconst 5, 1) := by decide +kernel
theorem dX10_count_119 : decode cX10_count 119 = .ok (.iaload, 1) := by decide +kernel
theorem dX10_count_120 : decode cX10_count 120 = .ok (.ireturn, 1) := by decide +kernel
theorem dX10_count_121 : decode cX10_count 121 = .ok (.aload_n 0, 1) := by decide +kernel
theorem dX10_count_122 : decode cX10_count 122 = .ok (.getfield 305, 3) := by decide +kernel
theorem dX10_count_125 : decode cX10_count 125 = .ok (.ireturn, 1) := by decide +kernel
theorem dX10_count_126 : decode cX10_count 126 = .ok (.aload_n 0, 1) := by decide +kernel
theorem dX10_count_127 : decode cX10_count 127 = .ok (.getfield 9, 3) := by decide +kernel
theorem dX10_count_130 : decode cX10_count 130 = .ok (.iconst 3, 1) := by decide +kernel
theorem dX10_count_131 : decode cX10_count 131 = .ok (.iaload, 1) := by decide +kernel
theorem dX10_count_132 : decode cX10_count 132 = .ok (.ireturn, 1) := by decide +kernel
theorem dX10_count_133 : decode cX10_count 133 = .ok (.aload_n 0, 1) := by decide +kernel
theorem dX10_count_134 : decode cX10_count 134 = .ok (.ldc 62, 2) := by decide +kernel
theorem dX10_count_136 : decode cX10_count 136 = .ok (.invokevirtual 63, 3) := by decide +kernel
theorem dX10_count_139 : decode cX10_count 139 = .ok (.ireturn, 1) := by decide +kernel
theorem dX10_told_0 : decode cX10_told 0 = .ok (.iload_n 1, 1) := by decide +kernel
theorem dX10_told_1 : decode cX10_told 1 = .ok (.i2l, 1) := by decide +kernel
theorem dX10_told_2 : decode cX10_told 2 = .ok (.lconst 1, 1) := by decide +kernel
theorem dX10_told_3 : decode cX10_told 3 = .ok (.ldc2_w 322, 3) := by decide +kernel
theorem dX10_told_6 : decode cX10_told 6 = .ok (.invokestatic 48, 3) := by decide +kernel
theorem dX10_told_9 : decode cX10_told 9 = .ok (.ifCond .eq 12, 3) := by decide +kernel
theorem dX10_told_12 : decode cX10_told 12 = .ok (.aload_n 0, 1) := by decide +kernel
theorem dX10_told_13 : decode cX10_told 13 = .ok (.getfield 16, 3) := by decide +kernel
theorem dX10_told_16 : decode cX10_told 16 = .ok (.iload_n 1, 1) := by decide +kernel
theorem dX10_told_17 : decode cX10_told 17 = .ok (.iaload, 1) := by decide +kernel
theorem dX10_told_18 : decode cX10_told 18 = .ok (.goto 9, 3) := by decide +kernel
theorem dX10_told_21 : decode cX10_told 21 = .ok (.aload_n 0, 1) := by decide +kernel
theorem dX10_told_22 : decode cX10_told 22 = .ok (.ldc 62, 2) := by decide +kernel
theorem dX10_told_24 : decode cX10_told 24 = .ok (.invokevirtual 63, 3) := by decide +kernel
theorem dX10_told_27 : decode cX10_told 27 = .ok (.ireturn, 1) := by decide +kernel
