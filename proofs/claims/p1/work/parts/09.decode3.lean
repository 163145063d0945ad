theorem d_PF_shows_109 : decode b_PF_shows 109 = .ok (.getfield 22, 3) := by decide +kernel
theorem d_PF_shows_112 : decode b_PF_shows 112 = .ok (.aload_n 0, 1) := by decide +kernel
theorem d_PF_shows_113 : decode b_PF_shows 113 = .ok (.getfield 15, 3) := by decide +kernel
theorem d_PF_shows_116 : decode b_PF_shows 116 = .ok (.if_icmp .ne 17, 3) := by decide +kernel
theorem d_PF_shows_119 : decode b_PF_shows 119 = .ok (.aload_n 0, 1) := by decide +kernel
theorem d_PF_shows_120 : decode b_PF_shows 120 = .ok (.getfield 36, 3) := by decide +kernel
theorem d_PF_shows_123 : decode b_PF_shows 123 = .ok (.lload 4, 2) := by decide +kernel
theorem d_PF_shows_125 : decode b_PF_shows 125 = .ok (.lcmp, 1) := by decide +kernel
theorem d_PF_shows_126 : decode b_PF_shows 126 = .ok (.ifCond .ne 7, 3) := by decide +kernel
theorem d_PF_shows_129 : decode b_PF_shows 129 = .ok (.iconst 1, 1) := by decide +kernel
theorem d_PF_shows_130 : decode b_PF_shows 130 = .ok (.goto 4, 3) := by decide +kernel
theorem d_PF_shows_133 : decode b_PF_shows 133 = .ok (.iconst 0, 1) := by decide +kernel
theorem d_PF_shows_134 : decode b_PF_shows 134 = .ok (.ireturn, 1) := by decide +kernel
theorem d_PF_end_0 : decode b_PF_end 0 = .ok (.aload_n 0, 1) := by decide +kernel
theorem d_PF_end_1 : decode b_PF_end 1 = .ok (.iconst 1, 1) := by decide +kernel
theorem d_PF_end_2 : decode b_PF_end 2 = .ok (.putfield 19, 3) := by decide +kernel
theorem d_PF_end_5 : decode b_PF_end 5 = .ok (.aload_n 0, 1) := by decide +kernel
theorem d_PF_end_6 : decode b_PF_end 6 = .ok (.lload_n 1, 1) := by decide +kernel
theorem d_PF_end_7 : decode b_PF_end 7 = .ok (.putfield 36, 3) := by decide +kernel
theorem d_PF_end_10 : decode b_PF_end 10 = .ok (.return_, 1) := by decide +kernel
theorem d_PF_hasReference_0 : decode b_PF_hasReference 0 = .ok (.aload_n 0, 1) := by decide +kernel
theorem d_PF_hasReference_1 : decode b_PF_hasReference 1 = .ok (.iload_n 1, 1) := by decide +kernel
theorem d_PF_hasReference_2 : decode b_PF_hasReference 2 = .ok (.invokevirtual 54, 3) := by decide +kernel
theorem d_PF_hasReference_5 : decode b_PF_hasReference 5 = .ok (.ifCond .eq 49, 3) := by decide +kernel
theorem d_PF_hasReference_8 : decode b_PF_hasReference 8 = .ok (.aload_n 0, 1) := by decide +kernel
theorem d_PF_hasReference_9 : decode b_PF_hasReference 9 = .ok (.getfield 9, 3) := by decide +kernel
theorem d_PF_hasReference_12 : decode b_PF_hasReference 12 = .ok (.iload_n 1, 1) := by decide +kernel
theorem d_PF_hasReference_13 : decode b_PF_hasReference 13 = .ok (.laload, 1) := by decide +kernel
theorem d_PF_hasReference_14 : decode b_PF_hasReference 14 = .ok (.lconst 0, 1) := by decide +kernel
theorem d_PF_hasReference_15 : decode b_PF_hasReference 15 = .ok (.lcmp, 1) := by decide +kernel
theorem d_PF_hasReference_16 : decode b_PF_hasReference 16 = .ok (.ifCond .lt 38, 3) := by decide +kernel
theorem d_PF_hasReference_19 : decode b_PF_hasReference 19 = .ok (.aload_n 0, 1) := by decide +kernel
theorem d_PF_hasReference_20 : decode b_PF_hasReference 20 = .ok (.getfield 9, 3) := by decide +kernel
theorem d_PF_hasReference_23 : decode b_PF_hasReference 23 = .ok (.iload_n 1, 1) := by decide +kernel
theorem d_PF_hasReference_24 : decode b_PF_hasReference 24 = .ok (.laload, 1) := by decide +kernel
theorem d_PF_hasReference_25 : decode b_PF_hasReference 25 = .ok (.ldc2_w 58, 3) := by decide +kernel
theorem d_PF_hasReference_28 : decode b_PF_hasReference 28 = .ok (.lcmp, 1) := by decide +kernel
theorem d_PF_hasReference_29 : decode b_PF_hasReference 29 = .ok (.ifCond .gt 25, 3) := by decide +kernel
theorem d_PF_hasReference_32 : decode b_PF_hasReference 32 = .ok (.iload_n 1, 1) := by decide +kernel
theorem d_PF_hasReference_33 : decode b_PF_hasReference 33 = .ok (.i2l, 1) := by decide +kernel
theorem d_PF_hasReference_34 : decode b_PF_hasReference 34 = .ok (.aload_n 0, 1) := by decide +kernel
theorem d_PF_hasReference_35 : decode b_PF_hasReference 35 = .ok (.getfield 9, 3) := by decide +kernel
theorem d_PF_hasReference_38 : decode b_PF_hasReference 38 = .ok (.iload_n 1, 1) := by decide +kernel
theorem d_PF_hasReference_39 : decode b_PF_hasReference 39 = .ok (.laload, 1) := by decide +kernel
theorem d_PF_hasReference_40 : decode b_PF_hasReference 40 = .ok (.ladd, 1) := by decide +kernel
theorem d_PF_hasReference_41 : decode b_PF_hasReference 41 = .ok (.aload_n 0, 1) := by decide +kernel
theorem d_PF_hasReference_42 : decode b_PF_hasReference 42 = .ok (.getfield 15, 3) := by decide +kernel
theorem d_PF_hasReference_45 : decode b_PF_hasReference 45 = .ok (.i2l, 1) := by decide +kernel
theorem d_PF_hasReference_46 : decode b_PF_hasReference 46 = .ok (.lcmp, 1) := by decide +kernel
theorem d_PF_hasReference_47 : decode b_PF_hasReference 47 = .ok (.ifCond .ge 7, 3) := by decide +kernel
theorem d_PF_hasReference_50 : decode b_PF_hasReference 50 = .ok (.iconst 1, 1) := by decide +kernel
theorem d_PF_hasReference_51 : decode b_PF_hasReference 51 = .ok (.goto 4, 3) := by decide +kernel
theorem d_PF_hasReference_54 : decode b_PF_hasReference 54 = .ok (.iconst 0, 1) := by decide +kernel
theorem d_PF_hasReference_55 : decode b_PF_hasReference 55 = .ok (.ireturn, 1) := by decide +kernel
theorem d_PF_takeTopReference_0 : decode b_PF_takeTopReference 0 = .ok (.aload_n 0, 1) := by decide +kernel
theorem d_PF_takeTopReference_1 : decode b_PF_takeTopReference 1 = .ok (.iconst 0, 1) := by decide +kernel
theorem d_PF_takeTopReference_2 : decode b_PF_takeTopReference 2 = .ok (.invokevirtual 60, 3) := by decide +kernel
theorem d_PF_takeTopReference_5 : decode b_PF_takeTopReference 5 = .ok (.ifCond .ne 9, 3) := by decide +kernel
theorem d_PF_takeTopReference_8 : decode b_PF_takeTopReference 8 = .ok (.aload_n 0, 1) := by decide +kernel
theorem d_PF_takeTopReference_9 : decode b_PF_takeTopReference 9 = .ok (.iconst 2, 1) := by decide +kernel
theorem d_PF_takeTopReference_10 : decode b_PF_takeTopReference 10 = .ok (.putfield 19, 3) := by decide +kernel
theorem d_PF_takeTopReference_13 : decode b_PF_takeTopReference 13 = .ok (.return_, 1) := by decide +kernel
theorem d_PF_takeTopReference_14 : decode b_PF_takeTopReference 14 = .ok (.aload_n 0, 1) := by decide +kernel
theorem d_PF_takeTopReference_15 : decode b_PF_takeTopReference 15 = .ok (.iconst 1, 1) := by decide +kernel
theorem d_PF_takeTopReference_16 : decode b_PF_takeTopReference 16 = .ok (.putfield 30, 3) := by decide +kernel
theorem d_PF_takeTopReference_19 : decode b_PF_takeTopReference 19 = .ok (.aload_n 0, 1) := by decide +kernel
theorem d_PF_takeTopReference_20 : decode b_PF_takeTopReference 20 = .ok (.aload_n 0, 1) := by decide +kernel
theorem d_PF_takeTopReference_21 : decode b_PF_takeTopReference 21 = .ok (.getfield 9, 3) := by decide +kernel
theorem d_PF_takeTopReference_24 : decode b_PF_takeTopReference 24 = .ok (.iconst 0, 1) := by decide +kernel
theorem d_PF_takeTopReference_25 : decode b_PF_takeTopReference 25 = .ok (.laload, 1) := by decide +kernel
theorem d_PF_takeTopReference_26 : decode b_PF_takeTopReference 26 = .ok (.l2i, 1) := by decide +kernel
theorem d_PF_takeTopReference_27 : decode b_PF_takeTopReference 27 = .ok (.putfield 33, 3) := by decide +kernel
theorem d_PF_takeTopReference_30 : decode b_PF_takeTopReference 30 = .ok (.aload_n 0, 1) := by decide +kernel
theorem d_PF_takeTopReference_31 : decode b_PF_takeTopReference 31 = .ok (.iconst 1, 1) := by decide +kernel
theorem d_PF_takeTopReference_32 : decode b_PF_takeTopReference 32 = .ok (.aload_n 0, 1) := by decide +kernel
theorem d_PF_takeTopReference_33 : decode b_PF_takeTopReference 33 = .ok (.getfield 33, 3) := by decide +kernel
theorem d_PF_takeTopReference_36 : decode b_PF_takeTopReference 36 = .ok (.iadd, 1) := by decide +kernel
theorem d_PF_takeTopReference_37 : decode b_PF_takeTopReference 37 = .ok (.putfield 22, 3) := by decide +kernel
theorem d_PF_takeTopReference_40 : decode b_PF_takeTopReference 40 = .ok (.aload_n 0, 1) := by decide +kernel
theorem d_PF_takeTopReference_41 : decode b_PF_takeTopReference 41 = .ok (.getfield 9, 3) := by decide +kernel
theorem d_PF_takeTopReference_44 : decode b_PF_takeTopReference 44 = .ok (.iconst 1, 1) := by decide +kernel
theorem d_PF_takeTopReference_45 : decode b_PF_takeTopReference 45 = .ok (.aload_n 0, 1) := by decide +kernel
theorem d_PF_takeTopReference_46 : decode b_PF_takeTopReference 46 = .ok (.getfield 33, 3) := by decide +kernel
theorem d_PF_takeTopReference_49 : decode b_PF_takeTopReference 49 = .ok (.invokestatic 63, 3) := by decide +kernel
theorem d_PF_takeTopReference_52 : decode b_PF_takeTopReference 52 = .ok (.lload_n 1, 1) := by decide +kernel
theorem d_PF_takeTopReference_53 : decode b_PF_takeTopReference 53 = .ok (.lcmp, 1) := by decide +kernel
theorem d_PF_takeTopReference_54 : decode b_PF_takeTopReference 54 = .ok (.ifCond .eq 8, 3) := by decide +kernel
theorem d_PF_takeTopReference_57 : decode b_PF_takeTopReference 57 = .ok (.aload_n 0, 1) := by decide +kernel
theorem d_PF_takeTopReference_58 : decode b_PF_takeTopReference 58 = .ok (.iconst 2, 1) := by decide +kernel
theorem d_PF_takeTopReference_59 : decode b_PF_takeTopReference 59 = .ok (.putfield 19, 3) := by decide +kernel
theorem d_PF_takeTopReference_62 : decode b_PF_takeTopReference 62 = .ok (.return_, 1) := by decide +kernel
theorem d_PF_followPair_0 : decode b_PF_followPair 0 = .ok (.lload_n 1, 1) := by decide +kernel
theorem d_PF_followPair_1 : decode b_PF_followPair 1 = .ok (.iconst 1, 1) := by decide +kernel
theorem d_PF_followPair_2 : decode b_PF_followPair 2 = .ok (.lshr, 1) := by decide +kernel
theorem d_PF_followPair_3 : decode b_PF_followPair 3 = .ok (.lstore 5, 2) := by decide +kernel
theorem d_PF_followPair_5 : decode b_PF_followPair 5 = .ok (.lload_n 1, 1) := by decide +kernel
theorem d_PF_followPair_6 : decode b_PF_followPair 6 = .ok (.lconst 1, 1) := by decide +kernel
theorem d_PF_followPair_7 : decode b_PF_followPair 7 = .ok (.land, 1) := by decide +kernel
theorem d_PF_followPair_8 : decode b_PF_followPair 8 = .ok (.lconst 1, 1) := by decide +kernel
theorem d_PF_followPair_9 : decode b_PF_followPair 9 = .ok (.lcmp, 1) := by decide +kernel
theorem d_PF_followPair_10 : decode b_PF_followPair 10 = .ok (.ifCond .ne 7, 3) := by decide +kernel
theorem d_PF_followPair_13 : decode b_PF_followPair 13 = .ok (.iconst 1, 1) := by decide +kernel
theorem d_PF_followPair_14 : decode b_PF_followPair 14 = .ok (.goto 4, 3) := by decide +kernel
theorem d_PF_followPair_17 : decode b_PF_followPair 17 = .ok (.iconst 0, 1) := by decide +kernel
theorem d_PF_followPair_18 : decode b_PF_followPair 18 = .ok (.istore 7, 2) := by decide +kernel
theorem d_PF_followPair_20 : decode b_PF_followPair 20 = .ok (.lload 5, 2) := by decide +kernel
theorem d_PF_followPair_22 : decode b_PF_followPair 22 = .ok (.invokestatic 67, 3) := by decide +kernel
theorem d_PF_followPair_25 : decode b_PF_followPair 25 = .ok (.ifCond .eq 15, 3) := by decide +kernel
theorem d_PF_followPair_28 : decode b_PF_followPair 28 = .ok (.iload 7, 2) := by decide +kernel
theorem d_PF_followPair_30 : decode b_PF_followPair 30 = .ok (.ifCond .ne 16, 3) := by decide +kernel
theorem d_PF_followPair_33 : decode b_PF_followPair 33 = .ok (.lload 5, 2) := by decide +kernel
theorem d_PF_followPair_35 : decode b_PF_followPair 35 = .ok (.lconst 1, 1) := by decide +kernel
theorem d_PF_followPair_36 : decode b_PF_followPair 36 = .ok (.lcmp, 1) := by decide +kernel
theorem d_PF_followPair_37 : decode b_PF_followPair 37 = .ok (.ifCond .ne 9, 3) := by decide +kernel
theorem d_PF_followPair_40 : decode b_PF_followPair 40 = .ok (.aload_n 0, 1) := by decide +kernel
theorem d_PF_followPair_41 : decode b_PF_followPair 41 = .ok (.iconst 2, 1) := by decide +kernel
theorem d_PF_followPair_42 : decode b_PF_followPair 42 = .ok (.putfield 19, 3) := by decide +kernel
theorem d_PF_followPair_45 : decode b_PF_followPair 45 = .ok (.return_, 1) := by decide +kernel
theorem d_PF_followPair_46 : decode b_PF_followPair 46 = .ok (.lload 5, 2) := by decide +kernel
theorem d_PF_followPair_48 : decode b_PF_followPair 48 = .ok (.l2i, 1) := by decide +kernel
theorem d_PF_followPair_49 : decode b_PF_followPair 49 = .ok (.istore 8, 2) := by decide +kernel
theorem d_PF_followPair_51 : decode b_PF_followPair 51 = .ok (.iload 7, 2) := by decide +kernel
theorem d_PF_followPair_53 : decode b_PF_followPair 53 = .ok (.ifCond .eq 24, 3) := by decide +kernel
theorem d_PF_followPair_56 : decode b_PF_followPair 56 = .ok (.aload_n 0, 1) := by decide +kernel
theorem d_PF_followPair_57 : decode b_PF_followPair 57 = .ok (.aload_n 0, 1) := by decide +kernel
theorem d_PF_followPair_58 : decode b_PF_followPair 58 = .ok (.getfield 27, 3) := by decide +kernel
theorem d_PF_followPair_61 : decode b_PF_followPair 61 = .ok (.iload 8, 2) := by decide +kernel
theorem d_PF_followPair_63 : decode b_PF_followPair 63 = .ok (.if_icmp .ne 7, 3) := by decide +kernel
theorem d_PF_followPair_66 : decode b_PF_followPair 66 = .ok (.lload_n 3, 1) := by decide +kernel
theorem d_PF_followPair_67 : decode b_PF_followPair 67 = .ok (.goto 4, 3) := by decide +kernel
theorem d_PF_followPair_70 : decode b_PF_followPair 70 = .ok (.lconst 0, 1) := by decide +kernel
theorem d_PF_followPair_71 : decode b_PF_followPair 71 = .ok (.invokevirtual 44, 3) := by decide +kernel
theorem d_PF_followPair_74 : decode b_PF_followPair 74 = .ok (.goto 54, 3) := by decide +kernel
theorem d_PF_followPair_77 : decode b_PF_followPair 77 = .ok (.aload_n 0, 1) := by decide +kernel
theorem d_PF_followPair_78 : decode b_PF_followPair 78 = .ok (.getfield 27, 3) := by decide +kernel
theorem d_PF_followPair_81 : decode b_PF_followPair 81 = .ok (.iload 8, 2) := by decide +kernel
theorem d_PF_followPair_83 : decode b_PF_followPair 83 = .ok (.invokestatic 71, 3) := by decide +kernel
theorem d_PF_followPair_86 : decode b_PF_followPair 86 = .ok (.ifCond .ne 11, 3) := by decide +kernel
theorem d_PF_followPair_89 : decode b_PF_followPair 89 = .ok (.aload_n 0, 1) := by decide +kernel
theorem d_PF_followPair_90 : decode b_PF_followPair 90 = .ok (.lconst 0, 1) := by decide +kernel
theorem d_PF_followPair_91 : decode b_PF_followPair 91 = .ok (.invokevirtual 44, 3) := by decide +kernel
theorem d_PF_followPair_94 : decode b_PF_followPair 94 = .ok (.goto 34, 3) := by decide +kernel
theorem d_PF_followPair_97 : decode b_PF_followPair 97 = .ok (.aload_n 0, 1) := by decide +kernel
theorem d_PF_followPair_98 : decode b_PF_followPair 98 = .ok (.aload_n 0, 1) := by decide +kernel
theorem d_PF_followPair_99 : decode b_PF_followPair 99 = .ok (.getfield 27, 3) := by decide +kernel
theorem d_PF_followPair_102 : decode b_PF_followPair 102 = .ok (.iload 8, 2) := by decide +kernel
theorem d_PF_followPair_104 : decode b_PF_followPair 104 = .ok (.invokestatic 75, 3) := by decide +kernel
theorem d_PF_followPair_107 : decode b_PF_followPair 107 = .ok (.invokestatic 78, 3) := by decide +kernel
theorem d_PF_followPair_110 : decode b_PF_followPair 110 = .ok (.putfield 27, 3) := by decide +kernel
theorem d_PF_followPair_113 : decode b_PF_followPair 113 = .ok (.aload_n 0, 1) := by decide +kernel
theorem d_PF_followPair_114 : decode b_PF_followPair 114 = .ok (.dup, 1) := by decide +kernel
theorem d_PF_followPair_115 : decode b_PF_followPair 115 = .ok (.getfield 30, 3) := by decide +kernel
theorem d_PF_followPair_118 : decode b_PF_followPair 118 = .ok (.iconst 1, 1) := by decide +kernel
theorem d_PF_followPair_119 : decode b_PF_followPair 119 = .ok (.iadd, 1) := by decide +kernel
theorem d_PF_followPair_120 : decode b_PF_followPair 120 = .ok (.putfield 30, 3) := by decide +kernel
theorem d_PF_followPair_123 : decode b_PF_followPair 123 = .ok (.aload_n 0, 1) := by decide +kernel
theorem d_PF_followPair_124 : decode b_PF_followPair 124 = .ok (.iconst 1, 1) := by decide +kernel
theorem d_PF_followPair_125 : decode b_PF_followPair 125 = .ok (.putfield 33, 3) := by decide +kernel
theorem d_PF_followPair_128 : decode b_PF_followPair 128 = .ok (.return_, 1) := by decide +kernel
theorem d_PF_followDigest_0 : decode b_PF_followDigest 0 = .ok (.aload_n 0, 1) := by decide +kernel
theorem d_PF_followDigest_1 : decode b_PF_followDigest 1 = .ok (.getfield 22, 3) := by decide +kernel
theorem d_PF_followDigest_4 : decode b_PF_followDigest 4 = .ok (.istore_n 3, 1) := by decide +kernel
theorem d_PF_followDigest_5 : decode b_PF_followDigest 5 = .ok (.aload_n 0, 1) := by decide +kernel
theorem d_PF_followDigest_6 : decode b_PF_followDigest 6 = .ok (.getfield 27, 3) := by decide +kernel
theorem d_PF_followDigest_9 : decode b_PF_followDigest 9 = .ok (.iconst 1, 1) := by decide +kernel
theorem d_PF_followDigest_10 : decode b_PF_followDigest 10 = .ok (.if_icmp .ne 7, 3) := by decide +kernel
theorem d_PF_followDigest_13 : decode b_PF_followDigest 13 = .ok (.iconst (-1), 1) := by decide +kernel
theorem d_PF_followDigest_14 : decode b_PF_followDigest 14 = .ok (.goto 11, 3) := by decide +kernel
theorem d_PF_followDigest_17 : decode b_PF_followDigest 17 = .ok (.aload_n 0, 1) := by decide +kernel
theorem d_PF_followDigest_18 : decode b_PF_followDigest 18 = .ok (.getfield 27, 3) := by decide +kernel
theorem d_PF_followDigest_21 : decode b_PF_followDigest 21 = .ok (.iconst 0, 1) := by decide +kernel
theorem d_PF_followDigest_22 : decode b_PF_followDigest 22 = .ok (.invokestatic 82, 3) := by decide +kernel
theorem d_PF_followDigest_25 : decode b_PF_followDigest 25 = .ok (.istore 4, 2) := by decide +kernel
theorem d_PF_followDigest_27 : decode b_PF_followDigest 27 = .ok (.iload_n 3, 1) := by decide +kernel
theorem d_PF_followDigest_28 : decode b_PF_followDigest 28 = .ok (.istore 5, 2) := by decide +kernel
theorem d_PF_followDigest_30 : decode b_PF_followDigest 30 = .ok (.iconst 0, 1) := by decide +kernel
theorem d_PF_followDigest_31 : decode b_PF_followDigest 31 = .ok (.istore 6, 2) := by decide +kernel
theorem d_PF_followDigest_33 : decode b_PF_followDigest 33 = .ok (.iload 6, 2) := by decide +kernel
theorem d_PF_followDigest_35 : decode b_PF_followDigest 35 = .ok (.bipush 16, 2) := by decide +kernel
theorem d_PF_followDigest_37 : decode b_PF_followDigest 37 = .ok (.if_icmp .ge 66, 3) := by decide +kernel
theorem d_PF_followDigest_40 : decode b_PF_followDigest 40 = .ok (.aload_n 0, 1) := by decide +kernel
theorem d_PF_followDigest_41 : decode b_PF_followDigest 41 = .ok (.iload 5, 2) := by decide +kernel
theorem d_PF_followDigest_43 : decode b_PF_followDigest 43 = .ok (.invokevirtual 60, 3) := by decide +kernel
theorem d_PF_followDigest_46 : decode b_PF_followDigest 46 = .ok (.ifCond .ne 9, 3) := by decide +kernel
theorem d_PF_followDigest_49 : decode b_PF_followDigest 49 = .ok (.aload_n 0, 1) := by decide +kernel
theorem d_PF_followDigest_50 : decode b_PF_followDigest 50 = .ok (.iconst 2, 1) := by decide +kernel
theorem d_PF_followDigest_51 : decode b_PF_followDigest 51 = .ok (.putfield 19, 3) := by decide +kernel
theorem d_PF_followDigest_54 : decode b_PF_followDigest 54 = .ok (.return_, 1) := by decide +kernel
theorem d_PF_followDigest_55 : decode b_PF_followDigest 55 = .ok (.iload 6, 2) := by decide +kernel
theorem d_PF_followDigest_57 : decode b_PF_followDigest 57 = .ok (.iload 4, 2) := by decide +kernel
theorem d_PF_followDigest_59 : decode b_PF_followDigest 59 = .ok (.if_icmp .ne 23, 3) := by decide +kernel
theorem d_PF_followDigest_62 : decode b_PF_followDigest 62 = .ok (.aload_n 0, 1) := by decide +kernel
theorem d_PF_followDigest_63 : decode b_PF_followDigest 63 = .ok (.iload 5, 2) := by decide +kernel
theorem d_PF_followDigest_65 : decode b_PF_followDigest 65 = .ok (.iconst 1, 1) := by decide +kernel
theorem d_PF_followDigest_66 : decode b_PF_followDigest 66 = .ok (.iadd, 1) := by decide +kernel
theorem d_PF_followDigest_67 : decode b_PF_followDigest 67 = .ok (.putfield 30, 3) := by decide +kernel
theorem d_PF_followDigest_70 : decode b_PF_followDigest 70 = .ok (.aload_n 0, 1) := by decide +kernel
theorem d_PF_followDigest_71 : decode b_PF_followDigest 71 = .ok (.aload_n 0, 1) := by decide +kernel
theorem d_PF_followDigest_72 : decode b_PF_followDigest 72 = .ok (.getfield 9, 3) := by decide +kernel
theorem d_PF_followDigest_75 : decode b_PF_followDigest 75 = .ok (.iload 5, 2) := by decide +kernel
theorem d_PF_followDigest_77 : decode b_PF_followDigest 77 = .ok (.laload, 1) := by decide +kernel
theorem d_PF_followDigest_78 : decode b_PF_followDigest 78 = .ok (.l2i, 1) := by decide +kernel
theorem d_PF_followDigest_79 : decode b_PF_followDigest 79 = .ok (.putfield 33, 3) := by decide +kernel
theorem d_PF_followDigest_82 : decode b_PF_followDigest 82 = .ok (.iload 5, 2) := by decide +kernel
theorem d_PF_followDigest_84 : decode b_PF_followDigest 84 = .ok (.iconst 1, 1) := by decide +kernel
theorem d_PF_followDigest_85 : decode b_PF_followDigest 85 = .ok (.aload_n 0, 1) := by decide +kernel
theorem d_PF_followDigest_86 : decode b_PF_followDigest 86 = .ok (.getfield 9, 3) := by decide +kernel
theorem d_PF_followDigest_89 : decode b_PF_followDigest 89 = .ok (.iload 5, 2) := by decide +kernel
theorem d_PF_followDigest_91 : decode b_PF_followDigest 91 = .ok (.laload, 1) := by decide +kernel
theorem d_PF_followDigest_92 : decode b_PF_followDigest 92 = .ok (.l2i, 1) := by decide +kernel
theorem d_PF_followDigest_93 : decode b_PF_followDigest 93 = .ok (.iadd, 1) := by decide +kernel
theorem d_PF_followDigest_94 : decode b_PF_followDigest 94 = .ok (.iadd, 1) := by decide +kernel
theorem d_PF_followDigest_95 : decode b_PF_followDigest 95 = .ok (.istore 5, 2) := by decide +kernel
theorem d_PF_followDigest_97 : decode b_PF_followDigest 97 = .ok (.iinc 6 1, 3) := by decide +kernel
theorem d_PF_followDigest_100 : decode b_PF_followDigest 100 = .ok (.goto (-67), 3) := by decide +kernel
theorem d_PF_followDigest_103 : decode b_PF_followDigest 103 = .ok (.aload_n 0, 1) := by decide +kernel
theorem d_PF_followDigest_104 : decode b_PF_followDigest 104 = .ok (.iload 5, 2) := by decide +kernel
theorem d_PF_followDigest_106 : decode b_PF_followDigest 106 = .ok (.invokevirtual 54, 3) := by decide +kernel
theorem d_PF_followDigest_109 : decode b_PF_followDigest 109 = .ok (.ifCond .eq 22, 3) := by decide +kernel
theorem d_PF_followDigest_112 : decode b_PF_followDigest 112 = .ok (.aload_n 0, 1) := by decide +kernel
theorem d_PF_followDigest_113 : decode b_PF_followDigest 113 = .ok (.getfield 9, 3) := by decide +kernel
theorem d_PF_followDigest_116 : decode b_PF_followDigest 116 = .ok (.iload_n 3, 1) := by decide +kernel
theorem d_PF_followDigest_117 : decode b_PF_followDigest 117 = .ok (.iload 5, 2) := by decide +kernel
theorem d_PF_followDigest_119 : decode b_PF_followDigest 119 = .ok (.iconst 1, 1) := by decide +kernel
theorem d_PF_followDigest_120 : decode b_PF_followDigest 120 = .ok (.iadd, 1) := by decide +kernel
theorem d_PF_followDigest_121 : decode b_PF_followDigest 121 = .ok (.iload_n 3, 1) := by decide +kernel
theorem d_PF_followDigest_122 : decode b_PF_followDigest 122 = .ok (.isub, 1) := by decide +kernel
theorem d_PF_followDigest_123 : decode b_PF_followDigest 123 = .ok (.invokestatic 63, 3) := by decide +kernel
theorem d_PF_followDigest_126 : decode b_PF_followDigest 126 = .ok (.lload_n 1, 1) := by decide +kernel
theorem d_PF_followDigest_127 : decode b_PF_followDigest 127 = .ok (.lcmp, 1) := by decide +kernel
theorem d_PF_followDigest_128 : decode b_PF_followDigest 128 = .ok (.ifCond .eq 9, 3) := by decide +kernel
theorem d_PF_followDigest_131 : decode b_PF_followDigest 131 = .ok (.aload_n 0, 1) := by decide +kernel
theorem d_PF_followDigest_132 : decode b_PF_followDigest 132 = .ok (.iconst 2, 1) := by decide +kernel
theorem d_PF_followDigest_133 : decode b_PF_followDigest 133 = .ok (.putfield 19, 3) := by decide +kernel
theorem d_PF_followDigest_136 : decode b_PF_followDigest 136 = .ok (.return_, 1) := by decide +kernel
theorem d_PF_followDigest_137 : decode b_PF_followDigest 137 = .ok (.aload_n 0, 1) := by decide +kernel
theorem d_PF_followDigest_138 : decode b_PF_followDigest 138 = .ok (.iload 5, 2) := by decide +kernel
theorem d_PF_followDigest_140 : decode b_PF_followDigest 140 = .ok (.iconst 1, 1) := by decide +kernel
theorem d_PF_followDigest_141 : decode b_PF_followDigest 141 = .ok (.iadd, 1) := by decide +kernel
theorem d_PF_followDigest_142 : decode b_PF_followDigest 142 = .ok (.putfield 22, 3) := by decide +kernel
theorem d_PF_followDigest_145 : decode b_PF_followDigest 145 = .ok (.iload 4, 2) := by decide +kernel
theorem d_PF_followDigest_147 : decode b_PF_followDigest 147 = .ok (.iconst (-1), 1) := by decide +kernel
theorem d_PF_followDigest_148 : decode b_PF_followDigest 148 = .ok (.if_icmp .ne 17, 3) := by decide +kernel
theorem d_PF_followDigest_151 : decode b_PF_followDigest 151 = .ok (.aload_n 0, 1) := by decide +kernel
theorem d_PF_followDigest_152 : decode b_PF_followDigest 152 = .ok (.aload_n 0, 1) := by decide +kernel
theorem d_PF_followDigest_153 : decode b_PF_followDigest 153 = .ok (.getfield 9, 3) := by decide +kernel
theorem d_PF_followDigest_156 : decode b_PF_followDigest 156 = .ok (.iload 5, 2) := by decide +kernel
theorem d_PF_followDigest_158 : decode b_PF_followDigest 158 = .ok (.laload, 1) := by decide +kernel
theorem d_PF_followDigest_159 : decode b_PF_followDigest 159 = .ok (.invokevirtual 44, 3) := by decide +kernel
theorem d_PF_followDigest_162 : decode b_PF_followDigest 162 = .ok (.goto 15, 3) := by decide +kernel
theorem d_PF_followDigest_165 : decode b_PF_followDigest 165 = .ok (.aload_n 0, 1) := by decide +kernel
theorem d_PF_followDigest_166 : decode b_PF_followDigest 166 = .ok (.aload_n 0, 1) := by decide +kernel
theorem d_PF_followDigest_167 : decode b_PF_followDigest 167 = .ok (.getfield 27, 3) := by decide +kernel
theorem d_PF_followDigest_170 : decode b_PF_followDigest 170 = .ok (.iconst 1, 1) := by decide +kernel
theorem d_PF_followDigest_171 : decode b_PF_followDigest 171 = .ok (.invokestatic 78, 3) := by decide +kernel
theorem d_PF_followDigest_174 : decode b_PF_followDigest 174 = .ok (.putfield 27, 3) := by decide +kernel
theorem d_PF_followDigest_177 : decode b_PF_followDigest 177 = .ok (.return_, 1) := by decide +kernel
theorem d_TR_change_0 : decode b_TR_change 0 = .ok (.aload_n 0, 1) := by decide +kernel
theorem d_TR_change_1 : decode b_TR_change 1 = .ok (.getfield 12, 3) := by decide +kernel
theorem d_TR_change_4 : decode b_TR_change 4 = .ok (.iload_n 1, 1) := by decide +kernel
theorem d_TR_change_5 : decode b_TR_change 5 = .ok (.invokevirtual 50, 3) := by decide +kernel
theorem d_TR_change_8 : decode b_TR_change 8 = .ok (.istore_n 3, 1) := by decide +kernel
theorem d_TR_change_9 : decode b_TR_change 9 = .ok (.iload_n 3, 1) := by decide +kernel
theorem d_TR_change_10 : decode b_TR_change 10 = .ok (.iconst (-1), 1) := by decide +kernel
theorem d_TR_change_11 : decode b_TR_change 11 = .ok (.if_icmp .ne 22, 3) := by decide +kernel
theorem d_TR_change_14 : decode b_TR_change 14 = .ok (.iload_n 2, 1) := by decide +kernel
theorem d_TR_change_15 : decode b_TR_change 15 = .ok (.ifCond .eq 16, 3) := by decide +kernel
theorem d_TR_change_18 : decode b_TR_change 18 = .ok (.aload_n 0, 1) := by decide +kernel
theorem d_TR_change_19 : decode b_TR_change 19 = .ok (.getfield 12, 3) := by decide +kernel
theorem d_TR_change_22 : decode b_TR_change 22 = .ok (.iload_n 1, 1) := by decide +kernel
theorem d_TR_change_23 : decode b_TR_change 23 = .ok (.iload_n 2, 1) := by decide +kernel
theorem d_TR_change_24 : decode b_TR_change 24 = .ok (.invokevirtual 54, 3) := by decide +kernel
theorem d_TR_change_27 : decode b_TR_change 27 = .ok (.aload_n 0, 1) := by decide +kernel
theorem d_TR_change_28 : decode b_TR_change 28 = .ok (.invokevirtual 58, 3) := by decide +kernel
theorem d_TR_change_31 : decode b_TR_change 31 = .ok (.iconst 0, 1) := by decide +kernel
theorem d_TR_change_32 : decode b_TR_change 32 = .ok (.ireturn, 1) := by decide +kernel
theorem d_TR_change_33 : decode b_TR_change 33 = .ok (.aload_n 0, 1) := by decide +kernel
theorem d_TR_change_34 : decode b_TR_change 34 = .ok (.getfield 12, 3) := by decide +kernel
theorem d_TR_change_37 : decode b_TR_change 37 = .ok (.getfield 61, 3) := by decide +kernel
theorem d_TR_change_40 : decode b_TR_change 40 = .ok (.iload_n 3, 1) := by decide +kernel
theorem d_TR_change_41 : decode b_TR_change 41 = .ok (.iaload, 1) := by decide +kernel
theorem d_TR_change_42 : decode b_TR_change 42 = .ok (.istore 4, 2) := by decide +kernel
theorem d_TR_change_44 : decode b_TR_change 44 = .ok (.iload_n 2, 1) := by decide +kernel
theorem d_TR_change_45 : decode b_TR_change 45 = .ok (.ifCond .ne 18, 3) := by decide +kernel
theorem d_TR_change_48 : decode b_TR_change 48 = .ok (.aload_n 0, 1) := by decide +kernel
theorem d_TR_change_49 : decode b_TR_change 49 = .ok (.getfield 12, 3) := by decide +kernel
theorem d_TR_change_52 : decode b_TR_change 52 = .ok (.iload_n 3, 1) := by decide +kernel
theorem d_TR_change_53 : decode b_TR_change 53 = .ok (.invokevirtual 64, 3) := by decide +kernel
theorem d_TR_change_56 : decode b_TR_change 56 = .ok (.aload_n 0, 1) := by decide +kernel
theorem d_TR_change_57 : decode b_TR_change 57 = .ok (.invokevirtual 58, 3) := by decide +kernel
theorem d_TR_change_60 : decode b_TR_change 60 = .ok (.goto 13, 3) := by decide +kernel
theorem d_TR_change_63 : decode b_TR_change 63 = .ok (.aload_n 0, 1) := by decide +kernel
theorem d_TR_change_64 : decode b_TR_change 64 = .ok (.getfield 12, 3) := by decide +kernel
theorem d_TR_change_67 : decode b_TR_change 67 = .ok (.getfield 61, 3) := by decide +kernel
theorem d_TR_change_70 : decode b_TR_change 70 = .ok (.iload_n 3, 1) := by decide +kernel
theorem d_TR_change_71 : decode b_TR_change 71 = .ok (.iload_n 2, 1) := by decide +kernel
theorem d_TR_change_72 : decode b_TR_change 72 = .ok (.iastore, 1) := by decide +kernel
theorem d_TR_change_73 : decode b_TR_change 73 = .ok (.iload 4, 2) := by decide +kernel
theorem d_TR_change_75 : decode b_TR_change 75 = .ok (.ireturn, 1) := by decide +kernel
theorem d_TR_becomeLike_0 : decode b_TR_becomeLike 0 = .ok (.aload_n 0, 1) := by decide +kernel
theorem d_TR_becomeLike_1 : decode b_TR_becomeLike 1 = .ok (.getfield 12, 3) := by decide +kernel
theorem d_TR_becomeLike_4 : decode b_TR_becomeLike 4 = .ok (.aload_n 1, 1) := by decide +kernel
theorem d_TR_becomeLike_5 : decode b_TR_becomeLike 5 = .ok (.getfield 12, 3) := by decide +kernel
theorem d_TR_becomeLike_8 : decode b_TR_becomeLike 8 = .ok (.invokevirtual 68, 3) := by decide +kernel
theorem d_TR_becomeLike_11 : decode b_TR_becomeLike 11 = .ok (.aload_n 0, 1) := by decide +kernel
theorem d_TR_becomeLike_12 : decode b_TR_becomeLike 12 = .ok (.aload_n 1, 1) := by decide +kernel
theorem d_TR_becomeLike_13 : decode b_TR_becomeLike 13 = .ok (.getfield 18, 3) := by decide +kernel
theorem d_TR_becomeLike_16 : decode b_TR_becomeLike 16 = .ok (.putfield 18, 3) := by decide +kernel
theorem d_TR_becomeLike_19 : decode b_TR_becomeLike 19 = .ok (.aload_n 0, 1) := by decide +kernel
theorem d_TR_becomeLike_20 : decode b_TR_becomeLike 20 = .ok (.aload_n 1, 1) := by decide +kernel
theorem d_TR_becomeLike_21 : decode b_TR_becomeLike 21 = .ok (.getfield 22, 3) := by decide +kernel
theorem d_TR_becomeLike_24 : decode b_TR_becomeLike 24 = .ok (.putfield 22, 3) := by decide +kernel
theorem d_TR_becomeLike_27 : decode b_TR_becomeLike 27 = .ok (.aload_n 0, 1) := by decide +kernel
theorem d_TR_becomeLike_28 : decode b_TR_becomeLike 28 = .ok (.aload_n 1, 1) := by decide +kernel
theorem d_TR_becomeLike_29 : decode b_TR_becomeLike 29 = .ok (.getfield 25, 3) := by decide +kernel
theorem d_TR_becomeLike_32 : decode b_TR_becomeLike 32 = .ok (.putfield 25, 3) := by decide +kernel
theorem d_TR_becomeLike_35 : decode b_TR_becomeLike 35 = .ok (.aload_n 1, 1) := by decide +kernel
theorem d_TR_becomeLike_36 : decode b_TR_becomeLike 36 = .ok (.getfield 28, 3) := by decide +kernel
theorem d_TR_becomeLike_39 : decode b_TR_becomeLike 39 = .ok (.iconst 0, 1) := by decide +kernel
theorem d_TR_becomeLike_40 : decode b_TR_becomeLike 40 = .ok (.aload_n 0, 1) := by decide +kernel
theorem d_TR_becomeLike_41 : decode b_TR_becomeLike 41 = .ok (.getfield 28, 3) := by decide +kernel
theorem d_TR_becomeLike_44 : decode b_TR_becomeLike 44 = .ok (.iconst 0, 1) := by decide +kernel
theorem d_TR_becomeLike_45 : decode b_TR_becomeLike 45 = .ok (.aload_n 0, 1) := by decide +kernel
theorem d_TR_becomeLike_46 : decode b_TR_becomeLike 46 = .ok (.getfield 25, 3) := by decide +kernel
theorem d_TR_becomeLike_49 : decode b_TR_becomeLike 49 = .ok (.invokestatic 72, 3) := by decide +kernel
theorem d_TR_becomeLike_52 : decode b_TR_becomeLike 52 = .ok (.aload_n 1, 1) := by decide +kernel
theorem d_TR_becomeLike_53 : decode b_TR_becomeLike 53 = .ok (.getfield 32, 3) := by decide +kernel
theorem d_TR_becomeLike_56 : decode b_TR_becomeLike 56 = .ok (.iconst 0, 1) := by decide +kernel
theorem d_TR_becomeLike_57 : decode b_TR_becomeLike 57 = .ok (.aload_n 0, 1) := by decide +kernel
theorem d_TR_becomeLike_58 : decode b_TR_becomeLike 58 = .ok (.getfield 32, 3) := by decide +kernel
theorem d_TR_becomeLike_61 : decode b_TR_becomeLike 61 = .ok (.iconst 0, 1) := by decide +kernel
theorem d_TR_becomeLike_62 : decode b_TR_becomeLike 62 = .ok (.aload_n 0, 1) := by decide +kernel
theorem d_TR_becomeLike_63 : decode b_TR_becomeLike 63 = .ok (.getfield 25, 3) := by decide +kernel
theorem d_TR_becomeLike_66 : decode b_TR_becomeLike 66 = .ok (.invokestatic 72, 3) := by decide +kernel
theorem d_TR_becomeLike_69 : decode b_TR_becomeLike 69 = .ok (.aload_n 1, 1) := by decide +kernel
theorem d_TR_becomeLike_70 : decode b_TR_becomeLike 70 = .ok (.getfield 35, 3) := by decide +kernel
theorem d_TR_becomeLike_73 : decode b_TR_becomeLike 73 = .ok (.iconst 0, 1) := by decide +kernel
theorem d_TR_becomeLike_74 : decode b_TR_becomeLike 74 = .ok (.aload_n 0, 1) := by decide +kernel
theorem d_TR_becomeLike_75 : decode b_TR_becomeLike 75 = .ok (.getfield 35, 3) := by decide +kernel
theorem d_TR_becomeLike_78 : decode b_TR_becomeLike 78 = .ok (.iconst 0, 1) := by decide +kernel
theorem d_TR_becomeLike_79 : decode b_TR_becomeLike 79 = .ok (.aload_n 0, 1) := by decide +kernel
theorem d_TR_becomeLike_80 : decode b_TR_becomeLike 80 = .ok (.getfield 25, 3) := by decide +kernel
theorem d_TR_becomeLike_83 : decode b_TR_becomeLike 83 = .ok (.invokestatic 72, 3) := by decide +kernel
theorem d_TR_becomeLike_86 : decode b_TR_becomeLike 86 = .ok (.aload_n 1, 1) := by decide +kernel
theorem d_TR_becomeLike_87 : decode b_TR_becomeLike 87 = .ok (.getfield 38, 3) := by decide +kernel
theorem d_TR_becomeLike_90 : decode b_TR_becomeLike 90 = .ok (.iconst 0, 1) := by decide +kernel
theorem d_TR_becomeLike_91 : decode b_TR_becomeLike 91 = .ok (.aload_n 0, 1) := by decide +kernel
theorem d_TR_becomeLike_92 : decode b_TR_becomeLike 92 = .ok (.getfield 38, 3) := by decide +kernel
theorem d_TR_becomeLike_95 : decode b_TR_becomeLike 95 = .ok (.iconst 0, 1) := by decide +kernel
theorem d_TR_becomeLike_96 : decode b_TR_becomeLike 96 = .ok (.aload_n 0, 1) := by decide +kernel
theorem d_TR_becomeLike_97 : decode b_TR_becomeLike 97 = .ok (.getfield 25, 3) := by decide +kernel
theorem d_TR_becomeLike_100 : decode b_TR_becomeLike 100 = .ok (.invokestatic 72, 3) := by decide +kernel
theorem d_TR_becomeLike_103 : decode b_TR_becomeLike 103 = .ok (.return_, 1) := by decide +kernel
theorem d_TR_list_0 : decode b_TR_list 0 = .ok (.aload_n 0, 1) := by decide +kernel
theorem d_TR_list_1 : decode b_TR_list 1 = .ok (.iconst 0, 1) := by decide +kernel
theorem d_TR_list_2 : decode b_TR_list 2 = .ok (.putfield 18, 3) := by decide +kernel
theorem d_TR_list_5 : decode b_TR_list 5 = .ok (.aload_n 0, 1) := by decide +kernel
theorem d_TR_list_6 : decode b_TR_list 6 = .ok (.iconst 0, 1) := by decide +kernel
theorem d_TR_list_7 : decode b_TR_list 7 = .ok (.putfield 22, 3) := by decide +kernel
theorem d_TR_list_10 : decode b_TR_list 10 = .ok (.aload_n 0, 1) := by decide +kernel
theorem d_TR_list_11 : decode b_TR_list 11 = .ok (.iconst 0, 1) := by decide +kernel
theorem d_TR_list_12 : decode b_TR_list 12 = .ok (.putfield 25, 3) := by decide +kernel
theorem d_TR_list_15 : decode b_TR_list 15 = .ok (.aload_n 0, 1) := by decide +kernel
theorem d_TR_list_16 : decode b_TR_list 16 = .ok (.iconst 0, 1) := by decide +kernel
theorem d_TR_list_17 : decode b_TR_list 17 = .ok (.aload_n 0, 1) := by decide +kernel
theorem d_TR_list_18 : decode b_TR_list 18 = .ok (.getfield 12, 3) := by decide +kernel
theorem d_TR_list_21 : decode b_TR_list 21 = .ok (.getfield 78, 3) := by decide +kernel
theorem d_TR_list_24 : decode b_TR_list 24 = .ok (.iconst 0, 1) := by decide +kernel
theorem d_TR_list_25 : decode b_TR_list 25 = .ok (.iconst (-1), 1) := by decide +kernel
theorem d_TR_list_26 : decode b_TR_list 26 = .ok (.invokevirtual 81, 3) := by decide +kernel
theorem d_TR_list_29 : decode b_TR_list 29 = .ok (.return_, 1) := by decide +kernel
theorem d_TR_listPart_0 : decode b_TR_listPart 0 = .ok (.iload_n 1, 1) := by decide +kernel
theorem d_TR_listPart_1 : decode b_TR_listPart 1 = .ok (.iload_n 2, 1) := by decide +kernel
theorem d_TR_listPart_2 : decode b_TR_listPart 2 = .ok (.if_icmp .ne 4, 3) := by decide +kernel
theorem d_TR_listPart_5 : decode b_TR_listPart 5 = .ok (.return_, 1) := by decide +kernel
theorem d_TR_listPart_6 : decode b_TR_listPart 6 = .ok (.iload_n 2, 1) := by decide +kernel
theorem d_TR_listPart_7 : decode b_TR_listPart 7 = .ok (.iload_n 1, 1) := by decide +kernel
theorem d_TR_listPart_8 : decode b_TR_listPart 8 = .ok (.isub, 1) := by decide +kernel
theorem d_TR_listPart_9 : decode b_TR_listPart 9 = .ok (.iconst 1, 1) := by decide +kernel
theorem d_TR_listPart_10 : decode b_TR_listPart 10 = .ok (.if_icmp .ne 14, 3) := by decide +kernel
theorem d_TR_listPart_13 : decode b_TR_listPart 13 = .ok (.aload_n 0, 1) := by decide +kernel
theorem d_TR_listPart_14 : decode b_TR_listPart 14 = .ok (.dup, 1) := by decide +kernel
theorem d_TR_listPart_15 : decode b_TR_listPart 15 = .ok (.getfield 18, 3) := by decide +kernel
theorem d_TR_listPart_18 : decode b_TR_listPart 18 = .ok (.iconst 1, 1) := by decide +kernel
theorem d_TR_listPart_19 : decode b_TR_listPart 19 = .ok (.iadd, 1) := by decide +kernel
theorem d_TR_listPart_20 : decode b_TR_listPart 20 = .ok (.putfield 18, 3) := by decide +kernel
theorem d_TR_listPart_23 : decode b_TR_listPart 23 = .ok (.return_, 1) := by decide +kernel
theorem d_TR_listPart_24 : decode b_TR_listPart 24 = .ok (.aload_n 0, 1) := by decide +kernel
theorem d_TR_listPart_25 : decode b_TR_listPart 25 = .ok (.getfield 12, 3) := by decide +kernel
theorem d_TR_listPart_28 : decode b_TR_listPart 28 = .ok (.getfield 85, 3) := by decide +kernel
theorem d_TR_listPart_31 : decode b_TR_listPart 31 = .ok (.iload_n 1, 1) := by decide +kernel
theorem d_TR_listPart_32 : decode b_TR_listPart 32 = .ok (.iaload, 1) := by decide +kernel
theorem d_TR_listPart_33 : decode b_TR_listPart 33 = .ok (.aload_n 0, 1) := by decide +kernel
theorem d_TR_listPart_34 : decode b_TR_listPart 34 = .ok (.getfield 12, 3) := by decide +kernel
theorem d_TR_listPart_37 : decode b_TR_listPart 37 = .ok (.getfield 85, 3) := by decide +kernel
theorem d_TR_listPart_40 : decode b_TR_listPart 40 = .ok (.iload_n 2, 1) := by decide +kernel
theorem d_TR_listPart_41 : decode b_TR_listPart 41 = .ok (.iconst 1, 1) := by decide +kernel
theorem d_TR_listPart_42 : decode b_TR_listPart 42 = .ok (.isub, 1) := by decide +kernel
theorem d_TR_listPart_43 : decode b_TR_listPart 43 = .ok (.iaload, 1) := by decide +kernel
theorem d_TR_listPart_44 : decode b_TR_listPart 44 = .ok (.invokestatic 88, 3) := by decide +kernel
theorem d_TR_listPart_47 : decode b_TR_listPart 47 = .ok (.istore 5, 2) := by decide +kernel
theorem d_TR_listPart_49 : decode b_TR_listPart 49 = .ok (.iload 5, 2) := by decide +kernel
theorem d_TR_listPart_51 : decode b_TR_listPart 51 = .ok (.iload_n 3, 1) := by decide +kernel
theorem d_TR_listPart_52 : decode b_TR_listPart 52 = .ok (.if_icmp .le 13, 3) := by decide +kernel
theorem d_TR_listPart_55 : decode b_TR_listPart 55 = .ok (.aload_n 0, 1) := by decide +kernel
theorem d_TR_listPart_56 : decode b_TR_listPart 56 = .ok (.dup, 1) := by decide +kernel
theorem d_TR_listPart_57 : decode b_TR_listPart 57 = .ok (.getfield 22, 3) := by decide +kernel
theorem d_TR_listPart_60 : decode b_TR_listPart 60 = .ok (.iconst 1, 1) := by decide +kernel
theorem d_TR_listPart_61 : decode b_TR_listPart 61 = .ok (.iadd, 1) := by decide +kernel
theorem d_TR_listPart_62 : decode b_TR_listPart 62 = .ok (.putfield 22, 3) := by decide +kernel
theorem d_TR_listPart_65 : decode b_TR_listPart 65 = .ok (.aload_n 0, 1) := by decide +kernel
theorem d_TR_listPart_66 : decode b_TR_listPart 66 = .ok (.iload_n 1, 1) := by decide +kernel
theorem d_TR_listPart_67 : decode b_TR_listPart 67 = .ok (.iload_n 2, 1) := by decide +kernel
theorem d_TR_listPart_68 : decode b_TR_listPart 68 = .ok (.iload 5, 2) := by decide +kernel
theorem d_TR_listPart_70 : decode b_TR_listPart 70 = .ok (.iload 4, 2) := by decide +kernel
theorem d_TR_listPart_72 : decode b_TR_listPart 72 = .ok (.invokevirtual 94, 3) := by decide +kernel
theorem d_TR_listPart_75 : decode b_TR_listPart 75 = .ok (.return_, 1) := by decide +kernel
theorem d_TR_listBranch_0 : decode b_TR_listBranch 0 = .ok (.iload_n 3, 1) := by decide +kernel
theorem d_TR_listBranch_1 : decode b_TR_listBranch 1 = .ok (.iconst 4, 1) := by decide +kernel
theorem d_TR_listBranch_2 : decode b_TR_listBranch 2 = .ok (.if_icmp .ge 12, 3) := by decide +kernel
theorem d_TR_listBranch_5 : decode b_TR_listBranch 5 = .ok (.aload_n 0, 1) := by decide +kernel
theorem d_TR_listBranch_6 : decode b_TR_listBranch 6 = .ok (.getfield 25, 3) := by decide +kernel
theorem d_TR_listBranch_9 : decode b_TR_listBranch 9 = .ok (.bipush 15, 2) := by decide +kernel
theorem d_TR_listBranch_11 : decode b_TR_listBranch 11 = .ok (.if_icmp .ne 4, 3) := by decide +kernel
theorem d_TR_listBranch_14 : decode b_TR_listBranch 14 = .ok (.return_, 1) := by decide +kernel
theorem d_TR_listBranch_15 : decode b_TR_listBranch 15 = .ok (.aload_n 0, 1) := by decide +kernel
theorem d_TR_listBranch_16 : decode b_TR_listBranch 16 = .ok (.getfield 25, 3) := by decide +kernel
theorem d_TR_listBranch_19 : decode b_TR_listBranch 19 = .ok (.istore 5, 2) := by decide +kernel
theorem d_TR_listBranch_21 : decode b_TR_listBranch 21 = .ok (.aload_n 0, 1) := by decide +kernel
theorem d_TR_listBranch_22 : decode b_TR_listBranch 22 = .ok (.dup, 1) := by decide +kernel
theorem d_TR_listBranch_23 : decode b_TR_listBranch 23 = .ok (.getfield 25, 3) := by decide +kernel
theorem d_TR_listBranch_26 : decode b_TR_listBranch 26 = .ok (.iconst 1, 1) := by decide +kernel
theorem d_TR_listBranch_27 : decode b_TR_listBranch 27 = .ok (.iadd, 1) := by decide +kernel
theorem d_TR_listBranch_28 : decode b_TR_listBranch 28 = .ok (.putfield 25, 3) := by decide +kernel
theorem d_TR_listBranch_31 : decode b_TR_listBranch 31 = .ok (.aload_n 0, 1) := by decide +kernel
theorem d_TR_listBranch_32 : decode b_TR_listBranch 32 = .ok (.getfield 32, 3) := by decide +kernel
theorem d_TR_listBranch_35 : decode b_TR_listBranch 35 = .ok (.iload 5, 2) := by decide +kernel
theorem d_TR_listBranch_37 : decode b_TR_listBranch 37 = .ok (.iload_n 1, 1) := by decide +kernel
theorem d_TR_listBranch_38 : decode b_TR_listBranch 38 = .ok (.iastore, 1) := by decide +kernel
theorem d_TR_listBranch_39 : decode b_TR_listBranch 39 = .ok (.aload_n 0, 1) := by decide +kernel
theorem d_TR_listBranch_40 : decode b_TR_listBranch 40 = .ok (.getfield 35, 3) := by decide +kernel
theorem d_TR_listBranch_43 : decode b_TR_listBranch 43 = .ok (.iload 5, 2) := by decide +kernel
theorem d_TR_listBranch_45 : decode b_TR_listBranch 45 = .ok (.iload_n 2, 1) := by decide +kernel
theorem d_TR_listBranch_46 : decode b_TR_listBranch 46 = .ok (.iastore, 1) := by decide +kernel
theorem d_TR_listBranch_47 : decode b_TR_listBranch 47 = .ok (.aload_n 0, 1) := by decide +kernel
theorem d_TR_listBranch_48 : decode b_TR_listBranch 48 = .ok (.getfield 38, 3) := by decide +kernel
theorem d_TR_listBranch_51 : decode b_TR_listBranch 51 = .ok (.iload 5, 2) := by decide +kernel
theorem d_TR_listBranch_53 : decode b_TR_listBranch 53 = .ok (.iload_n 3, 1) := by decide +kernel
theorem d_TR_listBranch_54 : decode b_TR_listBranch 54 = .ok (.iastore, 1) := by decide +kernel
theorem d_TR_listBranch_55 : decode b_TR_listBranch 55 = .ok (.aload_n 0, 1) := by decide +kernel
theorem d_TR_listBranch_56 : decode b_TR_listBranch 56 = .ok (.getfield 28, 3) := by decide +kernel
theorem d_TR_listBranch_59 : decode b_TR_listBranch 59 = .ok (.iload 5, 2) := by decide +kernel
theorem d_TR_listBranch_61 : decode b_TR_listBranch 61 = .ok (.iload 4, 2) := by decide +kernel
theorem d_TR_listBranch_63 : decode b_TR_listBranch 63 = .ok (.iastore, 1) := by decide +kernel
theorem d_TR_listBranch_64 : decode b_TR_listBranch 64 = .ok (.aload_n 0, 1) := by decide +kernel
theorem d_TR_listBranch_65 : decode b_TR_listBranch 65 = .ok (.iload_n 1, 1) := by decide +kernel
theorem d_TR_listBranch_66 : decode b_TR_listBranch 66 = .ok (.iload_n 3, 1) := by decide +kernel
theorem d_TR_listBranch_67 : decode b_TR_listBranch 67 = .ok (.invokevirtual 97, 3) := by decide +kernel
theorem d_TR_listBranch_70 : decode b_TR_listBranch 70 = .ok (.istore 6, 2) := by decide +kernel
theorem d_TR_listBranch_72 : decode b_TR_listBranch 72 = .ok (.iconst 0, 1) := by decide +kernel
theorem d_TR_listBranch_73 : decode b_TR_listBranch 73 = .ok (.istore 7, 2) := by decide +kernel
theorem d_TR_listBranch_75 : decode b_TR_listBranch 75 = .ok (.iload 7, 2) := by decide +kernel
theorem d_TR_listBranch_77 : decode b_TR_listBranch 77 = .ok (.bipush 16, 2) := by decide +kernel
theorem d_TR_listBranch_79 : decode b_TR_listBranch 79 = .ok (.if_icmp .ge 41, 3) := by decide +kernel
theorem d_TR_listBranch_82 : decode b_TR_listBranch 82 = .ok (.iload 6, 2) := by decide +kernel
theorem d_TR_listBranch_84 : decode b_TR_listBranch 84 = .ok (.istore 8, 2) := by decide +kernel
theorem d_TR_listBranch_86 : decode b_TR_listBranch 86 = .ok (.aload_n 0, 1) := by decide +kernel
theorem d_TR_listBranch_87 : decode b_TR_listBranch 87 = .ok (.getfield 12, 3) := by decide +kernel
theorem d_TR_listBranch_90 : decode b_TR_listBranch 90 = .ok (.iload 8, 2) := by decide +kernel
theorem d_TR_listBranch_92 : decode b_TR_listBranch 92 = .ok (.iload_n 2, 1) := by decide +kernel
theorem d_TR_listBranch_93 : decode b_TR_listBranch 93 = .ok (.iload_n 3, 1) := by decide +kernel
theorem d_TR_listBranch_94 : decode b_TR_listBranch 94 = .ok (.iload 7, 2) := by decide +kernel
theorem d_TR_listBranch_96 : decode b_TR_listBranch 96 = .ok (.invokevirtual 100, 3) := by decide +kernel
theorem d_TR_listBranch_99 : decode b_TR_listBranch 99 = .ok (.istore 6, 2) := by decide +kernel
theorem d_TR_listBranch_101 : decode b_TR_listBranch 101 = .ok (.aload_n 0, 1) := by decide +kernel
theorem d_TR_listBranch_102 : decode b_TR_listBranch 102 = .ok (.iload 8, 2) := by decide +kernel
theorem d_TR_listBranch_104 : decode b_TR_listBranch 104 = .ok (.iload 6, 2) := by decide +kernel
theorem d_TR_listBranch_106 : decode b_TR_listBranch 106 = .ok (.iload_n 3, 1) := by decide +kernel
theorem d_TR_listBranch_107 : decode b_TR_listBranch 107 = .ok (.iconst 1, 1) := by decide +kernel
theorem d_TR_listBranch_108 : decode b_TR_listBranch 108 = .ok (.iadd, 1) := by decide +kernel
theorem d_TR_listBranch_109 : decode b_TR_listBranch 109 = .ok (.iload 5, 2) := by decide +kernel
theorem d_TR_listBranch_111 : decode b_TR_listBranch 111 = .ok (.invokevirtual 81, 3) := by decide +kernel
theorem d_TR_listBranch_114 : decode b_TR_listBranch 114 = .ok (.iinc 7 1, 3) := by decide +kernel
theorem d_TR_listBranch_117 : decode b_TR_listBranch 117 = .ok (.goto (-42), 3) := by decide +kernel
theorem d_TR_listBranch_120 : decode b_TR_listBranch 120 = .ok (.return_, 1) := by decide +kernel
theorem d_TR_firstChildRow_0 : decode b_TR_firstChildRow 0 = .ok (.aload_n 0, 1) := by decide +kernel
theorem d_TR_firstChildRow_1 : decode b_TR_firstChildRow 1 = .ok (.getfield 12, 3) := by decide +kernel
theorem d_TR_firstChildRow_4 : decode b_TR_firstChildRow 4 = .ok (.iload_n 1, 1) := by decide +kernel
theorem d_TR_firstChildRow_5 : decode b_TR_firstChildRow 5 = .ok (.iload_n 2, 1) := by decide +kernel
theorem d_TR_firstChildRow_6 : decode b_TR_firstChildRow 6 = .ok (.invokevirtual 104, 3) := by decide +kernel
theorem d_TR_firstChildRow_9 : decode b_TR_firstChildRow 9 = .ok (.ifCond .eq 9, 3) := by decide +kernel
theorem d_TR_firstChildRow_12 : decode b_TR_firstChildRow 12 = .ok (.iload_n 1, 1) := by decide +kernel
theorem d_TR_firstChildRow_13 : decode b_TR_firstChildRow 13 = .ok (.iconst 1, 1) := by decide +kernel
theorem d_TR_firstChildRow_14 : decode b_TR_firstChildRow 14 = .ok (.iadd, 1) := by decide +kernel
theorem d_TR_firstChildRow_15 : decode b_TR_firstChildRow 15 = .ok (.goto 4, 3) := by decide +kernel
theorem d_TR_firstChildRow_18 : decode b_TR_firstChildRow 18 = .ok (.iload_n 1, 1) := by decide +kernel
theorem d_TR_firstChildRow_19 : decode b_TR_firstChildRow 19 = .ok (.ireturn, 1) := by decide +kernel
theorem d_TR_rootNumber_0 : decode b_TR_rootNumber 0 = .ok (.aload_n 0, 1) := by decide +kernel
theorem d_TR_rootNumber_1 : decode b_TR_rootNumber 1 = .ok (.iconst 0, 1) := by decide +kernel
theorem d_TR_rootNumber_2 : decode b_TR_rootNumber 2 = .ok (.aload_n 0, 1) := by decide +kernel
theorem d_TR_rootNumber_3 : decode b_TR_rootNumber 3 = .ok (.getfield 12, 3) := by decide +kernel
theorem d_TR_rootNumber_6 : decode b_TR_rootNumber 6 = .ok (.getfield 78, 3) := by decide +kernel
theorem d_TR_rootNumber_9 : decode b_TR_rootNumber 9 = .ok (.iconst 0, 1) := by decide +kernel
theorem d_TR_rootNumber_10 : decode b_TR_rootNumber 10 = .ok (.aload_n 0, 1) := by decide +kernel
theorem d_TR_rootNumber_11 : decode b_TR_rootNumber 11 = .ok (.getfield 41, 3) := by decide +kernel
theorem d_TR_rootNumber_14 : decode b_TR_rootNumber 14 = .ok (.iconst 0, 1) := by decide +kernel
theorem d_TR_rootNumber_15 : decode b_TR_rootNumber 15 = .ok (.invokevirtual 108, 3) := by decide +kernel
theorem d_TR_rootNumber_18 : decode b_TR_rootNumber 18 = .ok (.istore_n 1, 1) := by decide +kernel
theorem d_TR_rootNumber_19 : decode b_TR_rootNumber 19 = .ok (.aload_n 0, 1) := by decide +kernel
theorem d_TR_rootNumber_20 : decode b_TR_rootNumber 20 = .ok (.getfield 41, 3) := by decide +kernel
theorem d_TR_rootNumber_23 : decode b_TR_rootNumber 23 = .ok (.iconst 0, 1) := by decide +kernel
theorem d_TR_rootNumber_24 : decode b_TR_rootNumber 24 = .ok (.iload_n 1, 1) := by decide +kernel
theorem d_TR_rootNumber_25 : decode b_TR_rootNumber 25 = .ok (.invokestatic 112, 3) := by decide +kernel
theorem d_TR_rootNumber_28 : decode b_TR_rootNumber 28 = .ok (.lreturn, 1) := by decide +kernel
theorem d_TR_digestOf_0 : decode b_TR_digestOf 0 = .ok (.aload_n 0, 1) := by decide +kernel
theorem d_TR_digestOf_1 : decode b_TR_digestOf 1 = .ok (.aload_n 0, 1) := by decide +kernel
theorem d_TR_digestOf_2 : decode b_TR_digestOf 2 = .ok (.getfield 32, 3) := by decide +kernel
theorem d_TR_digestOf_5 : decode b_TR_digestOf 5 = .ok (.iload_n 1, 1) := by decide +kernel
theorem d_TR_digestOf_6 : decode b_TR_digestOf 6 = .ok (.iaload, 1) := by decide +kernel
theorem d_TR_digestOf_7 : decode b_TR_digestOf 7 = .ok (.aload_n 0, 1) := by decide +kernel
theorem d_TR_digestOf_8 : decode b_TR_digestOf 8 = .ok (.getfield 35, 3) := by decide +kernel
theorem d_TR_digestOf_11 : decode b_TR_digestOf 11 = .ok (.iload_n 1, 1) := by decide +kernel
theorem d_TR_digestOf_12 : decode b_TR_digestOf 12 = .ok (.iaload, 1) := by decide +kernel
theorem d_TR_digestOf_13 : decode b_TR_digestOf 13 = .ok (.aload_n 0, 1) := by decide +kernel
theorem d_TR_digestOf_14 : decode b_TR_digestOf 14 = .ok (.getfield 38, 3) := by decide +kernel
theorem d_TR_digestOf_17 : decode b_TR_digestOf 17 = .ok (.iload_n 1, 1) := by decide +kernel
theorem d_TR_digestOf_18 : decode b_TR_digestOf 18 = .ok (.iaload, 1) := by decide +kernel
theorem d_TR_digestOf_19 : decode b_TR_digestOf 19 = .ok (.invokevirtual 116, 3) := by decide +kernel
theorem d_TR_digestOf_22 : decode b_TR_digestOf 22 = .ok (.lreturn, 1) := by decide +kernel
theorem d_TR_branchDigest_0 : decode b_TR_branchDigest 0 = .ok (.iload_n 3, 1) := by decide +kernel
theorem d_TR_branchDigest_1 : decode b_TR_branchDigest 1 = .ok (.iconst 4, 1) := by decide +kernel
theorem d_TR_branchDigest_2 : decode b_TR_branchDigest 2 = .ok (.if_icmp .lt 5, 3) := by decide +kernel
theorem d_TR_branchDigest_5 : decode b_TR_branchDigest 5 = .ok (.lconst 0, 1) := by decide +kernel
theorem d_TR_branchDigest_6 : decode b_TR_branchDigest 6 = .ok (.lreturn, 1) := by decide +kernel
theorem d_TR_branchDigest_7 : decode b_TR_branchDigest 7 = .ok (.aload_n 0, 1) := by decide +kernel
theorem d_TR_branchDigest_8 : decode b_TR_branchDigest 8 = .ok (.getfield 47, 3) := by decide +kernel
theorem d_TR_branchDigest_11 : decode b_TR_branchDigest 11 = .ok (.iload_n 3, 1) := by decide +kernel
theorem d_TR_branchDigest_12 : decode b_TR_branchDigest 12 = .ok (.aaload, 1) := by decide +kernel
theorem d_TR_branchDigest_13 : decode b_TR_branchDigest 13 = .ok (.astore 4, 2) := by decide +kernel
theorem d_TR_branchDigest_15 : decode b_TR_branchDigest 15 = .ok (.aload_n 0, 1) := by decide +kernel
theorem d_TR_branchDigest_16 : decode b_TR_branchDigest 16 = .ok (.iload_n 1, 1) := by decide +kernel
theorem d_TR_branchDigest_17 : decode b_TR_branchDigest 17 = .ok (.iload_n 2, 1) := by decide +kernel
theorem d_TR_branchDigest_18 : decode b_TR_branchDigest 18 = .ok (.iload_n 3, 1) := by decide +kernel
theorem d_TR_branchDigest_19 : decode b_TR_branchDigest 19 = .ok (.aload 4, 2) := by decide +kernel
theorem d_TR_branchDigest_21 : decode b_TR_branchDigest 21 = .ok (.iconst 0, 1) := by decide +kernel
theorem d_TR_branchDigest_22 : decode b_TR_branchDigest 22 = .ok (.invokevirtual 120, 3) := by decide +kernel
theorem d_TR_branchDigest_25 : decode b_TR_branchDigest 25 = .ok (.istore 5, 2) := by decide +kernel
theorem d_TR_branchDigest_27 : decode b_TR_branchDigest 27 = .ok (.aload 4, 2) := by decide +kernel
theorem d_TR_branchDigest_29 : decode b_TR_branchDigest 29 = .ok (.iconst 0, 1) := by decide +kernel
theorem d_TR_branchDigest_30 : decode b_TR_branchDigest 30 = .ok (.iload 5, 2) := by decide +kernel
theorem d_TR_branchDigest_32 : decode b_TR_branchDigest 32 = .ok (.invokestatic 112, 3) := by decide +kernel
theorem d_TR_branchDigest_35 : decode b_TR_branchDigest 35 = .ok (.lreturn, 1) := by decide +kernel
theorem d_TR_writeBranch_0 : decode b_TR_writeBranch 0 = .ok (.iload 5, 2) := by decide +kernel
theorem d_TR_writeBranch_2 : decode b_TR_writeBranch 2 = .ok (.istore 6, 2) := by decide +kernel
theorem d_TR_writeBranch_4 : decode b_TR_writeBranch 4 = .ok (.aload_n 0, 1) := by decide +kernel
theorem d_TR_writeBranch_5 : decode b_TR_writeBranch 5 = .ok (.iload_n 1, 1) := by decide +kernel
theorem d_TR_writeBranch_6 : decode b_TR_writeBranch 6 = .ok (.iload_n 3, 1) := by decide +kernel
theorem d_TR_writeBranch_7 : decode b_TR_writeBranch 7 = .ok (.invokevirtual 97, 3) := by decide +kernel
theorem d_TR_writeBranch_10 : decode b_TR_writeBranch 10 = .ok (.istore 7, 2) := by decide +kernel
theorem d_TR_writeBranch_12 : decode b_TR_writeBranch 12 = .ok (.iconst 0, 1) := by decide +kernel
theorem d_TR_writeBranch_13 : decode b_TR_writeBranch 13 = .ok (.istore 8, 2) := by decide +kernel
theorem d_TR_writeBranch_15 : decode b_TR_writeBranch 15 = .ok (.iload 8, 2) := by decide +kernel
theorem d_TR_writeBranch_17 : decode b_TR_writeBranch 17 = .ok (.bipush 16, 2) := by decide +kernel
theorem d_TR_writeBranch_19 : decode b_TR_writeBranch 19 = .ok (.if_icmp .ge 64, 3) := by decide +kernel
theorem d_TR_writeBranch_22 : decode b_TR_writeBranch 22 = .ok (.iload 7, 2) := by decide +kernel
theorem d_TR_writeBranch_24 : decode b_TR_writeBranch 24 = .ok (.istore 9, 2) := by decide +kernel
theorem d_TR_writeBranch_26 : decode b_TR_writeBranch 26 = .ok (.aload_n 0, 1) := by decide +kernel
theorem d_TR_writeBranch_27 : decode b_TR_writeBranch 27 = .ok (.getfield 12, 3) := by decide +kernel
theorem d_TR_writeBranch_30 : decode b_TR_writeBranch 30 = .ok (.iload 9, 2) := by decide +kernel
theorem d_TR_writeBranch_32 : decode b_TR_writeBranch 32 = .ok (.iload_n 2, 1) := by decide +kernel
theorem d_TR_writeBranch_33 : decode b_TR_writeBranch 33 = .ok (.iload_n 3, 1) := by decide +kernel
theorem d_TR_writeBranch_34 : decode b_TR_writeBranch 34 = .ok (.iload 8, 2) := by decide +kernel
theorem d_TR_writeBranch_36 : decode b_TR_writeBranch 36 = .ok (.invokevirtual 100, 3) := by decide +kernel
theorem d_TR_writeBranch_39 : decode b_TR_writeBranch 39 = .ok (.istore 7, 2) := by decide +kernel
theorem d_TR_writeBranch_41 : decode b_TR_writeBranch 41 = .ok (.aload_n 0, 1) := by decide +kernel
theorem d_TR_writeBranch_42 : decode b_TR_writeBranch 42 = .ok (.iload 9, 2) := by decide +kernel
theorem d_TR_writeBranch_44 : decode b_TR_writeBranch 44 = .ok (.iload 7, 2) := by decide +kernel
theorem d_TR_writeBranch_46 : decode b_TR_writeBranch 46 = .ok (.iload_n 3, 1) := by decide +kernel
theorem d_TR_writeBranch_47 : decode b_TR_writeBranch 47 = .ok (.iconst 1, 1) := by decide +kernel
theorem d_TR_writeBranch_48 : decode b_TR_writeBranch 48 = .ok (.iadd, 1) := by decide +kernel
theorem d_TR_writeBranch_49 : decode b_TR_writeBranch 49 = .ok (.aload 4, 2) := by decide +kernel
theorem d_TR_writeBranch_51 : decode b_TR_writeBranch 51 = .ok (.iload 6, 2) := by decide +kernel
theorem d_TR_writeBranch_53 : decode b_TR_writeBranch 53 = .ok (.iconst 1, 1) := by decide +kernel
theorem d_TR_writeBranch_54 : decode b_TR_writeBranch 54 = .ok (.iadd, 1) := by decide +kernel
theorem d_TR_writeBranch_55 : decode b_TR_writeBranch 55 = .ok (.invokevirtual 108, 3) := by decide +kernel
theorem d_TR_writeBranch_58 : decode b_TR_writeBranch 58 = .ok (.istore 10, 2) := by decide +kernel
theorem d_TR_writeBranch_60 : decode b_TR_writeBranch 60 = .ok (.aload 4, 2) := by decide +kernel
theorem d_TR_writeBranch_62 : decode b_TR_writeBranch 62 = .ok (.iload 6, 2) := by decide +kernel
theorem d_TR_writeBranch_64 : decode b_TR_writeBranch 64 = .ok (.iload 10, 2) := by decide +kernel
theorem d_TR_writeBranch_66 : decode b_TR_writeBranch 66 = .ok (.i2l, 1) := by decide +kernel
theorem d_TR_writeBranch_67 : decode b_TR_writeBranch 67 = .ok (.lastore, 1) := by decide +kernel
theorem d_TR_writeBranch_68 : decode b_TR_writeBranch 68 = .ok (.iload 6, 2) := by decide +kernel
theorem d_TR_writeBranch_70 : decode b_TR_writeBranch 70 = .ok (.iconst 1, 1) := by decide +kernel
theorem d_TR_writeBranch_71 : decode b_TR_writeBranch 71 = .ok (.iload 10, 2) := by decide +kernel
theorem d_TR_writeBranch_73 : decode b_TR_writeBranch 73 = .ok (.iadd, 1) := by decide +kernel
theorem d_TR_writeBranch_74 : decode b_TR_writeBranch 74 = .ok (.iadd, 1) := by decide +kernel
theorem d_TR_writeBranch_75 : decode b_TR_writeBranch 75 = .ok (.istore 6, 2) := by decide +kernel
theorem d_TR_writeBranch_77 : decode b_TR_writeBranch 77 = .ok (.iinc 8 1, 3) := by decide +kernel
theorem d_TR_writeBranch_80 : decode b_TR_writeBranch 80 = .ok (.goto (-65), 3) := by decide +kernel
theorem d_TR_writeBranch_83 : decode b_TR_writeBranch 83 = .ok (.aload 4, 2) := by decide +kernel
theorem d_TR_writeBranch_85 : decode b_TR_writeBranch 85 = .ok (.iload 6, 2) := by decide +kernel
theorem d_TR_writeBranch_87 : decode b_TR_writeBranch 87 = .ok (.aload_n 0, 1) := by decide +kernel
theorem d_TR_writeBranch_88 : decode b_TR_writeBranch 88 = .ok (.getfield 12, 3) := by decide +kernel
theorem d_TR_writeBranch_91 : decode b_TR_writeBranch 91 = .ok (.iload_n 1, 1) := by decide +kernel
theorem d_TR_writeBranch_92 : decode b_TR_writeBranch 92 = .ok (.iload_n 3, 1) := by decide +kernel
theorem d_TR_writeBranch_93 : decode b_TR_writeBranch 93 = .ok (.invokevirtual 104, 3) := by decide +kernel
theorem d_TR_writeBranch_96 : decode b_TR_writeBranch 96 = .ok (.ifCond .eq 16, 3) := by decide +kernel
theorem d_TR_writeBranch_99 : decode b_TR_writeBranch 99 = .ok (.aload_n 0, 1) := by decide +kernel
theorem d_TR_writeBranch_100 : decode b_TR_writeBranch 100 = .ok (.getfield 12, 3) := by decide +kernel
theorem d_TR_writeBranch_103 : decode b_TR_writeBranch 103 = .ok (.getfield 61, 3) := by decide +kernel
theorem d_TR_writeBranch_106 : decode b_TR_writeBranch 106 = .ok (.iload_n 1, 1) := by decide +kernel
theorem d_TR_writeBranch_107 : decode b_TR_writeBranch 107 = .ok (.iaload, 1) := by decide +kernel
theorem d_TR_writeBranch_108 : decode b_TR_writeBranch 108 = .ok (.i2l, 1) := by decide +kernel
theorem d_TR_writeBranch_109 : decode b_TR_writeBranch 109 = .ok (.goto 4, 3) := by decide +kernel
theorem d_TR_writeBranch_112 : decode b_TR_writeBranch 112 = .ok (.lconst 0, 1) := by decide +kernel
theorem d_TR_writeBranch_113 : decode b_TR_writeBranch 113 = .ok (.lastore, 1) := by decide +kernel
theorem d_TR_writeBranch_114 : decode b_TR_writeBranch 114 = .ok (.iload 6, 2) := by decide +kernel
theorem d_TR_writeBranch_116 : decode b_TR_writeBranch 116 = .ok (.iconst 1, 1) := by decide +kernel
theorem d_TR_writeBranch_117 : decode b_TR_writeBranch 117 = .ok (.iadd, 1) := by decide +kernel
theorem d_TR_writeBranch_118 : decode b_TR_writeBranch 118 = .ok (.iload 5, 2) := by decide +kernel
theorem d_TR_writeBranch_120 : decode b_TR_writeBranch 120 = .ok (.isub, 1) := by decide +kernel
theorem d_TR_writeBranch_121 : decode b_TR_writeBranch 121 = .ok (.ireturn, 1) := by decide +kernel
theorem d_TR_writeReference_0 : decode b_TR_writeReference 0 = .ok (.iload_n 1, 1) := by decide +kernel
theorem d_TR_writeReference_1 : decode b_TR_writeReference 1 = .ok (.iload_n 2, 1) := by decide +kernel
theorem d_TR_writeReference_2 : decode b_TR_writeReference 2 = .ok (.if_icmp .ne 5, 3) := by decide +kernel
theorem d_TR_writeReference_5 : decode b_TR_writeReference 5 = .ok (.iconst 0, 1) := by decide +kernel
theorem d_TR_writeReference_6 : decode b_TR_writeReference 6 = .ok (.ireturn, 1) := by decide +kernel
theorem d_TR_writeReference_7 : decode b_TR_writeReference 7 = .ok (.iload_n 2, 1) := by decide +kernel
theorem d_TR_writeReference_8 : decode b_TR_writeReference 8 = .ok (.iload_n 1, 1) := by decide +kernel
theorem d_TR_writeReference_9 : decode b_TR_writeReference 9 = .ok (.isub, 1) := by decide +kernel
theorem d_TR_writeReference_10 : decode b_TR_writeReference 10 = .ok (.iconst 1, 1) := by decide +kernel
theorem d_TR_writeReference_11 : decode b_TR_writeReference 11 = .ok (.if_icmp .ne 47, 3) := by decide +kernel
theorem d_TR_writeReference_14 : decode b_TR_writeReference 14 = .ok (.aload 4, 2) := by decide +kernel
theorem d_TR_writeReference_16 : decode b_TR_writeReference 16 = .ok (.iload 5, 2) := by decide +kernel
theorem d_TR_writeReference_18 : decode b_TR_writeReference 18 = .ok (.ldc2_w 123, 3) := by decide +kernel
theorem d_TR_writeReference_21 : decode b_TR_writeReference 21 = .ok (.aload_n 0, 1) := by decide +kernel
theorem d_TR_writeReference_22 : decode b_TR_writeReference 22 = .ok (.getfield 12, 3) := by decide +kernel
theorem d_TR_writeReference_25 : decode b_TR_writeReference 25 = .ok (.getfield 85, 3) := by decide +kernel
theorem d_TR_writeReference_28 : decode b_TR_writeReference 28 = .ok (.iload_n 1, 1) := by decide +kernel
theorem d_TR_writeReference_29 : decode b_TR_writeReference 29 = .ok (.iaload, 1) := by decide +kernel
theorem d_TR_writeReference_30 : decode b_TR_writeReference 30 = .ok (.iload_n 3, 1) := by decide +kernel
theorem d_TR_writeReference_31 : decode b_TR_writeReference 31 = .ok (.invokestatic 125, 3) := by decide +kernel
theorem d_TR_writeReference_34 : decode b_TR_writeReference 34 = .ok (.i2l, 1) := by decide +kernel
theorem d_TR_writeReference_35 : decode b_TR_writeReference 35 = .ok (.lmul, 1) := by decide +kernel
theorem d_TR_writeReference_36 : decode b_TR_writeReference 36 = .ok (.lconst 1, 1) := by decide +kernel
theorem d_TR_writeReference_37 : decode b_TR_writeReference 37 = .ok (.ladd, 1) := by decide +kernel
theorem d_TR_writeReference_38 : decode b_TR_writeReference 38 = .ok (.lastore, 1) := by decide +kernel
theorem d_TR_writeReference_39 : decode b_TR_writeReference 39 = .ok (.aload 4, 2) := by decide +kernel
theorem d_TR_writeReference_41 : decode b_TR_writeReference 41 = .ok (.iload 5, 2) := by decide +kernel
theorem d_TR_writeReference_43 : decode b_TR_writeReference 43 = .ok (.iconst 1, 1) := by decide +kernel
theorem d_TR_writeReference_44 : decode b_TR_writeReference 44 = .ok (.iadd, 1) := by decide +kernel
theorem d_TR_writeReference_45 : decode b_TR_writeReference 45 = .ok (.aload_n 0, 1) := by decide +kernel
theorem d_TR_writeReference_46 : decode b_TR_writeReference 46 = .ok (.getfield 12, 3) := by decide +kernel
theorem d_TR_writeReference_49 : decode b_TR_writeReference 49 = .ok (.getfield 61, 3) := by decide +kernel
theorem d_TR_writeReference_52 : decode b_TR_writeReference 52 = .ok (.iload_n 1, 1) := by decide +kernel
theorem d_TR_writeReference_53 : decode b_TR_writeReference 53 = .ok (.iaload, 1) := by decide +kernel
theorem d_TR_writeReference_54 : decode b_TR_writeReference 54 = .ok (.i2l, 1) := by decide +kernel
theorem d_TR_writeReference_55 : decode b_TR_writeReference 55 = .ok (.lastore, 1) := by decide +kernel
theorem d_TR_writeReference_56 : decode b_TR_writeReference 56 = .ok (.iconst 2, 1) := by decide +kernel
theorem d_TR_writeReference_57 : decode b_TR_writeReference 57 = .ok (.ireturn, 1) := by decide +kernel
theorem d_TR_writeReference_58 : decode b_TR_writeReference 58 = .ok (.aload_n 0, 1) := by decide +kernel
theorem d_TR_writeReference_59 : decode b_TR_writeReference 59 = .ok (.getfield 12, 3) := by decide +kernel
theorem d_TR_writeReference_62 : decode b_TR_writeReference 62 = .ok (.getfield 85, 3) := by decide +kernel
theorem d_TR_writeReference_65 : decode b_TR_writeReference 65 = .ok (.iload_n 1, 1) := by decide +kernel
theorem d_TR_writeReference_66 : decode b_TR_writeReference 66 = .ok (.iaload, 1) := by decide +kernel
theorem d_TR_writeReference_67 : decode b_TR_writeReference 67 = .ok (.aload_n 0, 1) := by decide +kernel
theorem d_TR_writeReference_68 : decode b_TR_writeReference 68 = .ok (.getfield 12, 3) := by decide +kernel
theorem d_TR_writeReference_71 : decode b_TR_writeReference 71 = .ok (.getfield 85, 3) := by decide +kernel
theorem d_TR_writeReference_74 : decode b_TR_writeReference 74 = .ok (.iload_n 2, 1) := by decide +kernel
theorem d_TR_writeReference_75 : decode b_TR_writeReference 75 = .ok (.iconst 1, 1) := by decide +kernel
theorem d_TR_writeReference_76 : decode b_TR_writeReference 76 = .ok (.isub, 1) := by decide +kernel
theorem d_TR_writeReference_77 : decode b_TR_writeReference 77 = .ok (.iaload, 1) := by decide +kernel
theorem d_TR_writeReference_78 : decode b_TR_writeReference 78 = .ok (.invokestatic 88, 3) := by decide +kernel
theorem d_TR_writeReference_81 : decode b_TR_writeReference 81 = .ok (.istore 6, 2) := by decide +kernel
theorem d_TR_writeReference_83 : decode b_TR_writeReference 83 = .ok (.aload_n 0, 1) := by decide +kernel
theorem d_TR_writeReference_84 : decode b_TR_writeReference 84 = .ok (.iload_n 1, 1) := by decide +kernel
theorem d_TR_writeReference_85 : decode b_TR_writeReference 85 = .ok (.iload_n 2, 1) := by decide +kernel
theorem d_TR_writeReference_86 : decode b_TR_writeReference 86 = .ok (.iload 6, 2) := by decide +kernel
theorem d_TR_writeReference_88 : decode b_TR_writeReference 88 = .ok (.invokevirtual 116, 3) := by decide +kernel
theorem d_TR_writeReference_91 : decode b_TR_writeReference 91 = .ok (.lstore 7, 2) := by decide +kernel
theorem d_TR_writeReference_93 : decode b_TR_writeReference 93 = .ok (.iload 6, 2) := by decide +kernel
theorem d_TR_writeReference_95 : decode b_TR_writeReference 95 = .ok (.iload_n 3, 1) := by decide +kernel
theorem d_TR_writeReference_96 : decode b_TR_writeReference 96 = .ok (.if_icmp .ne 12, 3) := by decide +kernel
theorem d_TR_writeReference_99 : decode b_TR_writeReference 99 = .ok (.aload 4, 2) := by decide +kernel
theorem d_TR_writeReference_101 : decode b_TR_writeReference 101 = .ok (.iload 5, 2) := by decide +kernel
theorem d_TR_writeReference_103 : decode b_TR_writeReference 103 = .ok (.lload 7, 2) := by decide +kernel
theorem d_TR_writeReference_105 : decode b_TR_writeReference 105 = .ok (.lastore, 1) := by decide +kernel
theorem d_TR_writeReference_106 : decode b_TR_writeReference 106 = .ok (.iconst 1, 1) := by decide +kernel
theorem d_TR_writeReference_107 : decode b_TR_writeReference 107 = .ok (.ireturn, 1) := by decide +kernel
theorem d_TR_writeReference_108 : decode b_TR_writeReference 108 = .ok (.aload 4, 2) := by decide +kernel
theorem d_TR_writeReference_110 : decode b_TR_writeReference 110 = .ok (.iload 5, 2) := by decide +kernel
theorem d_TR_writeReference_112 : decode b_TR_writeReference 112 = .ok (.ldc2_w 123, 3) := by decide +kernel
theorem d_TR_writeReference_115 : decode b_TR_writeReference 115 = .ok (.aload_n 0, 1) := by decide +kernel
theorem d_TR_writeReference_116 : decode b_TR_writeReference 116 = .ok (.getfield 12, 3) := by decide +kernel
theorem d_TR_writeReference_119 : decode b_TR_writeReference 119 = .ok (.getfield 85, 3) := by decide +kernel
theorem d_TR_writeReference_122 : decode b_TR_writeReference 122 = .ok (.iload_n 1, 1) := by decide +kernel
theorem d_TR_writeReference_123 : decode b_TR_writeReference 123 = .ok (.iaload, 1) := by decide +kernel
theorem d_TR_writeReference_124 : decode b_TR_writeReference 124 = .ok (.iload 6, 2) := by decide +kernel
theorem d_TR_writeReference_126 : decode b_TR_writeReference 126 = .ok (.invokestatic 128, 3) := by decide +kernel
theorem d_TR_writeReference_129 : decode b_TR_writeReference 129 = .ok (.iload_n 3, 1) := by decide +kernel
theorem d_TR_writeReference_130 : decode b_TR_writeReference 130 = .ok (.invokestatic 125, 3) := by decide +kernel
theorem d_TR_writeReference_133 : decode b_TR_writeReference 133 = .ok (.i2l, 1) := by decide +kernel
theorem d_TR_writeReference_134 : decode b_TR_writeReference 134 = .ok (.lmul, 1) := by decide +kernel
theorem d_TR_writeReference_135 : decode b_TR_writeReference 135 = .ok (.lastore, 1) := by decide +kernel
theorem d_TR_writeReference_136 : decode b_TR_writeReference 136 = .ok (.aload 4, 2) := by decide +kernel
theorem d_TR_writeReference_138 : decode b_TR_writeReference 138 = .ok (.iload 5, 2) := by decide +kernel
theorem d_TR_writeReference_140 : decode b_TR_writeReference 140 = .ok (.iconst 1, 1) := by decide +kernel
theorem d_TR_writeReference_141 : decode b_TR_writeReference 141 = .ok (.iadd, 1) := by decide +kernel
theorem d_TR_writeReference_142 : decode b_TR_writeReference 142 = .ok (.lload 7, 2) := by decide +kernel
theorem d_TR_writeReference_144 : decode b_TR_writeReference 144 = .ok (.lastore, 1) := by decide +kernel
theorem d_TR_writeReference_145 : decode b_TR_writeReference 145 = .ok (.iconst 2, 1) := by decide +kernel
theorem d_TR_writeReference_146 : decode b_TR_writeReference 146 = .ok (.ireturn, 1) := by decide +kernel
theorem d_TR_writeProof_0 : decode b_TR_writeProof 0 = .ok (.aload_n 0, 1) := by decide +kernel
theorem d_TR_writeProof_1 : decode b_TR_writeProof 1 = .ok (.iconst 0, 1) := by decide +kernel
theorem d_TR_writeProof_2 : decode b_TR_writeProof 2 = .ok (.aload_n 0, 1) := by decide +kernel
theorem d_TR_writeProof_3 : decode b_TR_writeProof 3 = .ok (.getfield 12, 3) := by decide +kernel
theorem d_TR_writeProof_6 : decode b_TR_writeProof 6 = .ok (.getfield 78, 3) := by decide +kernel
theorem d_TR_writeProof_9 : decode b_TR_writeProof 9 = .ok (.iconst 0, 1) := by decide +kernel
theorem d_TR_writeProof_10 : decode b_TR_writeProof 10 = .ok (.aload_n 2, 1) := by decide +kernel
theorem d_TR_writeProof_11 : decode b_TR_writeProof 11 = .ok (.iconst 1, 1) := by decide +kernel
theorem d_TR_writeProof_12 : decode b_TR_writeProof 12 = .ok (.invokevirtual 108, 3) := by decide +kernel
theorem d_TR_writeProof_15 : decode b_TR_writeProof 15 = .ok (.istore_n 3, 1) := by decide +kernel
theorem d_TR_writeProof_16 : decode b_TR_writeProof 16 = .ok (.aload_n 2, 1) := by decide +kernel
theorem d_TR_writeProof_17 : decode b_TR_writeProof 17 = .ok (.iconst 0, 1) := by decide +kernel
theorem d_TR_writeProof_18 : decode b_TR_writeProof 18 = .ok (.iload_n 3, 1) := by decide +kernel
theorem d_TR_writeProof_19 : decode b_TR_writeProof 19 = .ok (.i2l, 1) := by decide +kernel
theorem d_TR_writeProof_20 : decode b_TR_writeProof 20 = .ok (.lastore, 1) := by decide +kernel
theorem d_TR_writeProof_21 : decode b_TR_writeProof 21 = .ok (.iconst 1, 1) := by decide +kernel
theorem d_TR_writeProof_22 : decode b_TR_writeProof 22 = .ok (.iload_n 3, 1) := by decide +kernel
theorem d_TR_writeProof_23 : decode b_TR_writeProof 23 = .ok (.iadd, 1) := by decide +kernel
theorem d_TR_writeProof_24 : decode b_TR_writeProof 24 = .ok (.istore 4, 2) := by decide +kernel
theorem d_TR_writeProof_26 : decode b_TR_writeProof 26 = .ok (.iconst 0, 1) := by decide +kernel
theorem d_TR_writeProof_27 : decode b_TR_writeProof 27 = .ok (.istore 5, 2) := by decide +kernel
theorem d_TR_writeProof_29 : decode b_TR_writeProof 29 = .ok (.iload 5, 2) := by decide +kernel
theorem d_TR_writeProof_31 : decode b_TR_writeProof 31 = .ok (.aload_n 0, 1) := by decide +kernel
theorem d_TR_writeProof_32 : decode b_TR_writeProof 32 = .ok (.getfield 25, 3) := by decide +kernel
theorem d_TR_writeProof_35 : decode b_TR_writeProof 35 = .ok (.if_icmp .ge 55, 3) := by decide +kernel
theorem d_TR_writeProof_38 : decode b_TR_writeProof 38 = .ok (.iload_n 1, 1) := by decide +kernel
theorem d_TR_writeProof_39 : decode b_TR_writeProof 39 = .ok (.aload_n 0, 1) := by decide +kernel
theorem d_TR_writeProof_40 : decode b_TR_writeProof 40 = .ok (.iload 5, 2) := by decide +kernel
theorem d_TR_writeProof_42 : decode b_TR_writeProof 42 = .ok (.invokevirtual 131, 3) := by decide +kernel
theorem d_TR_writeProof_45 : decode b_TR_writeProof 45 = .ok (.invokestatic 134, 3) := by decide +kernel
theorem d_TR_writeProof_48 : decode b_TR_writeProof 48 = .ok (.ifCond .eq 36, 3) := by decide +kernel
theorem d_TR_writeProof_51 : decode b_TR_writeProof 51 = .ok (.iload 4, 2) := by decide +kernel
theorem d_TR_writeProof_53 : decode b_TR_writeProof 53 = .ok (.aload_n 0, 1) := by decide +kernel
theorem d_TR_writeProof_54 : decode b_TR_writeProof 54 = .ok (.aload_n 0, 1) := by decide +kernel
theorem d_TR_writeProof_55 : decode b_TR_writeProof 55 = .ok (.getfield 32, 3) := by decide +kernel
theorem d_TR_writeProof_58 : decode b_TR_writeProof 58 = .ok (.iload 5, 2) := by decide +kernel
theorem d_TR_writeProof_60 : decode b_TR_writeProof 60 = .ok (.iaload, 1) := by decide +kernel
theorem d_TR_writeProof_61 : decode b_TR_writeProof 61 = .ok (.aload_n 0, 1) := by decide +kernel
theorem d_TR_writeProof_62 : decode b_TR_writeProof 62 = .ok (.getfield 35, 3) := by decide +kernel
theorem d_TR_writeProof_65 : decode b_TR_writeProof 65 = .ok (.iload 5, 2) := by decide +kernel
theorem d_TR_writeProof_67 : decode b_TR_writeProof 67 = .ok (.iaload, 1) := by decide +kernel
theorem d_TR_writeProof_68 : decode b_TR_writeProof 68 = .ok (.aload_n 0, 1) := by decide +kernel
theorem d_TR_writeProof_69 : decode b_TR_writeProof 69 = .ok (.getfield 38, 3) := by decide +kernel
theorem d_TR_writeProof_72 : decode b_TR_writeProof 72 = .ok (.iload 5, 2) := by decide +kernel
theorem d_TR_writeProof_74 : decode b_TR_writeProof 74 = .ok (.iaload, 1) := by decide +kernel
theorem d_TR_writeProof_75 : decode b_TR_writeProof 75 = .ok (.aload_n 2, 1) := by decide +kernel
theorem d_TR_writeProof_76 : decode b_TR_writeProof 76 = .ok (.iload 4, 2) := by decide +kernel
theorem d_TR_writeProof_78 : decode b_TR_writeProof 78 = .ok (.invokevirtual 120, 3) := by decide +kernel
theorem d_TR_writeProof_81 : decode b_TR_writeProof 81 = .ok (.iadd, 1) := by decide +kernel
theorem d_TR_writeProof_82 : decode b_TR_writeProof 82 = .ok (.istore 4, 2) := by decide +kernel
theorem d_TR_writeProof_84 : decode b_TR_writeProof 84 = .ok (.iinc 5 1, 3) := by decide +kernel
theorem d_TR_writeProof_87 : decode b_TR_writeProof 87 = .ok (.goto (-58), 3) := by decide +kernel
theorem d_TR_writeProof_90 : decode b_TR_writeProof 90 = .ok (.iload 4, 2) := by decide +kernel
theorem d_TR_writeProof_92 : decode b_TR_writeProof 92 = .ok (.ireturn, 1) := by decide +kernel
theorem d_TR_pathTo_0 : decode b_TR_pathTo 0 = .ok (.aload_n 0, 1) := by decide +kernel
theorem d_TR_pathTo_1 : decode b_TR_pathTo 1 = .ok (.getfield 12, 3) := by decide +kernel
theorem d_TR_pathTo_4 : decode b_TR_pathTo 4 = .ok (.getfield 85, 3) := by decide +kernel
theorem d_TR_pathTo_7 : decode b_TR_pathTo 7 = .ok (.aload_n 0, 1) := by decide +kernel
theorem d_TR_pathTo_8 : decode b_TR_pathTo 8 = .ok (.getfield 32, 3) := by decide +kernel
theorem d_TR_pathTo_11 : decode b_TR_pathTo 11 = .ok (.iload_n 1, 1) := by decide +kernel
theorem d_TR_pathTo_12 : decode b_TR_pathTo 12 = .ok (.iaload, 1) := by decide +kernel
theorem d_TR_pathTo_13 : decode b_TR_pathTo 13 = .ok (.iaload, 1) := by decide +kernel
theorem d_TR_pathTo_14 : decode b_TR_pathTo 14 = .ok (.aload_n 0, 1) := by decide +kernel
theorem d_TR_pathTo_15 : decode b_TR_pathTo 15 = .ok (.getfield 38, 3) := by decide +kernel
theorem d_TR_pathTo_18 : decode b_TR_pathTo 18 = .ok (.iload_n 1, 1) := by decide +kernel
theorem d_TR_pathTo_19 : decode b_TR_pathTo 19 = .ok (.iaload, 1) := by decide +kernel
theorem d_TR_pathTo_20 : decode b_TR_pathTo 20 = .ok (.invokestatic 128, 3) := by decide +kernel
theorem d_TR_pathTo_23 : decode b_TR_pathTo 23 = .ok (.ireturn, 1) := by decide +kernel
theorem d_TR_hasAmongFirst_0 : decode b_TR_hasAmongFirst 0 = .ok (.iconst 0, 1) := by decide +kernel
theorem d_TR_hasAmongFirst_1 : decode b_TR_hasAmongFirst 1 = .ok (.istore 4, 2) := by decide +kernel
theorem d_TR_hasAmongFirst_3 : decode b_TR_hasAmongFirst 3 = .ok (.iload 4, 2) := by decide +kernel
theorem d_TR_hasAmongFirst_5 : decode b_TR_hasAmongFirst 5 = .ok (.iload_n 1, 1) := by decide +kernel
theorem d_TR_hasAmongFirst_6 : decode b_TR_hasAmongFirst 6 = .ok (.if_icmp .ge 22, 3) := by decide +kernel
theorem d_TR_hasAmongFirst_9 : decode b_TR_hasAmongFirst 9 = .ok (.aload_n 0, 1) := by decide +kernel
theorem d_TR_hasAmongFirst_10 : decode b_TR_hasAmongFirst 10 = .ok (.iload 4, 2) := by decide +kernel
theorem d_TR_hasAmongFirst_12 : decode b_TR_hasAmongFirst 12 = .ok (.aload_n 2, 1) := by decide +kernel
theorem d_TR_hasAmongFirst_13 : decode b_TR_hasAmongFirst 13 = .ok (.iload_n 3, 1) := by decide +kernel
theorem d_TR_hasAmongFirst_14 : decode b_TR_hasAmongFirst 14 = .ok (.invokevirtual 137, 3) := by decide +kernel
theorem d_TR_hasAmongFirst_17 : decode b_TR_hasAmongFirst 17 = .ok (.ifCond .eq 5, 3) := by decide +kernel
theorem d_TR_hasAmongFirst_20 : decode b_TR_hasAmongFirst 20 = .ok (.iconst 1, 1) := by decide +kernel
theorem d_TR_hasAmongFirst_21 : decode b_TR_hasAmongFirst 21 = .ok (.ireturn, 1) := by decide +kernel
theorem d_TR_hasAmongFirst_22 : decode b_TR_hasAmongFirst 22 = .ok (.iinc 4 1, 3) := by decide +kernel
theorem d_TR_hasAmongFirst_25 : decode b_TR_hasAmongFirst 25 = .ok (.goto (-22), 3) := by decide +kernel
theorem d_TR_hasAmongFirst_28 : decode b_TR_hasAmongFirst 28 = .ok (.iconst 0, 1) := by decide +kernel
theorem d_TR_hasAmongFirst_29 : decode b_TR_hasAmongFirst 29 = .ok (.ireturn, 1) := by decide +kernel
theorem d_TR_isSame_0 : decode b_TR_isSame 0 = .ok (.aload_n 0, 1) := by decide +kernel
theorem d_TR_isSame_1 : decode b_TR_isSame 1 = .ok (.getfield 35, 3) := by decide +kernel
theorem d_TR_isSame_4 : decode b_TR_isSame 4 = .ok (.iload_n 1, 1) := by decide +kernel
theorem d_TR_isSame_5 : decode b_TR_isSame 5 = .ok (.iaload, 1) := by decide +kernel
theorem d_TR_isSame_6 : decode b_TR_isSame 6 = .ok (.aload_n 0, 1) := by decide +kernel
theorem d_TR_isSame_7 : decode b_TR_isSame 7 = .ok (.getfield 32, 3) := by decide +kernel
theorem d_TR_isSame_10 : decode b_TR_isSame 10 = .ok (.iload_n 1, 1) := by decide +kernel
theorem d_TR_isSame_11 : decode b_TR_isSame 11 = .ok (.iaload, 1) := by decide +kernel
theorem d_TR_isSame_12 : decode b_TR_isSame 12 = .ok (.isub, 1) := by decide +kernel
theorem d_TR_isSame_13 : decode b_TR_isSame 13 = .ok (.istore 4, 2) := by decide +kernel
theorem d_TR_isSame_15 : decode b_TR_isSame 15 = .ok (.iload 4, 2) := by decide +kernel
theorem d_TR_isSame_17 : decode b_TR_isSame 17 = .ok (.aload_n 2, 1) := by decide +kernel
theorem d_TR_isSame_18 : decode b_TR_isSame 18 = .ok (.getfield 35, 3) := by decide +kernel
theorem d_TR_isSame_21 : decode b_TR_isSame 21 = .ok (.iload_n 3, 1) := by decide +kernel
theorem d_TR_isSame_22 : decode b_TR_isSame 22 = .ok (.iaload, 1) := by decide +kernel
theorem d_TR_isSame_23 : decode b_TR_isSame 23 = .ok (.aload_n 2, 1) := by decide +kernel
theorem d_TR_isSame_24 : decode b_TR_isSame 24 = .ok (.getfield 32, 3) := by decide +kernel
theorem d_TR_isSame_27 : decode b_TR_isSame 27 = .ok (.iload_n 3, 1) := by decide +kernel
theorem d_TR_isSame_28 : decode b_TR_isSame 28 = .ok (.iaload, 1) := by decide +kernel
theorem d_TR_isSame_29 : decode b_TR_isSame 29 = .ok (.isub, 1) := by decide +kernel
theorem d_TR_isSame_30 : decode b_TR_isSame 30 = .ok (.if_icmp .eq 5, 3) := by decide +kernel
theorem d_TR_isSame_33 : decode b_TR_isSame 33 = .ok (.iconst 0, 1) := by decide +kernel
theorem d_TR_isSame_34 : decode b_TR_isSame 34 = .ok (.ireturn, 1) := by decide +kernel
theorem d_TR_isSame_35 : decode b_TR_isSame 35 = .ok (.iconst 0, 1) := by decide +kernel
theorem d_TR_isSame_36 : decode b_TR_isSame 36 = .ok (.istore 5, 2) := by decide +kernel
theorem d_TR_isSame_38 : decode b_TR_isSame 38 = .ok (.iload 5, 2) := by decide +kernel
theorem d_TR_isSame_40 : decode b_TR_isSame 40 = .ok (.iload 4, 2) := by decide +kernel
theorem d_TR_isSame_42 : decode b_TR_isSame 42 = .ok (.if_icmp .ge 105, 3) := by decide +kernel
theorem d_TR_isSame_45 : decode b_TR_isSame 45 = .ok (.aload_n 0, 1) := by decide +kernel
theorem d_TR_isSame_46 : decode b_TR_isSame 46 = .ok (.getfield 32, 3) := by decide +kernel
theorem d_TR_isSame_49 : decode b_TR_isSame 49 = .ok (.iload_n 1, 1) := by decide +kernel
theorem d_TR_isSame_50 : decode b_TR_isSame 50 = .ok (.iaload, 1) := by decide +kernel
theorem d_TR_isSame_51 : decode b_TR_isSame 51 = .ok (.iload 5, 2) := by decide +kernel
theorem d_TR_isSame_53 : decode b_TR_isSame 53 = .ok (.iadd, 1) := by decide +kernel
theorem d_TR_isSame_54 : decode b_TR_isSame 54 = .ok (.istore 6, 2) := by decide +kernel
theorem d_TR_isSame_56 : decode b_TR_isSame 56 = .ok (.aload_n 2, 1) := by decide +kernel
theorem d_TR_isSame_57 : decode b_TR_isSame 57 = .ok (.getfield 32, 3) := by decide +kernel
theorem d_TR_isSame_60 : decode b_TR_isSame 60 = .ok (.iload_n 3, 1) := by decide +kernel
theorem d_TR_isSame_61 : decode b_TR_isSame 61 = .ok (.iaload, 1) := by decide +kernel
theorem d_TR_isSame_62 : decode b_TR_isSame 62 = .ok (.iload 5, 2) := by decide +kernel
theorem d_TR_isSame_64 : decode b_TR_isSame 64 = .ok (.iadd, 1) := by decide +kernel
theorem d_TR_isSame_65 : decode b_TR_isSame 65 = .ok (.istore 7, 2) := by decide +kernel
theorem d_TR_isSame_67 : decode b_TR_isSame 67 = .ok (.aload_n 0, 1) := by decide +kernel
theorem d_TR_isSame_68 : decode b_TR_isSame 68 = .ok (.getfield 12, 3) := by decide +kernel
theorem d_TR_isSame_71 : decode b_TR_isSame 71 = .ok (.getfield 85, 3) := by decide +kernel
theorem d_TR_isSame_74 : decode b_TR_isSame 74 = .ok (.iload 6, 2) := by decide +kernel
theorem d_TR_isSame_76 : decode b_TR_isSame 76 = .ok (.iaload, 1) := by decide +kernel
theorem d_TR_isSame_77 : decode b_TR_isSame 77 = .ok (.aload_n 0, 1) := by decide +kernel
theorem d_TR_isSame_78 : decode b_TR_isSame 78 = .ok (.getfield 38, 3) := by decide +kernel
theorem d_TR_isSame_81 : decode b_TR_isSame 81 = .ok (.iload_n 1, 1) := by decide +kernel
theorem d_TR_isSame_82 : decode b_TR_isSame 82 = .ok (.iaload, 1) := by decide +kernel
theorem d_TR_isSame_83 : decode b_TR_isSame 83 = .ok (.invokestatic 125, 3) := by decide +kernel
theorem d_TR_isSame_86 : decode b_TR_isSame 86 = .ok (.istore 8, 2) := by decide +kernel
theorem d_TR_isSame_88 : decode b_TR_isSame 88 = .ok (.aload_n 2, 1) := by decide +kernel
theorem d_TR_isSame_89 : decode b_TR_isSame 89 = .ok (.getfield 12, 3) := by decide +kernel
theorem d_TR_isSame_92 : decode b_TR_isSame 92 = .ok (.getfield 85, 3) := by decide +kernel
theorem d_TR_isSame_95 : decode b_TR_isSame 95 = .ok (.iload 7, 2) := by decide +kernel
theorem d_TR_isSame_97 : decode b_TR_isSame 97 = .ok (.iaload, 1) := by decide +kernel
theorem d_TR_isSame_98 : decode b_TR_isSame 98 = .ok (.aload_n 2, 1) := by decide +kernel
theorem d_TR_isSame_99 : decode b_TR_isSame 99 = .ok (.getfield 38, 3) := by decide +kernel
theorem d_TR_isSame_102 : decode b_TR_isSame 102 = .ok (.iload_n 3, 1) := by decide +kernel
theorem d_TR_isSame_103 : decode b_TR_isSame 103 = .ok (.iaload, 1) := by decide +kernel
theorem d_TR_isSame_104 : decode b_TR_isSame 104 = .ok (.invokestatic 125, 3) := by decide +kernel
theorem d_TR_isSame_107 : decode b_TR_isSame 107 = .ok (.istore 9, 2) := by decide +kernel
theorem d_TR_isSame_109 : decode b_TR_isSame 109 = .ok (.iload 8, 2) := by decide +kernel
theorem d_TR_isSame_111 : decode b_TR_isSame 111 = .ok (.iload 9, 2) := by decide +kernel
theorem d_TR_isSame_113 : decode b_TR_isSame 113 = .ok (.if_icmp .ne 26, 3) := by decide +kernel
theorem d_TR_isSame_116 : decode b_TR_isSame 116 = .ok (.aload_n 0, 1) := by decide +kernel
theorem d_TR_isSame_117 : decode b_TR_isSame 117 = .ok (.getfield 12, 3) := by decide +kernel
theorem d_TR_isSame_120 : decode b_TR_isSame 120 = .ok (.getfield 61, 3) := by decide +kernel
theorem d_TR_isSame_123 : decode b_TR_isSame 123 = .ok (.iload 6, 2) := by decide +kernel
theorem d_TR_isSame_125 : decode b_TR_isSame 125 = .ok (.iaload, 1) := by decide +kernel
theorem d_TR_isSame_126 : decode b_TR_isSame 126 = .ok (.aload_n 2, 1) := by decide +kernel
theorem d_TR_isSame_127 : decode b_TR_isSame 127 = .ok (.getfield 12, 3) := by decide +kernel
theorem d_TR_isSame_130 : decode b_TR_isSame 130 = .ok (.getfield 61, 3) := by decide +kernel
theorem d_TR_isSame_133 : decode b_TR_isSame 133 = .ok (.iload 7, 2) := by decide +kernel
theorem d_TR_isSame_135 : decode b_TR_isSame 135 = .ok (.iaload, 1) := by decide +kernel
theorem d_TR_isSame_136 : decode b_TR_isSame 136 = .ok (.if_icmp .eq 5, 3) := by decide +kernel
theorem d_TR_isSame_139 : decode b_TR_isSame 139 = .ok (.iconst 0, 1) := by decide +kernel
theorem d_TR_isSame_140 : decode b_TR_isSame 140 = .ok (.ireturn, 1) := by decide +kernel
theorem d_TR_isSame_141 : decode b_TR_isSame 141 = .ok (.iinc 5 1, 3) := by decide +kernel
theorem d_TR_isSame_144 : decode b_TR_isSame 144 = .ok (.goto (-106), 3) := by decide +kernel
theorem d_TR_isSame_147 : decode b_TR_isSame 147 = .ok (.iconst 1, 1) := by decide +kernel
theorem d_TR_isSame_148 : decode b_TR_isSame 148 = .ok (.ireturn, 1) := by decide +kernel
