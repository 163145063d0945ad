theorem d_MO_place_5 : decode b_MO_place 5 = .ok (.iload_n 3, 1) := by decide +kernel
theorem d_MO_place_6 : decode b_MO_place 6 = .ok (.bipush 16, 2) := by decide +kernel
theorem d_MO_place_8 : decode b_MO_place 8 = .ok (.iload_n 1, 1) := by decide +kernel
theorem d_MO_place_9 : decode b_MO_place 9 = .ok (.imul, 1) := by decide +kernel
theorem d_MO_place_10 : decode b_MO_place 10 = .ok (.aload_n 0, 1) := by decide +kernel
theorem d_MO_place_11 : decode b_MO_place 11 = .ok (.getfield 26, 3) := by decide +kernel
theorem d_MO_place_14 : decode b_MO_place 14 = .ok (.iload_n 1, 1) := by decide +kernel
theorem d_MO_place_15 : decode b_MO_place 15 = .ok (.iaload, 1) := by decide +kernel
theorem d_MO_place_16 : decode b_MO_place 16 = .ok (.iadd, 1) := by decide +kernel
theorem d_MO_place_17 : decode b_MO_place 17 = .ok (.if_icmp .ge 21, 3) := by decide +kernel
theorem d_MO_place_20 : decode b_MO_place 20 = .ok (.aload_n 0, 1) := by decide +kernel
theorem d_MO_place_21 : decode b_MO_place 21 = .ok (.getfield 19, 3) := by decide +kernel
theorem d_MO_place_24 : decode b_MO_place 24 = .ok (.iload_n 3, 1) := by decide +kernel
theorem d_MO_place_25 : decode b_MO_place 25 = .ok (.iaload, 1) := by decide +kernel
theorem d_MO_place_26 : decode b_MO_place 26 = .ok (.iload_n 2, 1) := by decide +kernel
theorem d_MO_place_27 : decode b_MO_place 27 = .ok (.if_icmp .ne 5, 3) := by decide +kernel
theorem d_MO_place_30 : decode b_MO_place 30 = .ok (.iload_n 3, 1) := by decide +kernel
theorem d_MO_place_31 : decode b_MO_place 31 = .ok (.ireturn, 1) := by decide +kernel
theorem d_MO_place_32 : decode b_MO_place 32 = .ok (.iinc 3 1, 3) := by decide +kernel
theorem d_MO_place_35 : decode b_MO_place 35 = .ok (.goto (-30), 3) := by decide +kernel
theorem d_MO_place_38 : decode b_MO_place 38 = .ok (.iconst (-1), 1) := by decide +kernel
theorem d_MO_place_39 : decode b_MO_place 39 = .ok (.ireturn, 1) := by decide +kernel
theorem d_MO_say_0 : decode b_MO_say 0 = .ok (.aload_n 0, 1) := by decide +kernel
theorem d_MO_say_1 : decode b_MO_say 1 = .ok (.getfield 29, 3) := by decide +kernel
theorem d_MO_say_4 : decode b_MO_say 4 = .ok (.aload_n 0, 1) := by decide +kernel
theorem d_MO_say_5 : decode b_MO_say 5 = .ok (.getfield 65, 3) := by decide +kernel
theorem d_MO_say_8 : decode b_MO_say 8 = .ok (.lload_n 1, 1) := by decide +kernel
theorem d_MO_say_9 : decode b_MO_say 9 = .ok (.lastore, 1) := by decide +kernel
theorem d_MO_say_10 : decode b_MO_say 10 = .ok (.aload_n 0, 1) := by decide +kernel
theorem d_MO_say_11 : decode b_MO_say 11 = .ok (.dup, 1) := by decide +kernel
theorem d_MO_say_12 : decode b_MO_say 12 = .ok (.getfield 65, 3) := by decide +kernel
theorem d_MO_say_15 : decode b_MO_say 15 = .ok (.iconst 1, 1) := by decide +kernel
theorem d_MO_say_16 : decode b_MO_say 16 = .ok (.iadd, 1) := by decide +kernel
theorem d_MO_say_17 : decode b_MO_say 17 = .ok (.putfield 65, 3) := by decide +kernel
theorem d_MO_say_20 : decode b_MO_say 20 = .ok (.return_, 1) := by decide +kernel
theorem d_MO_reference_0 : decode b_MO_reference 0 = .ok (.aload_n 0, 1) := by decide +kernel
theorem d_MO_reference_1 : decode b_MO_reference 1 = .ok (.iload_n 1, 1) := by decide +kernel
theorem d_MO_reference_2 : decode b_MO_reference 2 = .ok (.iload_n 2, 1) := by decide +kernel
theorem d_MO_reference_3 : decode b_MO_reference 3 = .ok (.invokevirtual 56, 3) := by decide +kernel
theorem d_MO_reference_6 : decode b_MO_reference 6 = .ok (.istore 4, 2) := by decide +kernel
theorem d_MO_reference_8 : decode b_MO_reference 8 = .ok (.iload 4, 2) := by decide +kernel
theorem d_MO_reference_10 : decode b_MO_reference 10 = .ok (.ifCond .ne 13, 3) := by decide +kernel
theorem d_MO_reference_13 : decode b_MO_reference 13 = .ok (.iload_n 3, 1) := by decide +kernel
theorem d_MO_reference_14 : decode b_MO_reference 14 = .ok (.ifCond .eq 8, 3) := by decide +kernel
theorem d_MO_reference_17 : decode b_MO_reference 17 = .ok (.aload_n 0, 1) := by decide +kernel
theorem d_MO_reference_18 : decode b_MO_reference 18 = .ok (.lconst 0, 1) := by decide +kernel
theorem d_MO_reference_19 : decode b_MO_reference 19 = .ok (.invokevirtual 68, 3) := by decide +kernel
theorem d_MO_reference_22 : decode b_MO_reference 22 = .ok (.return_, 1) := by decide +kernel
theorem d_MO_reference_23 : decode b_MO_reference 23 = .ok (.iload 4, 2) := by decide +kernel
theorem d_MO_reference_25 : decode b_MO_reference 25 = .ok (.iconst 1, 1) := by decide +kernel
theorem d_MO_reference_26 : decode b_MO_reference 26 = .ok (.if_icmp .ne 57, 3) := by decide +kernel
theorem d_MO_reference_29 : decode b_MO_reference 29 = .ok (.aload_n 0, 1) := by decide +kernel
theorem d_MO_reference_30 : decode b_MO_reference 30 = .ok (.iload_n 1, 1) := by decide +kernel
theorem d_MO_reference_31 : decode b_MO_reference 31 = .ok (.iload_n 2, 1) := by decide +kernel
theorem d_MO_reference_32 : decode b_MO_reference 32 = .ok (.invokevirtual 59, 3) := by decide +kernel
theorem d_MO_reference_35 : decode b_MO_reference 35 = .ok (.istore 5, 2) := by decide +kernel
theorem d_MO_reference_37 : decode b_MO_reference 37 = .ok (.iload_n 3, 1) := by decide +kernel
theorem d_MO_reference_38 : decode b_MO_reference 38 = .ok (.ifCond .eq 10, 3) := by decide +kernel
theorem d_MO_reference_41 : decode b_MO_reference 41 = .ok (.aload_n 0, 1) := by decide +kernel
theorem d_MO_reference_42 : decode b_MO_reference 42 = .ok (.ldc2_w 72, 3) := by decide +kernel
theorem d_MO_reference_45 : decode b_MO_reference 45 = .ok (.invokevirtual 68, 3) := by decide +kernel
theorem d_MO_reference_48 : decode b_MO_reference 48 = .ok (.aload_n 0, 1) := by decide +kernel
theorem d_MO_reference_49 : decode b_MO_reference 49 = .ok (.ldc2_w 72, 3) := by decide +kernel
theorem d_MO_reference_52 : decode b_MO_reference 52 = .ok (.aload_n 0, 1) := by decide +kernel
theorem d_MO_reference_53 : decode b_MO_reference 53 = .ok (.getfield 7, 3) := by decide +kernel
theorem d_MO_reference_56 : decode b_MO_reference 56 = .ok (.iload 5, 2) := by decide +kernel
theorem d_MO_reference_58 : decode b_MO_reference 58 = .ok (.iaload, 1) := by decide +kernel
theorem d_MO_reference_59 : decode b_MO_reference 59 = .ok (.iload_n 2, 1) := by decide +kernel
theorem d_MO_reference_60 : decode b_MO_reference 60 = .ok (.invokestatic 74, 3) := by decide +kernel
theorem d_MO_reference_63 : decode b_MO_reference 63 = .ok (.i2l, 1) := by decide +kernel
theorem d_MO_reference_64 : decode b_MO_reference 64 = .ok (.lmul, 1) := by decide +kernel
theorem d_MO_reference_65 : decode b_MO_reference 65 = .ok (.lconst 1, 1) := by decide +kernel
theorem d_MO_reference_66 : decode b_MO_reference 66 = .ok (.ladd, 1) := by decide +kernel
theorem d_MO_reference_67 : decode b_MO_reference 67 = .ok (.invokevirtual 68, 3) := by decide +kernel
theorem d_MO_reference_70 : decode b_MO_reference 70 = .ok (.aload_n 0, 1) := by decide +kernel
theorem d_MO_reference_71 : decode b_MO_reference 71 = .ok (.aload_n 0, 1) := by decide +kernel
theorem d_MO_reference_72 : decode b_MO_reference 72 = .ok (.getfield 13, 3) := by decide +kernel
theorem d_MO_reference_75 : decode b_MO_reference 75 = .ok (.iload 5, 2) := by decide +kernel
theorem d_MO_reference_77 : decode b_MO_reference 77 = .ok (.iaload, 1) := by decide +kernel
theorem d_MO_reference_78 : decode b_MO_reference 78 = .ok (.i2l, 1) := by decide +kernel
theorem d_MO_reference_79 : decode b_MO_reference 79 = .ok (.invokevirtual 68, 3) := by decide +kernel
theorem d_MO_reference_82 : decode b_MO_reference 82 = .ok (.return_, 1) := by decide +kernel
theorem d_MO_reference_83 : decode b_MO_reference 83 = .ok (.aload_n 0, 1) := by decide +kernel
theorem d_MO_reference_84 : decode b_MO_reference 84 = .ok (.iload_n 1, 1) := by decide +kernel
theorem d_MO_reference_85 : decode b_MO_reference 85 = .ok (.iload_n 2, 1) := by decide +kernel
theorem d_MO_reference_86 : decode b_MO_reference 86 = .ok (.invokevirtual 62, 3) := by decide +kernel
theorem d_MO_reference_89 : decode b_MO_reference 89 = .ok (.istore 5, 2) := by decide +kernel
theorem d_MO_reference_91 : decode b_MO_reference 91 = .ok (.iload_n 3, 1) := by decide +kernel
theorem d_MO_reference_92 : decode b_MO_reference 92 = .ok (.ifCond .eq 20, 3) := by decide +kernel
theorem d_MO_reference_95 : decode b_MO_reference 95 = .ok (.aload_n 0, 1) := by decide +kernel
theorem d_MO_reference_96 : decode b_MO_reference 96 = .ok (.iload 5, 2) := by decide +kernel
theorem d_MO_reference_98 : decode b_MO_reference 98 = .ok (.iload_n 2, 1) := by decide +kernel
theorem d_MO_reference_99 : decode b_MO_reference 99 = .ok (.if_icmp .ne 7, 3) := by decide +kernel
theorem d_MO_reference_102 : decode b_MO_reference 102 = .ok (.lconst 1, 1) := by decide +kernel
theorem d_MO_reference_103 : decode b_MO_reference 103 = .ok (.goto 6, 3) := by decide +kernel
theorem d_MO_reference_106 : decode b_MO_reference 106 = .ok (.ldc2_w 72, 3) := by decide +kernel
theorem d_MO_reference_109 : decode b_MO_reference 109 = .ok (.invokevirtual 68, 3) := by decide +kernel
theorem d_MO_reference_112 : decode b_MO_reference 112 = .ok (.iload 5, 2) := by decide +kernel
theorem d_MO_reference_114 : decode b_MO_reference 114 = .ok (.iload_n 2, 1) := by decide +kernel
theorem d_MO_reference_115 : decode b_MO_reference 115 = .ok (.if_icmp .eq 18, 3) := by decide +kernel
theorem d_MO_reference_118 : decode b_MO_reference 118 = .ok (.aload_n 0, 1) := by decide +kernel
theorem d_MO_reference_119 : decode b_MO_reference 119 = .ok (.ldc2_w 72, 3) := by decide +kernel
theorem d_MO_reference_122 : decode b_MO_reference 122 = .ok (.iload 5, 2) := by decide +kernel
theorem d_MO_reference_124 : decode b_MO_reference 124 = .ok (.iload_n 2, 1) := by decide +kernel
theorem d_MO_reference_125 : decode b_MO_reference 125 = .ok (.invokestatic 74, 3) := by decide +kernel
theorem d_MO_reference_128 : decode b_MO_reference 128 = .ok (.i2l, 1) := by decide +kernel
theorem d_MO_reference_129 : decode b_MO_reference 129 = .ok (.lmul, 1) := by decide +kernel
theorem d_MO_reference_130 : decode b_MO_reference 130 = .ok (.invokevirtual 68, 3) := by decide +kernel
theorem d_MO_reference_133 : decode b_MO_reference 133 = .ok (.aload_n 0, 1) := by decide +kernel
theorem d_MO_reference_134 : decode b_MO_reference 134 = .ok (.aload_n 0, 1) := by decide +kernel
theorem d_MO_reference_135 : decode b_MO_reference 135 = .ok (.getfield 22, 3) := by decide +kernel
theorem d_MO_reference_138 : decode b_MO_reference 138 = .ok (.aload_n 0, 1) := by decide +kernel
theorem d_MO_reference_139 : decode b_MO_reference 139 = .ok (.iload_n 1, 1) := by decide +kernel
theorem d_MO_reference_140 : decode b_MO_reference 140 = .ok (.iload 5, 2) := by decide +kernel
theorem d_MO_reference_142 : decode b_MO_reference 142 = .ok (.invokevirtual 77, 3) := by decide +kernel
theorem d_MO_reference_145 : decode b_MO_reference 145 = .ok (.laload, 1) := by decide +kernel
theorem d_MO_reference_146 : decode b_MO_reference 146 = .ok (.invokevirtual 68, 3) := by decide +kernel
theorem d_MO_reference_149 : decode b_MO_reference 149 = .ok (.return_, 1) := by decide +kernel
theorem d_MO_encode_0 : decode b_MO_encode 0 = .ok (.iconst 0, 1) := by decide +kernel
theorem d_MO_encode_1 : decode b_MO_encode 1 = .ok (.istore_n 3, 1) := by decide +kernel
theorem d_MO_encode_2 : decode b_MO_encode 2 = .ok (.iload_n 3, 1) := by decide +kernel
theorem d_MO_encode_3 : decode b_MO_encode 3 = .ok (.bipush 16, 2) := by decide +kernel
theorem d_MO_encode_5 : decode b_MO_encode 5 = .ok (.if_icmp .ge 21, 3) := by decide +kernel
theorem d_MO_encode_8 : decode b_MO_encode 8 = .ok (.aload_n 0, 1) := by decide +kernel
theorem d_MO_encode_9 : decode b_MO_encode 9 = .ok (.iload_n 1, 1) := by decide +kernel
theorem d_MO_encode_10 : decode b_MO_encode 10 = .ok (.bipush 16, 2) := by decide +kernel
theorem d_MO_encode_12 : decode b_MO_encode 12 = .ok (.iload_n 2, 1) := by decide +kernel
theorem d_MO_encode_13 : decode b_MO_encode 13 = .ok (.imul, 1) := by decide +kernel
theorem d_MO_encode_14 : decode b_MO_encode 14 = .ok (.iload_n 3, 1) := by decide +kernel
theorem d_MO_encode_15 : decode b_MO_encode 15 = .ok (.iadd, 1) := by decide +kernel
theorem d_MO_encode_16 : decode b_MO_encode 16 = .ok (.iconst 1, 1) := by decide +kernel
theorem d_MO_encode_17 : decode b_MO_encode 17 = .ok (.invokevirtual 80, 3) := by decide +kernel
theorem d_MO_encode_20 : decode b_MO_encode 20 = .ok (.iinc 3 1, 3) := by decide +kernel
theorem d_MO_encode_23 : decode b_MO_encode 23 = .ok (.goto (-21), 3) := by decide +kernel
theorem d_MO_encode_26 : decode b_MO_encode 26 = .ok (.aload_n 0, 1) := by decide +kernel
theorem d_MO_encode_27 : decode b_MO_encode 27 = .ok (.aload_n 0, 1) := by decide +kernel
theorem d_MO_encode_28 : decode b_MO_encode 28 = .ok (.iload_n 1, 1) := by decide +kernel
theorem d_MO_encode_29 : decode b_MO_encode 29 = .ok (.iload_n 2, 1) := by decide +kernel
theorem d_MO_encode_30 : decode b_MO_encode 30 = .ok (.invokevirtual 49, 3) := by decide +kernel
theorem d_MO_encode_33 : decode b_MO_encode 33 = .ok (.i2l, 1) := by decide +kernel
theorem d_MO_encode_34 : decode b_MO_encode 34 = .ok (.invokevirtual 68, 3) := by decide +kernel
theorem d_MO_encode_37 : decode b_MO_encode 37 = .ok (.return_, 1) := by decide +kernel
theorem d_MO_mixed_0 : decode b_MO_mixed 0 = .ok (.lload_n 0, 1) := by decide +kernel
theorem d_MO_mixed_1 : decode b_MO_mixed 1 = .ok (.lload_n 2, 1) := by decide +kernel
theorem d_MO_mixed_2 : decode b_MO_mixed 2 = .ok (.lxor, 1) := by decide +kernel
theorem d_MO_mixed_3 : decode b_MO_mixed 3 = .ok (.ldc2_w 84, 3) := by decide +kernel
theorem d_MO_mixed_6 : decode b_MO_mixed 6 = .ok (.lmul, 1) := by decide +kernel
theorem d_MO_mixed_7 : decode b_MO_mixed 7 = .ok (.lstore 4, 2) := by decide +kernel
theorem d_MO_mixed_9 : decode b_MO_mixed 9 = .ok (.lload 4, 2) := by decide +kernel
theorem d_MO_mixed_11 : decode b_MO_mixed 11 = .ok (.lload 4, 2) := by decide +kernel
theorem d_MO_mixed_13 : decode b_MO_mixed 13 = .ok (.bipush 29, 2) := by decide +kernel
theorem d_MO_mixed_15 : decode b_MO_mixed 15 = .ok (.lushr, 1) := by decide +kernel
theorem d_MO_mixed_16 : decode b_MO_mixed 16 = .ok (.lxor, 1) := by decide +kernel
theorem d_MO_mixed_17 : decode b_MO_mixed 17 = .ok (.lreturn, 1) := by decide +kernel
theorem d_MO_digestOfWords_0 : decode b_MO_digestOfWords 0 = .ok (.aload_n 0, 1) := by decide +kernel
theorem d_MO_digestOfWords_1 : decode b_MO_digestOfWords 1 = .ok (.getfield 65, 3) := by decide +kernel
theorem d_MO_digestOfWords_4 : decode b_MO_digestOfWords 4 = .ok (.i2l, 1) := by decide +kernel
theorem d_MO_digestOfWords_5 : decode b_MO_digestOfWords 5 = .ok (.lstore_n 1, 1) := by decide +kernel
theorem d_MO_digestOfWords_6 : decode b_MO_digestOfWords 6 = .ok (.iconst 0, 1) := by decide +kernel
theorem d_MO_digestOfWords_7 : decode b_MO_digestOfWords 7 = .ok (.istore_n 3, 1) := by decide +kernel
theorem d_MO_digestOfWords_8 : decode b_MO_digestOfWords 8 = .ok (.iload_n 3, 1) := by decide +kernel
theorem d_MO_digestOfWords_9 : decode b_MO_digestOfWords 9 = .ok (.aload_n 0, 1) := by decide +kernel
theorem d_MO_digestOfWords_10 : decode b_MO_digestOfWords 10 = .ok (.getfield 65, 3) := by decide +kernel
theorem d_MO_digestOfWords_13 : decode b_MO_digestOfWords 13 = .ok (.if_icmp .ge 20, 3) := by decide +kernel
theorem d_MO_digestOfWords_16 : decode b_MO_digestOfWords 16 = .ok (.lload_n 1, 1) := by decide +kernel
theorem d_MO_digestOfWords_17 : decode b_MO_digestOfWords 17 = .ok (.aload_n 0, 1) := by decide +kernel
theorem d_MO_digestOfWords_18 : decode b_MO_digestOfWords 18 = .ok (.getfield 29, 3) := by decide +kernel
theorem d_MO_digestOfWords_21 : decode b_MO_digestOfWords 21 = .ok (.iload_n 3, 1) := by decide +kernel
theorem d_MO_digestOfWords_22 : decode b_MO_digestOfWords 22 = .ok (.laload, 1) := by decide +kernel
theorem d_MO_digestOfWords_23 : decode b_MO_digestOfWords 23 = .ok (.invokestatic 86, 3) := by decide +kernel
theorem d_MO_digestOfWords_26 : decode b_MO_digestOfWords 26 = .ok (.lstore_n 1, 1) := by decide +kernel
theorem d_MO_digestOfWords_27 : decode b_MO_digestOfWords 27 = .ok (.iinc 3 1, 3) := by decide +kernel
theorem d_MO_digestOfWords_30 : decode b_MO_digestOfWords 30 = .ok (.goto (-22), 3) := by decide +kernel
theorem d_MO_digestOfWords_33 : decode b_MO_digestOfWords 33 = .ok (.lload_n 1, 1) := by decide +kernel
theorem d_MO_digestOfWords_34 : decode b_MO_digestOfWords 34 = .ok (.lreturn, 1) := by decide +kernel
theorem d_MO_build_0 : decode b_MO_build 0 = .ok (.aload_n 0, 1) := by decide +kernel
theorem d_MO_build_1 : decode b_MO_build 1 = .ok (.getfield 26, 3) := by decide +kernel
theorem d_MO_build_4 : decode b_MO_build 4 = .ok (.iload_n 1, 1) := by decide +kernel
theorem d_MO_build_5 : decode b_MO_build 5 = .ok (.iconst 0, 1) := by decide +kernel
theorem d_MO_build_6 : decode b_MO_build 6 = .ok (.iastore, 1) := by decide +kernel
theorem d_MO_build_7 : decode b_MO_build 7 = .ok (.iconst 3, 1) := by decide +kernel
theorem d_MO_build_8 : decode b_MO_build 8 = .ok (.istore_n 2, 1) := by decide +kernel
theorem d_MO_build_9 : decode b_MO_build 9 = .ok (.iload_n 2, 1) := by decide +kernel
theorem d_MO_build_10 : decode b_MO_build 10 = .ok (.ifCond .lt 155, 3) := by decide +kernel
theorem d_MO_build_13 : decode b_MO_build 13 = .ok (.bipush 16, 2) := by decide +kernel
theorem d_MO_build_15 : decode b_MO_build 15 = .ok (.iload_n 1, 1) := by decide +kernel
theorem d_MO_build_16 : decode b_MO_build 16 = .ok (.imul, 1) := by decide +kernel
theorem d_MO_build_17 : decode b_MO_build 17 = .ok (.istore_n 3, 1) := by decide +kernel
theorem d_MO_build_18 : decode b_MO_build 18 = .ok (.iload_n 3, 1) := by decide +kernel
theorem d_MO_build_19 : decode b_MO_build 19 = .ok (.bipush 16, 2) := by decide +kernel
theorem d_MO_build_21 : decode b_MO_build 21 = .ok (.iload_n 1, 1) := by decide +kernel
theorem d_MO_build_22 : decode b_MO_build 22 = .ok (.imul, 1) := by decide +kernel
theorem d_MO_build_23 : decode b_MO_build 23 = .ok (.aload_n 0, 1) := by decide +kernel
theorem d_MO_build_24 : decode b_MO_build 24 = .ok (.getfield 16, 3) := by decide +kernel
theorem d_MO_build_27 : decode b_MO_build 27 = .ok (.iload_n 1, 1) := by decide +kernel
theorem d_MO_build_28 : decode b_MO_build 28 = .ok (.iaload, 1) := by decide +kernel
theorem d_MO_build_29 : decode b_MO_build 29 = .ok (.iadd, 1) := by decide +kernel
theorem d_MO_build_30 : decode b_MO_build 30 = .ok (.if_icmp .ge 129, 3) := by decide +kernel
theorem d_MO_build_33 : decode b_MO_build 33 = .ok (.aload_n 0, 1) := by decide +kernel
theorem d_MO_build_34 : decode b_MO_build 34 = .ok (.getfield 7, 3) := by decide +kernel
theorem d_MO_build_37 : decode b_MO_build 37 = .ok (.iload_n 3, 1) := by decide +kernel
theorem d_MO_build_38 : decode b_MO_build 38 = .ok (.iaload, 1) := by decide +kernel
theorem d_MO_build_39 : decode b_MO_build 39 = .ok (.invokestatic 41, 3) := by decide +kernel
theorem d_MO_build_42 : decode b_MO_build 42 = .ok (.iload_n 2, 1) := by decide +kernel
theorem d_MO_build_43 : decode b_MO_build 43 = .ok (.isub, 1) := by decide +kernel
theorem d_MO_build_44 : decode b_MO_build 44 = .ok (.istore 4, 2) := by decide +kernel
theorem d_MO_build_46 : decode b_MO_build 46 = .ok (.iload 4, 2) := by decide +kernel
theorem d_MO_build_48 : decode b_MO_build 48 = .ok (.ifCond .lt 17, 3) := by decide +kernel
theorem d_MO_build_51 : decode b_MO_build 51 = .ok (.aload_n 0, 1) := by decide +kernel
theorem d_MO_build_52 : decode b_MO_build 52 = .ok (.getfield 7, 3) := by decide +kernel
theorem d_MO_build_55 : decode b_MO_build 55 = .ok (.iload_n 3, 1) := by decide +kernel
theorem d_MO_build_56 : decode b_MO_build 56 = .ok (.iaload, 1) := by decide +kernel
theorem d_MO_build_57 : decode b_MO_build 57 = .ok (.iconst 4, 1) := by decide +kernel
theorem d_MO_build_58 : decode b_MO_build 58 = .ok (.iload 4, 2) := by decide +kernel
theorem d_MO_build_60 : decode b_MO_build 60 = .ok (.imul, 1) := by decide +kernel
theorem d_MO_build_61 : decode b_MO_build 61 = .ok (.ishr, 1) := by decide +kernel
theorem d_MO_build_62 : decode b_MO_build 62 = .ok (.goto 4, 3) := by decide +kernel
theorem d_MO_build_65 : decode b_MO_build 65 = .ok (.iconst (-1), 1) := by decide +kernel
theorem d_MO_build_66 : decode b_MO_build 66 = .ok (.istore 5, 2) := by decide +kernel
theorem d_MO_build_68 : decode b_MO_build 68 = .ok (.iload 5, 2) := by decide +kernel
theorem d_MO_build_70 : decode b_MO_build 70 = .ok (.ifCond .le 83, 3) := by decide +kernel
theorem d_MO_build_73 : decode b_MO_build 73 = .ok (.aload_n 0, 1) := by decide +kernel
theorem d_MO_build_74 : decode b_MO_build 74 = .ok (.iload_n 1, 1) := by decide +kernel
theorem d_MO_build_75 : decode b_MO_build 75 = .ok (.iload 5, 2) := by decide +kernel
theorem d_MO_build_77 : decode b_MO_build 77 = .ok (.invokevirtual 77, 3) := by decide +kernel
theorem d_MO_build_80 : decode b_MO_build 80 = .ok (.ifCond .ge 73, 3) := by decide +kernel
theorem d_MO_build_83 : decode b_MO_build 83 = .ok (.aload_n 0, 1) := by decide +kernel
theorem d_MO_build_84 : decode b_MO_build 84 = .ok (.iload_n 1, 1) := by decide +kernel
theorem d_MO_build_85 : decode b_MO_build 85 = .ok (.iload 5, 2) := by decide +kernel
theorem d_MO_build_87 : decode b_MO_build 87 = .ok (.invokevirtual 90, 3) := by decide +kernel
theorem d_MO_build_90 : decode b_MO_build 90 = .ok (.ifCond .eq 63, 3) := by decide +kernel
theorem d_MO_build_93 : decode b_MO_build 93 = .ok (.aload_n 0, 1) := by decide +kernel
theorem d_MO_build_94 : decode b_MO_build 94 = .ok (.iconst 0, 1) := by decide +kernel
theorem d_MO_build_95 : decode b_MO_build 95 = .ok (.putfield 65, 3) := by decide +kernel
theorem d_MO_build_98 : decode b_MO_build 98 = .ok (.aload_n 0, 1) := by decide +kernel
theorem d_MO_build_99 : decode b_MO_build 99 = .ok (.iload_n 1, 1) := by decide +kernel
theorem d_MO_build_100 : decode b_MO_build 100 = .ok (.iload 5, 2) := by decide +kernel
theorem d_MO_build_102 : decode b_MO_build 102 = .ok (.invokevirtual 93, 3) := by decide +kernel
theorem d_MO_build_105 : decode b_MO_build 105 = .ok (.aload_n 0, 1) := by decide +kernel
theorem d_MO_build_106 : decode b_MO_build 106 = .ok (.getfield 19, 3) := by decide +kernel
theorem d_MO_build_109 : decode b_MO_build 109 = .ok (.bipush 16, 2) := by decide +kernel
theorem d_MO_build_111 : decode b_MO_build 111 = .ok (.iload_n 1, 1) := by decide +kernel
theorem d_MO_build_112 : decode b_MO_build 112 = .ok (.imul, 1) := by decide +kernel
theorem d_MO_build_113 : decode b_MO_build 113 = .ok (.aload_n 0, 1) := by decide +kernel
theorem d_MO_build_114 : decode b_MO_build 114 = .ok (.getfield 26, 3) := by decide +kernel
theorem d_MO_build_117 : decode b_MO_build 117 = .ok (.iload_n 1, 1) := by decide +kernel
theorem d_MO_build_118 : decode b_MO_build 118 = .ok (.iaload, 1) := by decide +kernel
theorem d_MO_build_119 : decode b_MO_build 119 = .ok (.iadd, 1) := by decide +kernel
theorem d_MO_build_120 : decode b_MO_build 120 = .ok (.iload 5, 2) := by decide +kernel
theorem d_MO_build_122 : decode b_MO_build 122 = .ok (.iastore, 1) := by decide +kernel
theorem d_MO_build_123 : decode b_MO_build 123 = .ok (.aload_n 0, 1) := by decide +kernel
theorem d_MO_build_124 : decode b_MO_build 124 = .ok (.getfield 22, 3) := by decide +kernel
theorem d_MO_build_127 : decode b_MO_build 127 = .ok (.bipush 16, 2) := by decide +kernel
theorem d_MO_build_129 : decode b_MO_build 129 = .ok (.iload_n 1, 1) := by decide +kernel
theorem d_MO_build_130 : decode b_MO_build 130 = .ok (.imul, 1) := by decide +kernel
theorem d_MO_build_131 : decode b_MO_build 131 = .ok (.aload_n 0, 1) := by decide +kernel
theorem d_MO_build_132 : decode b_MO_build 132 = .ok (.getfield 26, 3) := by decide +kernel
theorem d_MO_build_135 : decode b_MO_build 135 = .ok (.iload_n 1, 1) := by decide +kernel
theorem d_MO_build_136 : decode b_MO_build 136 = .ok (.iaload, 1) := by decide +kernel
theorem d_MO_build_137 : decode b_MO_build 137 = .ok (.iadd, 1) := by decide +kernel
theorem d_MO_build_138 : decode b_MO_build 138 = .ok (.aload_n 0, 1) := by decide +kernel
theorem d_MO_build_139 : decode b_MO_build 139 = .ok (.invokevirtual 97, 3) := by decide +kernel
theorem d_MO_build_142 : decode b_MO_build 142 = .ok (.lastore, 1) := by decide +kernel
theorem d_MO_build_143 : decode b_MO_build 143 = .ok (.aload_n 0, 1) := by decide +kernel
theorem d_MO_build_144 : decode b_MO_build 144 = .ok (.getfield 26, 3) := by decide +kernel
theorem d_MO_build_147 : decode b_MO_build 147 = .ok (.iload_n 1, 1) := by decide +kernel
theorem d_MO_build_148 : decode b_MO_build 148 = .ok (.dup2, 1) := by decide +kernel
theorem d_MO_build_149 : decode b_MO_build 149 = .ok (.iaload, 1) := by decide +kernel
theorem d_MO_build_150 : decode b_MO_build 150 = .ok (.iconst 1, 1) := by decide +kernel
theorem d_MO_build_151 : decode b_MO_build 151 = .ok (.iadd, 1) := by decide +kernel
theorem d_MO_build_152 : decode b_MO_build 152 = .ok (.iastore, 1) := by decide +kernel
theorem d_MO_build_153 : decode b_MO_build 153 = .ok (.iinc 3 1, 3) := by decide +kernel
theorem d_MO_build_156 : decode b_MO_build 156 = .ok (.goto (-138), 3) := by decide +kernel
theorem d_MO_build_159 : decode b_MO_build 159 = .ok (.iinc 2 (-1), 3) := by decide +kernel
theorem d_MO_build_162 : decode b_MO_build 162 = .ok (.goto (-153), 3) := by decide +kernel
theorem d_MO_build_165 : decode b_MO_build 165 = .ok (.return_, 1) := by decide +kernel
theorem d_MO_rootOf_0 : decode b_MO_rootOf 0 = .ok (.aload_n 0, 1) := by decide +kernel
theorem d_MO_rootOf_1 : decode b_MO_rootOf 1 = .ok (.iconst 0, 1) := by decide +kernel
theorem d_MO_rootOf_2 : decode b_MO_rootOf 2 = .ok (.putfield 65, 3) := by decide +kernel
theorem d_MO_rootOf_5 : decode b_MO_rootOf 5 = .ok (.aload_n 0, 1) := by decide +kernel
theorem d_MO_rootOf_6 : decode b_MO_rootOf 6 = .ok (.iload_n 1, 1) := by decide +kernel
theorem d_MO_rootOf_7 : decode b_MO_rootOf 7 = .ok (.iconst 1, 1) := by decide +kernel
theorem d_MO_rootOf_8 : decode b_MO_rootOf 8 = .ok (.iconst 0, 1) := by decide +kernel
theorem d_MO_rootOf_9 : decode b_MO_rootOf 9 = .ok (.invokevirtual 80, 3) := by decide +kernel
theorem d_MO_rootOf_12 : decode b_MO_rootOf 12 = .ok (.aload_n 0, 1) := by decide +kernel
theorem d_MO_rootOf_13 : decode b_MO_rootOf 13 = .ok (.invokevirtual 97, 3) := by decide +kernel
theorem d_MO_rootOf_16 : decode b_MO_rootOf 16 = .ok (.lreturn, 1) := by decide +kernel
theorem d_MO_root_0 : decode b_MO_root 0 = .ok (.aload_n 0, 1) := by decide +kernel
theorem d_MO_root_1 : decode b_MO_root 1 = .ok (.iconst 0, 1) := by decide +kernel
theorem d_MO_root_2 : decode b_MO_root 2 = .ok (.invokevirtual 101, 3) := by decide +kernel
theorem d_MO_root_5 : decode b_MO_root 5 = .ok (.aload_n 0, 1) := by decide +kernel
theorem d_MO_root_6 : decode b_MO_root 6 = .ok (.iconst 0, 1) := by decide +kernel
theorem d_MO_root_7 : decode b_MO_root 7 = .ok (.invokevirtual 105, 3) := by decide +kernel
theorem d_MO_root_10 : decode b_MO_root 10 = .ok (.lreturn, 1) := by decide +kernel
theorem d_MO_count_0 : decode b_MO_count 0 = .ok (.aload_n 0, 1) := by decide +kernel
theorem d_MO_count_1 : decode b_MO_count 1 = .ok (.iconst 0, 1) := by decide +kernel
theorem d_MO_count_2 : decode b_MO_count 2 = .ok (.invokevirtual 101, 3) := by decide +kernel
theorem d_MO_count_5 : decode b_MO_count 5 = .ok (.iconst 0, 1) := by decide +kernel
theorem d_MO_count_6 : decode b_MO_count 6 = .ok (.istore_n 2, 1) := by decide +kernel
theorem d_MO_count_7 : decode b_MO_count 7 = .ok (.aload_n 0, 1) := by decide +kernel
theorem d_MO_count_8 : decode b_MO_count 8 = .ok (.getfield 16, 3) := by decide +kernel
theorem d_MO_count_11 : decode b_MO_count 11 = .ok (.iconst 0, 1) := by decide +kernel
theorem d_MO_count_12 : decode b_MO_count 12 = .ok (.iaload, 1) := by decide +kernel
theorem d_MO_count_13 : decode b_MO_count 13 = .ok (.iconst 1, 1) := by decide +kernel
theorem d_MO_count_14 : decode b_MO_count 14 = .ok (.if_icmp .le 17, 3) := by decide +kernel
theorem d_MO_count_17 : decode b_MO_count 17 = .ok (.aload_n 0, 1) := by decide +kernel
theorem d_MO_count_18 : decode b_MO_count 18 = .ok (.iconst 0, 1) := by decide +kernel
theorem d_MO_count_19 : decode b_MO_count 19 = .ok (.iconst 1, 1) := by decide +kernel
theorem d_MO_count_20 : decode b_MO_count 20 = .ok (.invokevirtual 62, 3) := by decide +kernel
theorem d_MO_count_23 : decode b_MO_count 23 = .ok (.iconst 1, 1) := by decide +kernel
theorem d_MO_count_24 : decode b_MO_count 24 = .ok (.if_icmp .eq 7, 3) := by decide +kernel
theorem d_MO_count_27 : decode b_MO_count 27 = .ok (.iconst 1, 1) := by decide +kernel
theorem d_MO_count_28 : decode b_MO_count 28 = .ok (.goto 4, 3) := by decide +kernel
theorem d_MO_count_31 : decode b_MO_count 31 = .ok (.iconst 0, 1) := by decide +kernel
theorem d_MO_count_32 : decode b_MO_count 32 = .ok (.istore_n 3, 1) := by decide +kernel
theorem d_MO_count_33 : decode b_MO_count 33 = .ok (.iconst 0, 1) := by decide +kernel
theorem d_MO_count_34 : decode b_MO_count 34 = .ok (.istore 4, 2) := by decide +kernel
theorem d_MO_count_36 : decode b_MO_count 36 = .ok (.iload 4, 2) := by decide +kernel
theorem d_MO_count_38 : decode b_MO_count 38 = .ok (.aload_n 0, 1) := by decide +kernel
theorem d_MO_count_39 : decode b_MO_count 39 = .ok (.getfield 26, 3) := by decide +kernel
theorem d_MO_count_42 : decode b_MO_count 42 = .ok (.iconst 0, 1) := by decide +kernel
theorem d_MO_count_43 : decode b_MO_count 43 = .ok (.iaload, 1) := by decide +kernel
theorem d_MO_count_44 : decode b_MO_count 44 = .ok (.if_icmp .ge 93, 3) := by decide +kernel
theorem d_MO_count_47 : decode b_MO_count 47 = .ok (.aload_n 0, 1) := by decide +kernel
theorem d_MO_count_48 : decode b_MO_count 48 = .ok (.iconst 0, 1) := by decide +kernel
theorem d_MO_count_49 : decode b_MO_count 49 = .ok (.aload_n 0, 1) := by decide +kernel
theorem d_MO_count_50 : decode b_MO_count 50 = .ok (.getfield 19, 3) := by decide +kernel
theorem d_MO_count_53 : decode b_MO_count 53 = .ok (.iload 4, 2) := by decide +kernel
theorem d_MO_count_55 : decode b_MO_count 55 = .ok (.iaload, 1) := by decide +kernel
theorem d_MO_count_56 : decode b_MO_count 56 = .ok (.invokevirtual 45, 3) := by decide +kernel
theorem d_MO_count_59 : decode b_MO_count 59 = .ok (.ifCond .lt 9, 3) := by decide +kernel
theorem d_MO_count_62 : decode b_MO_count 62 = .ok (.iload_n 2, 1) := by decide +kernel
theorem d_MO_count_63 : decode b_MO_count 63 = .ok (.iconst 1, 1) := by decide +kernel
theorem d_MO_count_64 : decode b_MO_count 64 = .ok (.iadd, 1) := by decide +kernel
theorem d_MO_count_65 : decode b_MO_count 65 = .ok (.goto 4, 3) := by decide +kernel
theorem d_MO_count_68 : decode b_MO_count 68 = .ok (.iload_n 2, 1) := by decide +kernel
theorem d_MO_count_69 : decode b_MO_count 69 = .ok (.istore_n 2, 1) := by decide +kernel
theorem d_MO_count_70 : decode b_MO_count 70 = .ok (.iconst 0, 1) := by decide +kernel
theorem d_MO_count_71 : decode b_MO_count 71 = .ok (.istore 5, 2) := by decide +kernel
theorem d_MO_count_73 : decode b_MO_count 73 = .ok (.iload 5, 2) := by decide +kernel
theorem d_MO_count_75 : decode b_MO_count 75 = .ok (.bipush 16, 2) := by decide +kernel
theorem d_MO_count_77 : decode b_MO_count 77 = .ok (.if_icmp .ge 54, 3) := by decide +kernel
theorem d_MO_count_80 : decode b_MO_count 80 = .ok (.bipush 16, 2) := by decide +kernel
theorem d_MO_count_82 : decode b_MO_count 82 = .ok (.aload_n 0, 1) := by decide +kernel
theorem d_MO_count_83 : decode b_MO_count 83 = .ok (.getfield 19, 3) := by decide +kernel
theorem d_MO_count_86 : decode b_MO_count 86 = .ok (.iload 4, 2) := by decide +kernel
theorem d_MO_count_88 : decode b_MO_count 88 = .ok (.iaload, 1) := by decide +kernel
theorem d_MO_count_89 : decode b_MO_count 89 = .ok (.imul, 1) := by decide +kernel
theorem d_MO_count_90 : decode b_MO_count 90 = .ok (.iload 5, 2) := by decide +kernel
theorem d_MO_count_92 : decode b_MO_count 92 = .ok (.iadd, 1) := by decide +kernel
theorem d_MO_count_93 : decode b_MO_count 93 = .ok (.istore 6, 2) := by decide +kernel
theorem d_MO_count_95 : decode b_MO_count 95 = .ok (.aload_n 0, 1) := by decide +kernel
theorem d_MO_count_96 : decode b_MO_count 96 = .ok (.iconst 0, 1) := by decide +kernel
theorem d_MO_count_97 : decode b_MO_count 97 = .ok (.iload 6, 2) := by decide +kernel
theorem d_MO_count_99 : decode b_MO_count 99 = .ok (.invokevirtual 56, 3) := by decide +kernel
theorem d_MO_count_102 : decode b_MO_count 102 = .ok (.istore 7, 2) := by decide +kernel
theorem d_MO_count_104 : decode b_MO_count 104 = .ok (.iload 7, 2) := by decide +kernel
theorem d_MO_count_106 : decode b_MO_count 106 = .ok (.iconst 1, 1) := by decide +kernel
theorem d_MO_count_107 : decode b_MO_count 107 = .ok (.if_icmp .le 18, 3) := by decide +kernel
theorem d_MO_count_110 : decode b_MO_count 110 = .ok (.aload_n 0, 1) := by decide +kernel
theorem d_MO_count_111 : decode b_MO_count 111 = .ok (.iconst 0, 1) := by decide +kernel
theorem d_MO_count_112 : decode b_MO_count 112 = .ok (.iload 6, 2) := by decide +kernel
theorem d_MO_count_114 : decode b_MO_count 114 = .ok (.invokevirtual 62, 3) := by decide +kernel
theorem d_MO_count_117 : decode b_MO_count 117 = .ok (.iload 6, 2) := by decide +kernel
theorem d_MO_count_119 : decode b_MO_count 119 = .ok (.if_icmp .eq 6, 3) := by decide +kernel
theorem d_MO_count_122 : decode b_MO_count 122 = .ok (.iinc 3 1, 3) := by decide +kernel
theorem d_MO_count_125 : decode b_MO_count 125 = .ok (.iinc 5 1, 3) := by decide +kernel
theorem d_MO_count_128 : decode b_MO_count 128 = .ok (.goto (-55), 3) := by decide +kernel
theorem d_MO_count_131 : decode b_MO_count 131 = .ok (.iinc 4 1, 3) := by decide +kernel
theorem d_MO_count_134 : decode b_MO_count 134 = .ok (.goto (-98), 3) := by decide +kernel
theorem d_MO_count_137 : decode b_MO_count 137 = .ok (.iload_n 1, 1) := by decide +kernel
theorem d_MO_count_138 : decode b_MO_count 138 = .ok (.ifCond .ne 14, 3) := by decide +kernel
theorem d_MO_count_141 : decode b_MO_count 141 = .ok (.aload_n 0, 1) := by decide +kernel
theorem d_MO_count_142 : decode b_MO_count 142 = .ok (.getfield 16, 3) := by decide +kernel
theorem d_MO_count_145 : decode b_MO_count 145 = .ok (.iconst 0, 1) := by decide +kernel
theorem d_MO_count_146 : decode b_MO_count 146 = .ok (.iaload, 1) := by decide +kernel
theorem d_MO_count_147 : decode b_MO_count 147 = .ok (.iload_n 2, 1) := by decide +kernel
theorem d_MO_count_148 : decode b_MO_count 148 = .ok (.isub, 1) := by decide +kernel
theorem d_MO_count_149 : decode b_MO_count 149 = .ok (.goto 27, 3) := by decide +kernel
theorem d_MO_count_152 : decode b_MO_count 152 = .ok (.iload_n 1, 1) := by decide +kernel
theorem d_MO_count_153 : decode b_MO_count 153 = .ok (.iconst 1, 1) := by decide +kernel
theorem d_MO_count_154 : decode b_MO_count 154 = .ok (.if_icmp .ne 7, 3) := by decide +kernel
theorem d_MO_count_157 : decode b_MO_count 157 = .ok (.iload_n 3, 1) := by decide +kernel
theorem d_MO_count_158 : decode b_MO_count 158 = .ok (.goto 18, 3) := by decide +kernel
theorem d_MO_count_161 : decode b_MO_count 161 = .ok (.iload_n 1, 1) := by decide +kernel
theorem d_MO_count_162 : decode b_MO_count 162 = .ok (.iconst 2, 1) := by decide +kernel
theorem d_MO_count_163 : decode b_MO_count 163 = .ok (.if_icmp .ne 12, 3) := by decide +kernel
theorem d_MO_count_166 : decode b_MO_count 166 = .ok (.aload_n 0, 1) := by decide +kernel
theorem d_MO_count_167 : decode b_MO_count 167 = .ok (.getfield 26, 3) := by decide +kernel
theorem d_MO_count_170 : decode b_MO_count 170 = .ok (.iconst 0, 1) := by decide +kernel
theorem d_MO_count_171 : decode b_MO_count 171 = .ok (.iaload, 1) := by decide +kernel
theorem d_MO_count_172 : decode b_MO_count 172 = .ok (.goto 4, 3) := by decide +kernel
theorem d_MO_count_175 : decode b_MO_count 175 = .ok (.iconst (-1), 1) := by decide +kernel
theorem d_MO_count_176 : decode b_MO_count 176 = .ok (.ireturn, 1) := by decide +kernel
theorem d_MO_same_0 : decode b_MO_same 0 = .ok (.iload_n 1, 1) := by decide +kernel
theorem d_MO_same_1 : decode b_MO_same 1 = .ok (.bipush 16, 2) := by decide +kernel
theorem d_MO_same_3 : decode b_MO_same 3 = .ok (.idiv, 1) := by decide +kernel
theorem d_MO_same_4 : decode b_MO_same 4 = .ok (.istore_n 3, 1) := by decide +kernel
theorem d_MO_same_5 : decode b_MO_same 5 = .ok (.iload_n 2, 1) := by decide +kernel
theorem d_MO_same_6 : decode b_MO_same 6 = .ok (.bipush 16, 2) := by decide +kernel
theorem d_MO_same_8 : decode b_MO_same 8 = .ok (.idiv, 1) := by decide +kernel
theorem d_MO_same_9 : decode b_MO_same 9 = .ok (.istore 4, 2) := by decide +kernel
theorem d_MO_same_11 : decode b_MO_same 11 = .ok (.aload_n 0, 1) := by decide +kernel
theorem d_MO_same_12 : decode b_MO_same 12 = .ok (.iload_n 3, 1) := by decide +kernel
theorem d_MO_same_13 : decode b_MO_same 13 = .ok (.aload_n 0, 1) := by decide +kernel
theorem d_MO_same_14 : decode b_MO_same 14 = .ok (.getfield 19, 3) := by decide +kernel
theorem d_MO_same_17 : decode b_MO_same 17 = .ok (.iload_n 1, 1) := by decide +kernel
theorem d_MO_same_18 : decode b_MO_same 18 = .ok (.iaload, 1) := by decide +kernel
theorem d_MO_same_19 : decode b_MO_same 19 = .ok (.invokevirtual 56, 3) := by decide +kernel
theorem d_MO_same_22 : decode b_MO_same 22 = .ok (.istore 5, 2) := by decide +kernel
theorem d_MO_same_24 : decode b_MO_same 24 = .ok (.aload_n 0, 1) := by decide +kernel
theorem d_MO_same_25 : decode b_MO_same 25 = .ok (.iload 4, 2) := by decide +kernel
theorem d_MO_same_27 : decode b_MO_same 27 = .ok (.aload_n 0, 1) := by decide +kernel
theorem d_MO_same_28 : decode b_MO_same 28 = .ok (.getfield 19, 3) := by decide +kernel
theorem d_MO_same_31 : decode b_MO_same 31 = .ok (.iload_n 2, 1) := by decide +kernel
theorem d_MO_same_32 : decode b_MO_same 32 = .ok (.iaload, 1) := by decide +kernel
theorem d_MO_same_33 : decode b_MO_same 33 = .ok (.invokevirtual 56, 3) := by decide +kernel
theorem d_MO_same_36 : decode b_MO_same 36 = .ok (.istore 6, 2) := by decide +kernel
theorem d_MO_same_38 : decode b_MO_same 38 = .ok (.iload 5, 2) := by decide +kernel
theorem d_MO_same_40 : decode b_MO_same 40 = .ok (.iload 6, 2) := by decide +kernel
theorem d_MO_same_42 : decode b_MO_same 42 = .ok (.if_icmp .eq 5, 3) := by decide +kernel
theorem d_MO_same_45 : decode b_MO_same 45 = .ok (.iconst 0, 1) := by decide +kernel
theorem d_MO_same_46 : decode b_MO_same 46 = .ok (.ireturn, 1) := by decide +kernel
theorem d_MO_same_47 : decode b_MO_same 47 = .ok (.bipush 16, 2) := by decide +kernel
theorem d_MO_same_49 : decode b_MO_same 49 = .ok (.iload_n 3, 1) := by decide +kernel
theorem d_MO_same_50 : decode b_MO_same 50 = .ok (.imul, 1) := by decide +kernel
theorem d_MO_same_51 : decode b_MO_same 51 = .ok (.istore 7, 2) := by decide +kernel
theorem d_MO_same_53 : decode b_MO_same 53 = .ok (.iload 7, 2) := by decide +kernel
theorem d_MO_same_55 : decode b_MO_same 55 = .ok (.bipush 16, 2) := by decide +kernel
theorem d_MO_same_57 : decode b_MO_same 57 = .ok (.iload_n 3, 1) := by decide +kernel
theorem d_MO_same_58 : decode b_MO_same 58 = .ok (.imul, 1) := by decide +kernel
theorem d_MO_same_59 : decode b_MO_same 59 = .ok (.aload_n 0, 1) := by decide +kernel
theorem d_MO_same_60 : decode b_MO_same 60 = .ok (.getfield 16, 3) := by decide +kernel
theorem d_MO_same_63 : decode b_MO_same 63 = .ok (.iload_n 3, 1) := by decide +kernel
theorem d_MO_same_64 : decode b_MO_same 64 = .ok (.iaload, 1) := by decide +kernel
theorem d_MO_same_65 : decode b_MO_same 65 = .ok (.iadd, 1) := by decide +kernel
theorem d_MO_same_66 : decode b_MO_same 66 = .ok (.if_icmp .ge 152, 3) := by decide +kernel
theorem d_MO_same_69 : decode b_MO_same 69 = .ok (.aload_n 0, 1) := by decide +kernel
theorem d_MO_same_70 : decode b_MO_same 70 = .ok (.getfield 7, 3) := by decide +kernel
theorem d_MO_same_73 : decode b_MO_same 73 = .ok (.iload 7, 2) := by decide +kernel
theorem d_MO_same_75 : decode b_MO_same 75 = .ok (.iaload, 1) := by decide +kernel
theorem d_MO_same_76 : decode b_MO_same 76 = .ok (.aload_n 0, 1) := by decide +kernel
theorem d_MO_same_77 : decode b_MO_same 77 = .ok (.getfield 19, 3) := by decide +kernel
theorem d_MO_same_80 : decode b_MO_same 80 = .ok (.iload_n 1, 1) := by decide +kernel
theorem d_MO_same_81 : decode b_MO_same 81 = .ok (.iaload, 1) := by decide +kernel
theorem d_MO_same_82 : decode b_MO_same 82 = .ok (.invokestatic 52, 3) := by decide +kernel
theorem d_MO_same_85 : decode b_MO_same 85 = .ok (.ifCond .eq 127, 3) := by decide +kernel
theorem d_MO_same_88 : decode b_MO_same 88 = .ok (.iconst 0, 1) := by decide +kernel
theorem d_MO_same_89 : decode b_MO_same 89 = .ok (.istore 8, 2) := by decide +kernel
theorem d_MO_same_91 : decode b_MO_same 91 = .ok (.bipush 16, 2) := by decide +kernel
theorem d_MO_same_93 : decode b_MO_same 93 = .ok (.iload 4, 2) := by decide +kernel
theorem d_MO_same_95 : decode b_MO_same 95 = .ok (.imul, 1) := by decide +kernel
theorem d_MO_same_96 : decode b_MO_same 96 = .ok (.istore 9, 2) := by decide +kernel
theorem d_MO_same_98 : decode b_MO_same 98 = .ok (.iload 9, 2) := by decide +kernel
theorem d_MO_same_100 : decode b_MO_same 100 = .ok (.bipush 16, 2) := by decide +kernel
theorem d_MO_same_102 : decode b_MO_same 102 = .ok (.iload 4, 2) := by decide +kernel
theorem d_MO_same_104 : decode b_MO_same 104 = .ok (.imul, 1) := by decide +kernel
theorem d_MO_same_105 : decode b_MO_same 105 = .ok (.aload_n 0, 1) := by decide +kernel
theorem d_MO_same_106 : decode b_MO_same 106 = .ok (.getfield 16, 3) := by decide +kernel
theorem d_MO_same_109 : decode b_MO_same 109 = .ok (.iload 4, 2) := by decide +kernel
theorem d_MO_same_111 : decode b_MO_same 111 = .ok (.iaload, 1) := by decide +kernel
theorem d_MO_same_112 : decode b_MO_same 112 = .ok (.iadd, 1) := by decide +kernel
theorem d_MO_same_113 : decode b_MO_same 113 = .ok (.if_icmp .ge 92, 3) := by decide +kernel
theorem d_MO_same_116 : decode b_MO_same 116 = .ok (.iload 8, 2) := by decide +kernel
theorem d_MO_same_118 : decode b_MO_same 118 = .ok (.ifCond .ne 74, 3) := by decide +kernel
theorem d_MO_same_121 : decode b_MO_same 121 = .ok (.aload_n 0, 1) := by decide +kernel
theorem d_MO_same_122 : decode b_MO_same 122 = .ok (.getfield 7, 3) := by decide +kernel
theorem d_MO_same_125 : decode b_MO_same 125 = .ok (.iload 9, 2) := by decide +kernel
theorem d_MO_same_127 : decode b_MO_same 127 = .ok (.iaload, 1) := by decide +kernel
theorem d_MO_same_128 : decode b_MO_same 128 = .ok (.aload_n 0, 1) := by decide +kernel
theorem d_MO_same_129 : decode b_MO_same 129 = .ok (.getfield 19, 3) := by decide +kernel
theorem d_MO_same_132 : decode b_MO_same 132 = .ok (.iload_n 2, 1) := by decide +kernel
theorem d_MO_same_133 : decode b_MO_same 133 = .ok (.iaload, 1) := by decide +kernel
theorem d_MO_same_134 : decode b_MO_same 134 = .ok (.invokestatic 52, 3) := by decide +kernel
theorem d_MO_same_137 : decode b_MO_same 137 = .ok (.ifCond .eq 59, 3) := by decide +kernel
theorem d_MO_same_140 : decode b_MO_same 140 = .ok (.aload_n 0, 1) := by decide +kernel
theorem d_MO_same_141 : decode b_MO_same 141 = .ok (.getfield 7, 3) := by decide +kernel
theorem d_MO_same_144 : decode b_MO_same 144 = .ok (.iload 7, 2) := by decide +kernel
theorem d_MO_same_146 : decode b_MO_same 146 = .ok (.iaload, 1) := by decide +kernel
theorem d_MO_same_147 : decode b_MO_same 147 = .ok (.aload_n 0, 1) := by decide +kernel
theorem d_MO_same_148 : decode b_MO_same 148 = .ok (.getfield 19, 3) := by decide +kernel
theorem d_MO_same_151 : decode b_MO_same 151 = .ok (.iload_n 1, 1) := by decide +kernel
theorem d_MO_same_152 : decode b_MO_same 152 = .ok (.iaload, 1) := by decide +kernel
theorem d_MO_same_153 : decode b_MO_same 153 = .ok (.invokestatic 74, 3) := by decide +kernel
theorem d_MO_same_156 : decode b_MO_same 156 = .ok (.aload_n 0, 1) := by decide +kernel
theorem d_MO_same_157 : decode b_MO_same 157 = .ok (.getfield 7, 3) := by decide +kernel
theorem d_MO_same_160 : decode b_MO_same 160 = .ok (.iload 9, 2) := by decide +kernel
theorem d_MO_same_162 : decode b_MO_same 162 = .ok (.iaload, 1) := by decide +kernel
theorem d_MO_same_163 : decode b_MO_same 163 = .ok (.aload_n 0, 1) := by decide +kernel
theorem d_MO_same_164 : decode b_MO_same 164 = .ok (.getfield 19, 3) := by decide +kernel
theorem d_MO_same_167 : decode b_MO_same 167 = .ok (.iload_n 2, 1) := by decide +kernel
theorem d_MO_same_168 : decode b_MO_same 168 = .ok (.iaload, 1) := by decide +kernel
theorem d_MO_same_169 : decode b_MO_same 169 = .ok (.invokestatic 74, 3) := by decide +kernel
theorem d_MO_same_172 : decode b_MO_same 172 = .ok (.if_icmp .ne 24, 3) := by decide +kernel
theorem d_MO_same_175 : decode b_MO_same 175 = .ok (.aload_n 0, 1) := by decide +kernel
theorem d_MO_same_176 : decode b_MO_same 176 = .ok (.getfield 13, 3) := by decide +kernel
theorem d_MO_same_179 : decode b_MO_same 179 = .ok (.iload 7, 2) := by decide +kernel
theorem d_MO_same_181 : decode b_MO_same 181 = .ok (.iaload, 1) := by decide +kernel
theorem d_MO_same_182 : decode b_MO_same 182 = .ok (.aload_n 0, 1) := by decide +kernel
theorem d_MO_same_183 : decode b_MO_same 183 = .ok (.getfield 13, 3) := by decide +kernel
theorem d_MO_same_186 : decode b_MO_same 186 = .ok (.iload 9, 2) := by decide +kernel
theorem d_MO_same_188 : decode b_MO_same 188 = .ok (.iaload, 1) := by decide +kernel
theorem d_MO_same_189 : decode b_MO_same 189 = .ok (.if_icmp .ne 7, 3) := by decide +kernel
theorem d_MO_same_192 : decode b_MO_same 192 = .ok (.iconst 1, 1) := by decide +kernel
theorem d_MO_same_193 : decode b_MO_same 193 = .ok (.goto 4, 3) := by decide +kernel
theorem d_MO_same_196 : decode b_MO_same 196 = .ok (.iconst 0, 1) := by decide +kernel
theorem d_MO_same_197 : decode b_MO_same 197 = .ok (.istore 8, 2) := by decide +kernel
theorem d_MO_same_199 : decode b_MO_same 199 = .ok (.iinc 9 1, 3) := by decide +kernel
theorem d_MO_same_202 : decode b_MO_same 202 = .ok (.goto (-104), 3) := by decide +kernel
theorem d_MO_same_205 : decode b_MO_same 205 = .ok (.iload 8, 2) := by decide +kernel
theorem d_MO_same_207 : decode b_MO_same 207 = .ok (.ifCond .ne 5, 3) := by decide +kernel
theorem d_MO_same_210 : decode b_MO_same 210 = .ok (.iconst 0, 1) := by decide +kernel
theorem d_MO_same_211 : decode b_MO_same 211 = .ok (.ireturn, 1) := by decide +kernel
theorem d_MO_same_212 : decode b_MO_same 212 = .ok (.iinc 7 1, 3) := by decide +kernel
theorem d_MO_same_215 : decode b_MO_same 215 = .ok (.goto (-162), 3) := by decide +kernel
theorem d_MO_same_218 : decode b_MO_same 218 = .ok (.iconst 1, 1) := by decide +kernel
theorem d_MO_same_219 : decode b_MO_same 219 = .ok (.ireturn, 1) := by decide +kernel
theorem d_MO_stands_0 : decode b_MO_stands 0 = .ok (.iload_n 1, 1) := by decide +kernel
theorem d_MO_stands_1 : decode b_MO_stands 1 = .ok (.bipush 16, 2) := by decide +kernel
theorem d_MO_stands_3 : decode b_MO_stands 3 = .ok (.idiv, 1) := by decide +kernel
theorem d_MO_stands_4 : decode b_MO_stands 4 = .ok (.aload_n 0, 1) := by decide +kernel
theorem d_MO_stands_5 : decode b_MO_stands 5 = .ok (.getfield 109, 3) := by decide +kernel
theorem d_MO_stands_8 : decode b_MO_stands 8 = .ok (.if_icmp .gt 19, 3) := by decide +kernel
theorem d_MO_stands_11 : decode b_MO_stands 11 = .ok (.iload_n 1, 1) := by decide +kernel
theorem d_MO_stands_12 : decode b_MO_stands 12 = .ok (.bipush 16, 2) := by decide +kernel
theorem d_MO_stands_14 : decode b_MO_stands 14 = .ok (.irem, 1) := by decide +kernel
theorem d_MO_stands_15 : decode b_MO_stands 15 = .ok (.aload_n 0, 1) := by decide +kernel
theorem d_MO_stands_16 : decode b_MO_stands 16 = .ok (.getfield 26, 3) := by decide +kernel
theorem d_MO_stands_19 : decode b_MO_stands 19 = .ok (.iload_n 1, 1) := by decide +kernel
theorem d_MO_stands_20 : decode b_MO_stands 20 = .ok (.bipush 16, 2) := by decide +kernel
theorem d_MO_stands_22 : decode b_MO_stands 22 = .ok (.idiv, 1) := by decide +kernel
theorem d_MO_stands_23 : decode b_MO_stands 23 = .ok (.iaload, 1) := by decide +kernel
theorem d_MO_stands_24 : decode b_MO_stands 24 = .ok (.if_icmp .lt 5, 3) := by decide +kernel
theorem d_MO_stands_27 : decode b_MO_stands 27 = .ok (.iconst 0, 1) := by decide +kernel
theorem d_MO_stands_28 : decode b_MO_stands 28 = .ok (.ireturn, 1) := by decide +kernel
theorem d_MO_stands_29 : decode b_MO_stands 29 = .ok (.bipush 16, 2) := by decide +kernel
theorem d_MO_stands_31 : decode b_MO_stands 31 = .ok (.istore_n 2, 1) := by decide +kernel
theorem d_MO_stands_32 : decode b_MO_stands 32 = .ok (.iload_n 2, 1) := by decide +kernel
theorem d_MO_stands_33 : decode b_MO_stands 33 = .ok (.iload_n 1, 1) := by decide +kernel
theorem d_MO_stands_34 : decode b_MO_stands 34 = .ok (.if_icmp .ge 36, 3) := by decide +kernel
theorem d_MO_stands_37 : decode b_MO_stands 37 = .ok (.iload_n 2, 1) := by decide +kernel
theorem d_MO_stands_38 : decode b_MO_stands 38 = .ok (.bipush 16, 2) := by decide +kernel
theorem d_MO_stands_40 : decode b_MO_stands 40 = .ok (.irem, 1) := by decide +kernel
theorem d_MO_stands_41 : decode b_MO_stands 41 = .ok (.aload_n 0, 1) := by decide +kernel
theorem d_MO_stands_42 : decode b_MO_stands 42 = .ok (.getfield 26, 3) := by decide +kernel
theorem d_MO_stands_45 : decode b_MO_stands 45 = .ok (.iload_n 2, 1) := by decide +kernel
theorem d_MO_stands_46 : decode b_MO_stands 46 = .ok (.bipush 16, 2) := by decide +kernel
theorem d_MO_stands_48 : decode b_MO_stands 48 = .ok (.idiv, 1) := by decide +kernel
theorem d_MO_stands_49 : decode b_MO_stands 49 = .ok (.iaload, 1) := by decide +kernel
theorem d_MO_stands_50 : decode b_MO_stands 50 = .ok (.if_icmp .ge 14, 3) := by decide +kernel
theorem d_MO_stands_53 : decode b_MO_stands 53 = .ok (.aload_n 0, 1) := by decide +kernel
theorem d_MO_stands_54 : decode b_MO_stands 54 = .ok (.iload_n 1, 1) := by decide +kernel
theorem d_MO_stands_55 : decode b_MO_stands 55 = .ok (.iload_n 2, 1) := by decide +kernel
theorem d_MO_stands_56 : decode b_MO_stands 56 = .ok (.invokevirtual 112, 3) := by decide +kernel
theorem d_MO_stands_59 : decode b_MO_stands 59 = .ok (.ifCond .eq 5, 3) := by decide +kernel
theorem d_MO_stands_62 : decode b_MO_stands 62 = .ok (.iconst 0, 1) := by decide +kernel
theorem d_MO_stands_63 : decode b_MO_stands 63 = .ok (.ireturn, 1) := by decide +kernel
theorem d_MO_stands_64 : decode b_MO_stands 64 = .ok (.iinc 2 1, 3) := by decide +kernel
theorem d_MO_stands_67 : decode b_MO_stands 67 = .ok (.goto (-35), 3) := by decide +kernel
theorem d_MO_stands_70 : decode b_MO_stands 70 = .ok (.iconst 1, 1) := by decide +kernel
theorem d_MO_stands_71 : decode b_MO_stands 71 = .ok (.ireturn, 1) := by decide +kernel
theorem d_MO_has_0 : decode b_MO_has 0 = .ok (.iconst 0, 1) := by decide +kernel
theorem d_MO_has_1 : decode b_MO_has 1 = .ok (.istore_n 2, 1) := by decide +kernel
theorem d_MO_has_2 : decode b_MO_has 2 = .ok (.iload_n 2, 1) := by decide +kernel
theorem d_MO_has_3 : decode b_MO_has 3 = .ok (.bipush 16, 2) := by decide +kernel
theorem d_MO_has_5 : decode b_MO_has 5 = .ok (.aload_n 0, 1) := by decide +kernel
theorem d_MO_has_6 : decode b_MO_has 6 = .ok (.getfield 109, 3) := by decide +kernel
theorem d_MO_has_9 : decode b_MO_has 9 = .ok (.iconst 1, 1) := by decide +kernel
theorem d_MO_has_10 : decode b_MO_has 10 = .ok (.iadd, 1) := by decide +kernel
theorem d_MO_has_11 : decode b_MO_has 11 = .ok (.imul, 1) := by decide +kernel
theorem d_MO_has_12 : decode b_MO_has 12 = .ok (.if_icmp .ge 65, 3) := by decide +kernel
theorem d_MO_has_15 : decode b_MO_has 15 = .ok (.iload_n 2, 1) := by decide +kernel
theorem d_MO_has_16 : decode b_MO_has 16 = .ok (.bipush 16, 2) := by decide +kernel
theorem d_MO_has_18 : decode b_MO_has 18 = .ok (.if_icmp .ge 16, 3) := by decide +kernel
theorem d_MO_has_21 : decode b_MO_has 21 = .ok (.iload_n 2, 1) := by decide +kernel
theorem d_MO_has_22 : decode b_MO_has 22 = .ok (.iload_n 1, 1) := by decide +kernel
theorem d_MO_has_23 : decode b_MO_has 23 = .ok (.if_icmp .ge 7, 3) := by decide +kernel
theorem d_MO_has_26 : decode b_MO_has 26 = .ok (.iconst 1, 1) := by decide +kernel
theorem d_MO_has_27 : decode b_MO_has 27 = .ok (.goto 28, 3) := by decide +kernel
theorem d_MO_has_30 : decode b_MO_has 30 = .ok (.iconst 0, 1) := by decide +kernel
theorem d_MO_has_31 : decode b_MO_has 31 = .ok (.goto 24, 3) := by decide +kernel
theorem d_MO_has_34 : decode b_MO_has 34 = .ok (.iload_n 2, 1) := by decide +kernel
theorem d_MO_has_35 : decode b_MO_has 35 = .ok (.bipush 16, 2) := by decide +kernel
theorem d_MO_has_37 : decode b_MO_has 37 = .ok (.irem, 1) := by decide +kernel
theorem d_MO_has_38 : decode b_MO_has 38 = .ok (.aload_n 0, 1) := by decide +kernel
theorem d_MO_has_39 : decode b_MO_has 39 = .ok (.getfield 26, 3) := by decide +kernel
theorem d_MO_has_42 : decode b_MO_has 42 = .ok (.iload_n 2, 1) := by decide +kernel
theorem d_MO_has_43 : decode b_MO_has 43 = .ok (.bipush 16, 2) := by decide +kernel
theorem d_MO_has_45 : decode b_MO_has 45 = .ok (.idiv, 1) := by decide +kernel
theorem d_MO_has_46 : decode b_MO_has 46 = .ok (.iaload, 1) := by decide +kernel
theorem d_MO_has_47 : decode b_MO_has 47 = .ok (.if_icmp .ge 7, 3) := by decide +kernel
theorem d_MO_has_50 : decode b_MO_has 50 = .ok (.iconst 1, 1) := by decide +kernel
theorem d_MO_has_51 : decode b_MO_has 51 = .ok (.goto 4, 3) := by decide +kernel
theorem d_MO_has_54 : decode b_MO_has 54 = .ok (.iconst 0, 1) := by decide +kernel
theorem d_MO_has_55 : decode b_MO_has 55 = .ok (.istore_n 3, 1) := by decide +kernel
theorem d_MO_has_56 : decode b_MO_has 56 = .ok (.iload_n 3, 1) := by decide +kernel
theorem d_MO_has_57 : decode b_MO_has 57 = .ok (.ifCond .eq 14, 3) := by decide +kernel
theorem d_MO_has_60 : decode b_MO_has 60 = .ok (.aload_n 0, 1) := by decide +kernel
theorem d_MO_has_61 : decode b_MO_has 61 = .ok (.iload_n 1, 1) := by decide +kernel
theorem d_MO_has_62 : decode b_MO_has 62 = .ok (.iload_n 2, 1) := by decide +kernel
theorem d_MO_has_63 : decode b_MO_has 63 = .ok (.invokevirtual 112, 3) := by decide +kernel
theorem d_MO_has_66 : decode b_MO_has 66 = .ok (.ifCond .eq 5, 3) := by decide +kernel
theorem d_MO_has_69 : decode b_MO_has 69 = .ok (.iconst 1, 1) := by decide +kernel
theorem d_MO_has_70 : decode b_MO_has 70 = .ok (.ireturn, 1) := by decide +kernel
theorem d_MO_has_71 : decode b_MO_has 71 = .ok (.iinc 2 1, 3) := by decide +kernel
theorem d_MO_has_74 : decode b_MO_has 74 = .ok (.goto (-72), 3) := by decide +kernel
theorem d_MO_has_77 : decode b_MO_has 77 = .ok (.iconst 0, 1) := by decide +kernel
theorem d_MO_has_78 : decode b_MO_has 78 = .ok (.ireturn, 1) := by decide +kernel
theorem d_MO_back_0 : decode b_MO_back 0 = .ok (.aload_n 0, 1) := by decide +kernel
theorem d_MO_back_1 : decode b_MO_back 1 = .ok (.getfield 109, 3) := by decide +kernel
theorem d_MO_back_4 : decode b_MO_back 4 = .ok (.ifCond .ne 13, 3) := by decide +kernel
theorem d_MO_back_7 : decode b_MO_back 7 = .ok (.aload_n 0, 1) := by decide +kernel
theorem d_MO_back_8 : decode b_MO_back 8 = .ok (.getfield 16, 3) := by decide +kernel
theorem d_MO_back_11 : decode b_MO_back 11 = .ok (.iconst 0, 1) := by decide +kernel
theorem d_MO_back_12 : decode b_MO_back 12 = .ok (.iconst 0, 1) := by decide +kernel
theorem d_MO_back_13 : decode b_MO_back 13 = .ok (.iastore, 1) := by decide +kernel
theorem d_MO_back_14 : decode b_MO_back 14 = .ok (.goto 9, 3) := by decide +kernel
theorem d_MO_back_17 : decode b_MO_back 17 = .ok (.aload_n 0, 1) := by decide +kernel
theorem d_MO_back_18 : decode b_MO_back 18 = .ok (.iconst 1, 1) := by decide +kernel
theorem d_MO_back_19 : decode b_MO_back 19 = .ok (.iconst 0, 1) := by decide +kernel
theorem d_MO_back_20 : decode b_MO_back 20 = .ok (.invokevirtual 115, 3) := by decide +kernel
theorem d_MO_back_23 : decode b_MO_back 23 = .ok (.return_, 1) := by decide +kernel
theorem d_MO_commit_0 : decode b_MO_commit 0 = .ok (.aload_n 0, 1) := by decide +kernel
theorem d_MO_commit_1 : decode b_MO_commit 1 = .ok (.iconst 0, 1) := by decide +kernel
theorem d_MO_commit_2 : decode b_MO_commit 2 = .ok (.invokevirtual 101, 3) := by decide +kernel
theorem d_MO_commit_5 : decode b_MO_commit 5 = .ok (.iconst 0, 1) := by decide +kernel
theorem d_MO_commit_6 : decode b_MO_commit 6 = .ok (.istore_n 2, 1) := by decide +kernel
theorem d_MO_commit_7 : decode b_MO_commit 7 = .ok (.iconst 0, 1) := by decide +kernel
theorem d_MO_commit_8 : decode b_MO_commit 8 = .ok (.istore_n 3, 1) := by decide +kernel
theorem d_MO_commit_9 : decode b_MO_commit 9 = .ok (.iload_n 3, 1) := by decide +kernel
theorem d_MO_commit_10 : decode b_MO_commit 10 = .ok (.aload_n 0, 1) := by decide +kernel
theorem d_MO_commit_11 : decode b_MO_commit 11 = .ok (.getfield 26, 3) := by decide +kernel
theorem d_MO_commit_14 : decode b_MO_commit 14 = .ok (.iconst 0, 1) := by decide +kernel
theorem d_MO_commit_15 : decode b_MO_commit 15 = .ok (.iaload, 1) := by decide +kernel
theorem d_MO_commit_16 : decode b_MO_commit 16 = .ok (.if_icmp .ge 25, 3) := by decide +kernel
theorem d_MO_commit_19 : decode b_MO_commit 19 = .ok (.aload_n 0, 1) := by decide +kernel
theorem d_MO_commit_20 : decode b_MO_commit 20 = .ok (.iload_n 3, 1) := by decide +kernel
theorem d_MO_commit_21 : decode b_MO_commit 21 = .ok (.invokevirtual 118, 3) := by decide +kernel
theorem d_MO_commit_24 : decode b_MO_commit 24 = .ok (.ifCond .eq 7, 3) := by decide +kernel
theorem d_MO_commit_27 : decode b_MO_commit 27 = .ok (.iload_n 2, 1) := by decide +kernel
theorem d_MO_commit_28 : decode b_MO_commit 28 = .ok (.goto 6, 3) := by decide +kernel
theorem d_MO_commit_31 : decode b_MO_commit 31 = .ok (.iload_n 2, 1) := by decide +kernel
theorem d_MO_commit_32 : decode b_MO_commit 32 = .ok (.iconst 1, 1) := by decide +kernel
theorem d_MO_commit_33 : decode b_MO_commit 33 = .ok (.iadd, 1) := by decide +kernel
theorem d_MO_commit_34 : decode b_MO_commit 34 = .ok (.istore_n 2, 1) := by decide +kernel
theorem d_MO_commit_35 : decode b_MO_commit 35 = .ok (.iinc 3 1, 3) := by decide +kernel
theorem d_MO_commit_38 : decode b_MO_commit 38 = .ok (.goto (-29), 3) := by decide +kernel
theorem d_MO_commit_41 : decode b_MO_commit 41 = .ok (.iload_n 1, 1) := by decide +kernel
theorem d_MO_commit_42 : decode b_MO_commit 42 = .ok (.iload_n 2, 1) := by decide +kernel
theorem d_MO_commit_43 : decode b_MO_commit 43 = .ok (.iconst 1, 1) := by decide +kernel
theorem d_MO_commit_44 : decode b_MO_commit 44 = .ok (.iadd, 1) := by decide +kernel
theorem d_MO_commit_45 : decode b_MO_commit 45 = .ok (.if_icmp .ge 9, 3) := by decide +kernel
theorem d_MO_commit_48 : decode b_MO_commit 48 = .ok (.aload_n 0, 1) := by decide +kernel
theorem d_MO_commit_49 : decode b_MO_commit 49 = .ok (.invokevirtual 122, 3) := by decide +kernel
theorem d_MO_commit_52 : decode b_MO_commit 52 = .ok (.iconst (-1), 1) := by decide +kernel
theorem d_MO_commit_53 : decode b_MO_commit 53 = .ok (.ireturn, 1) := by decide +kernel
theorem d_MO_commit_54 : decode b_MO_commit 54 = .ok (.aload_n 0, 1) := by decide +kernel
theorem d_MO_commit_55 : decode b_MO_commit 55 = .ok (.aload_n 0, 1) := by decide +kernel
theorem d_MO_commit_56 : decode b_MO_commit 56 = .ok (.getfield 109, 3) := by decide +kernel
theorem d_MO_commit_59 : decode b_MO_commit 59 = .ok (.aload_n 0, 1) := by decide +kernel
theorem d_MO_commit_60 : decode b_MO_commit 60 = .ok (.getfield 35, 3) := by decide +kernel
theorem d_MO_commit_63 : decode b_MO_commit 63 = .ok (.if_icmp .ge 12, 3) := by decide +kernel
theorem d_MO_commit_66 : decode b_MO_commit 66 = .ok (.aload_n 0, 1) := by decide +kernel
theorem d_MO_commit_67 : decode b_MO_commit 67 = .ok (.getfield 109, 3) := by decide +kernel
theorem d_MO_commit_70 : decode b_MO_commit 70 = .ok (.iconst 1, 1) := by decide +kernel
theorem d_MO_commit_71 : decode b_MO_commit 71 = .ok (.iadd, 1) := by decide +kernel
theorem d_MO_commit_72 : decode b_MO_commit 72 = .ok (.goto 7, 3) := by decide +kernel
theorem d_MO_commit_75 : decode b_MO_commit 75 = .ok (.aload_n 0, 1) := by decide +kernel
theorem d_MO_commit_76 : decode b_MO_commit 76 = .ok (.getfield 109, 3) := by decide +kernel
theorem d_MO_commit_79 : decode b_MO_commit 79 = .ok (.putfield 109, 3) := by decide +kernel
theorem d_MO_commit_82 : decode b_MO_commit 82 = .ok (.aload_n 0, 1) := by decide +kernel
theorem d_MO_commit_83 : decode b_MO_commit 83 = .ok (.getfield 109, 3) := by decide +kernel
theorem d_MO_commit_86 : decode b_MO_commit 86 = .ok (.istore_n 3, 1) := by decide +kernel
theorem d_MO_commit_87 : decode b_MO_commit 87 = .ok (.iload_n 3, 1) := by decide +kernel
theorem d_MO_commit_88 : decode b_MO_commit 88 = .ok (.ifCond .le 17, 3) := by decide +kernel
theorem d_MO_commit_91 : decode b_MO_commit 91 = .ok (.aload_n 0, 1) := by decide +kernel
theorem d_MO_commit_92 : decode b_MO_commit 92 = .ok (.iload_n 3, 1) := by decide +kernel
theorem d_MO_commit_93 : decode b_MO_commit 93 = .ok (.iconst 1, 1) := by decide +kernel
theorem d_MO_commit_94 : decode b_MO_commit 94 = .ok (.isub, 1) := by decide +kernel
theorem d_MO_commit_95 : decode b_MO_commit 95 = .ok (.iload_n 3, 1) := by decide +kernel
theorem d_MO_commit_96 : decode b_MO_commit 96 = .ok (.invokevirtual 115, 3) := by decide +kernel
theorem d_MO_commit_99 : decode b_MO_commit 99 = .ok (.iinc 3 (-1), 3) := by decide +kernel
theorem d_MO_commit_102 : decode b_MO_commit 102 = .ok (.goto (-15), 3) := by decide +kernel
theorem d_MO_commit_105 : decode b_MO_commit 105 = .ok (.iload_n 2, 1) := by decide +kernel
theorem d_MO_commit_106 : decode b_MO_commit 106 = .ok (.ireturn, 1) := by decide +kernel
theorem d_MO_crash_0 : decode b_MO_crash 0 = .ok (.aload_n 0, 1) := by decide +kernel
theorem d_MO_crash_1 : decode b_MO_crash 1 = .ok (.invokevirtual 122, 3) := by decide +kernel
theorem d_MO_crash_4 : decode b_MO_crash 4 = .ok (.aload_n 0, 1) := by decide +kernel
theorem d_MO_crash_5 : decode b_MO_crash 5 = .ok (.getfield 16, 3) := by decide +kernel
theorem d_MO_crash_8 : decode b_MO_crash 8 = .ok (.iconst 0, 1) := by decide +kernel
theorem d_MO_crash_9 : decode b_MO_crash 9 = .ok (.iaload, 1) := by decide +kernel
theorem d_MO_crash_10 : decode b_MO_crash 10 = .ok (.ireturn, 1) := by decide +kernel
theorem d_MO_versions_0 : decode b_MO_versions 0 = .ok (.aload_n 0, 1) := by decide +kernel
theorem d_MO_versions_1 : decode b_MO_versions 1 = .ok (.getfield 109, 3) := by decide +kernel
theorem d_MO_versions_4 : decode b_MO_versions 4 = .ok (.ireturn, 1) := by decide +kernel
theorem d_MO_isVersion_0 : decode b_MO_isVersion 0 = .ok (.iload_n 1, 1) := by decide +kernel
theorem d_MO_isVersion_1 : decode b_MO_isVersion 1 = .ok (.ifCond .lt 15, 3) := by decide +kernel
theorem d_MO_isVersion_4 : decode b_MO_isVersion 4 = .ok (.iload_n 1, 1) := by decide +kernel
theorem d_MO_isVersion_5 : decode b_MO_isVersion 5 = .ok (.aload_n 0, 1) := by decide +kernel
theorem d_MO_isVersion_6 : decode b_MO_isVersion 6 = .ok (.getfield 109, 3) := by decide +kernel
theorem d_MO_isVersion_9 : decode b_MO_isVersion 9 = .ok (.if_icmp .ge 7, 3) := by decide +kernel
theorem d_MO_isVersion_12 : decode b_MO_isVersion 12 = .ok (.iconst 1, 1) := by decide +kernel
theorem d_MO_isVersion_13 : decode b_MO_isVersion 13 = .ok (.goto 4, 3) := by decide +kernel
theorem d_MO_isVersion_16 : decode b_MO_isVersion 16 = .ok (.iconst 0, 1) := by decide +kernel
theorem d_MO_isVersion_17 : decode b_MO_isVersion 17 = .ok (.ireturn, 1) := by decide +kernel
theorem d_MO_at_0 : decode b_MO_at 0 = .ok (.aload_n 0, 1) := by decide +kernel
theorem d_MO_at_1 : decode b_MO_at 1 = .ok (.iload_n 1, 1) := by decide +kernel
theorem d_MO_at_2 : decode b_MO_at 2 = .ok (.invokevirtual 125, 3) := by decide +kernel
theorem d_MO_at_5 : decode b_MO_at 5 = .ok (.ifCond .eq 14, 3) := by decide +kernel
theorem d_MO_at_8 : decode b_MO_at 8 = .ok (.aload_n 0, 1) := by decide +kernel
theorem d_MO_at_9 : decode b_MO_at 9 = .ok (.iload_n 1, 1) := by decide +kernel
theorem d_MO_at_10 : decode b_MO_at 10 = .ok (.iconst 1, 1) := by decide +kernel
theorem d_MO_at_11 : decode b_MO_at 11 = .ok (.iadd, 1) := by decide +kernel
theorem d_MO_at_12 : decode b_MO_at 12 = .ok (.iload_n 2, 1) := by decide +kernel
theorem d_MO_at_13 : decode b_MO_at 13 = .ok (.invokevirtual 49, 3) := by decide +kernel
theorem d_MO_at_16 : decode b_MO_at 16 = .ok (.goto 4, 3) := by decide +kernel
theorem d_MO_at_19 : decode b_MO_at 19 = .ok (.iconst 0, 1) := by decide +kernel
theorem d_MO_at_20 : decode b_MO_at 20 = .ok (.ireturn, 1) := by decide +kernel
theorem d_MO_rootAt_0 : decode b_MO_rootAt 0 = .ok (.aload_n 0, 1) := by decide +kernel
theorem d_MO_rootAt_1 : decode b_MO_rootAt 1 = .ok (.iload_n 1, 1) := by decide +kernel
theorem d_MO_rootAt_2 : decode b_MO_rootAt 2 = .ok (.invokevirtual 125, 3) := by decide +kernel
theorem d_MO_rootAt_5 : decode b_MO_rootAt 5 = .ok (.ifCond .ne 5, 3) := by decide +kernel
theorem d_MO_rootAt_8 : decode b_MO_rootAt 8 = .ok (.lconst 0, 1) := by decide +kernel
theorem d_MO_rootAt_9 : decode b_MO_rootAt 9 = .ok (.lreturn, 1) := by decide +kernel
theorem d_MO_rootAt_10 : decode b_MO_rootAt 10 = .ok (.aload_n 0, 1) := by decide +kernel
theorem d_MO_rootAt_11 : decode b_MO_rootAt 11 = .ok (.iload_n 1, 1) := by decide +kernel
theorem d_MO_rootAt_12 : decode b_MO_rootAt 12 = .ok (.iconst 1, 1) := by decide +kernel
theorem d_MO_rootAt_13 : decode b_MO_rootAt 13 = .ok (.iadd, 1) := by decide +kernel
theorem d_MO_rootAt_14 : decode b_MO_rootAt 14 = .ok (.invokevirtual 105, 3) := by decide +kernel
theorem d_MO_rootAt_17 : decode b_MO_rootAt 17 = .ok (.lreturn, 1) := by decide +kernel
theorem d_MO_stored_0 : decode b_MO_stored 0 = .ok (.iconst 0, 1) := by decide +kernel
theorem d_MO_stored_1 : decode b_MO_stored 1 = .ok (.istore_n 1, 1) := by decide +kernel
theorem d_MO_stored_2 : decode b_MO_stored 2 = .ok (.bipush 16, 2) := by decide +kernel
theorem d_MO_stored_4 : decode b_MO_stored 4 = .ok (.istore_n 2, 1) := by decide +kernel
theorem d_MO_stored_5 : decode b_MO_stored 5 = .ok (.iload_n 2, 1) := by decide +kernel
theorem d_MO_stored_6 : decode b_MO_stored 6 = .ok (.bipush 64, 2) := by decide +kernel
theorem d_MO_stored_8 : decode b_MO_stored 8 = .ok (.if_icmp .ge 25, 3) := by decide +kernel
theorem d_MO_stored_11 : decode b_MO_stored 11 = .ok (.aload_n 0, 1) := by decide +kernel
theorem d_MO_stored_12 : decode b_MO_stored 12 = .ok (.iload_n 2, 1) := by decide +kernel
theorem d_MO_stored_13 : decode b_MO_stored 13 = .ok (.invokevirtual 128, 3) := by decide +kernel
theorem d_MO_stored_16 : decode b_MO_stored 16 = .ok (.ifCond .eq 9, 3) := by decide +kernel
theorem d_MO_stored_19 : decode b_MO_stored 19 = .ok (.iload_n 1, 1) := by decide +kernel
theorem d_MO_stored_20 : decode b_MO_stored 20 = .ok (.iconst 1, 1) := by decide +kernel
theorem d_MO_stored_21 : decode b_MO_stored 21 = .ok (.iadd, 1) := by decide +kernel
theorem d_MO_stored_22 : decode b_MO_stored 22 = .ok (.goto 4, 3) := by decide +kernel
theorem d_MO_stored_25 : decode b_MO_stored 25 = .ok (.iload_n 1, 1) := by decide +kernel
theorem d_MO_stored_26 : decode b_MO_stored 26 = .ok (.istore_n 1, 1) := by decide +kernel
theorem d_MO_stored_27 : decode b_MO_stored 27 = .ok (.iinc 2 1, 3) := by decide +kernel
theorem d_MO_stored_30 : decode b_MO_stored 30 = .ok (.goto (-25), 3) := by decide +kernel
theorem d_MO_stored_33 : decode b_MO_stored 33 = .ok (.iload_n 1, 1) := by decide +kernel
theorem d_MO_stored_34 : decode b_MO_stored 34 = .ok (.ireturn, 1) := by decide +kernel
theorem d_MO_leads_0 : decode b_MO_leads 0 = .ok (.aload_n 0, 1) := by decide +kernel
theorem d_MO_leads_1 : decode b_MO_leads 1 = .ok (.iload_n 1, 1) := by decide +kernel
theorem d_MO_leads_2 : decode b_MO_leads 2 = .ok (.iload_n 2, 1) := by decide +kernel
theorem d_MO_leads_3 : decode b_MO_leads 3 = .ok (.invokevirtual 56, 3) := by decide +kernel
theorem d_MO_leads_6 : decode b_MO_leads 6 = .ok (.istore 4, 2) := by decide +kernel
theorem d_MO_leads_8 : decode b_MO_leads 8 = .ok (.iload 4, 2) := by decide +kernel
theorem d_MO_leads_10 : decode b_MO_leads 10 = .ok (.iconst 2, 1) := by decide +kernel
theorem d_MO_leads_11 : decode b_MO_leads 11 = .ok (.if_icmp .ge 5, 3) := by decide +kernel
theorem d_MO_leads_14 : decode b_MO_leads 14 = .ok (.iconst 0, 1) := by decide +kernel
theorem d_MO_leads_15 : decode b_MO_leads 15 = .ok (.ireturn, 1) := by decide +kernel
theorem d_MO_leads_16 : decode b_MO_leads 16 = .ok (.aload_n 0, 1) := by decide +kernel
theorem d_MO_leads_17 : decode b_MO_leads 17 = .ok (.iload_n 1, 1) := by decide +kernel
theorem d_MO_leads_18 : decode b_MO_leads 18 = .ok (.iload_n 2, 1) := by decide +kernel
theorem d_MO_leads_19 : decode b_MO_leads 19 = .ok (.invokevirtual 62, 3) := by decide +kernel
theorem d_MO_leads_22 : decode b_MO_leads 22 = .ok (.istore 5, 2) := by decide +kernel
theorem d_MO_leads_24 : decode b_MO_leads 24 = .ok (.aload_n 0, 1) := by decide +kernel
theorem d_MO_leads_25 : decode b_MO_leads 25 = .ok (.iload_n 1, 1) := by decide +kernel
theorem d_MO_leads_26 : decode b_MO_leads 26 = .ok (.iload 5, 2) := by decide +kernel
theorem d_MO_leads_28 : decode b_MO_leads 28 = .ok (.invokevirtual 77, 3) := by decide +kernel
theorem d_MO_leads_31 : decode b_MO_leads 31 = .ok (.istore 6, 2) := by decide +kernel
theorem d_MO_leads_33 : decode b_MO_leads 33 = .ok (.aload_n 0, 1) := by decide +kernel
theorem d_MO_leads_34 : decode b_MO_leads 34 = .ok (.iload_n 3, 1) := by decide +kernel
theorem d_MO_leads_35 : decode b_MO_leads 35 = .ok (.iload 6, 2) := by decide +kernel
theorem d_MO_leads_37 : decode b_MO_leads 37 = .ok (.invokevirtual 112, 3) := by decide +kernel
theorem d_MO_leads_40 : decode b_MO_leads 40 = .ok (.ireturn, 1) := by decide +kernel
theorem d_MO_usesOf_0 : decode b_MO_usesOf 0 = .ok (.iconst 0, 1) := by decide +kernel
theorem d_MO_usesOf_1 : decode b_MO_usesOf 1 = .ok (.istore_n 2, 1) := by decide +kernel
theorem d_MO_usesOf_2 : decode b_MO_usesOf 2 = .ok (.iconst 1, 1) := by decide +kernel
theorem d_MO_usesOf_3 : decode b_MO_usesOf 3 = .ok (.istore_n 3, 1) := by decide +kernel
theorem d_MO_usesOf_4 : decode b_MO_usesOf 4 = .ok (.iload_n 3, 1) := by decide +kernel
theorem d_MO_usesOf_5 : decode b_MO_usesOf 5 = .ok (.aload_n 0, 1) := by decide +kernel
theorem d_MO_usesOf_6 : decode b_MO_usesOf 6 = .ok (.getfield 109, 3) := by decide +kernel
theorem d_MO_usesOf_9 : decode b_MO_usesOf 9 = .ok (.if_icmp .gt 27, 3) := by decide +kernel
theorem d_MO_usesOf_12 : decode b_MO_usesOf 12 = .ok (.aload_n 0, 1) := by decide +kernel
theorem d_MO_usesOf_13 : decode b_MO_usesOf 13 = .ok (.iload_n 3, 1) := by decide +kernel
theorem d_MO_usesOf_14 : decode b_MO_usesOf 14 = .ok (.iconst 1, 1) := by decide +kernel
theorem d_MO_usesOf_15 : decode b_MO_usesOf 15 = .ok (.iload_n 1, 1) := by decide +kernel
theorem d_MO_usesOf_16 : decode b_MO_usesOf 16 = .ok (.invokevirtual 131, 3) := by decide +kernel
theorem d_MO_usesOf_19 : decode b_MO_usesOf 19 = .ok (.ifCond .eq 9, 3) := by decide +kernel
theorem d_MO_usesOf_22 : decode b_MO_usesOf 22 = .ok (.iload_n 2, 1) := by decide +kernel
theorem d_MO_usesOf_23 : decode b_MO_usesOf 23 = .ok (.iconst 1, 1) := by decide +kernel
theorem d_MO_usesOf_24 : decode b_MO_usesOf 24 = .ok (.iadd, 1) := by decide +kernel
theorem d_MO_usesOf_25 : decode b_MO_usesOf 25 = .ok (.goto 4, 3) := by decide +kernel
theorem d_MO_usesOf_28 : decode b_MO_usesOf 28 = .ok (.iload_n 2, 1) := by decide +kernel
theorem d_MO_usesOf_29 : decode b_MO_usesOf 29 = .ok (.istore_n 2, 1) := by decide +kernel
theorem d_MO_usesOf_30 : decode b_MO_usesOf 30 = .ok (.iinc 3 1, 3) := by decide +kernel
theorem d_MO_usesOf_33 : decode b_MO_usesOf 33 = .ok (.goto (-29), 3) := by decide +kernel
theorem d_MO_usesOf_36 : decode b_MO_usesOf 36 = .ok (.bipush 16, 2) := by decide +kernel
theorem d_MO_usesOf_38 : decode b_MO_usesOf 38 = .ok (.istore_n 3, 1) := by decide +kernel
theorem d_MO_usesOf_39 : decode b_MO_usesOf 39 = .ok (.iload_n 3, 1) := by decide +kernel
theorem d_MO_usesOf_40 : decode b_MO_usesOf 40 = .ok (.bipush 64, 2) := by decide +kernel
theorem d_MO_usesOf_42 : decode b_MO_usesOf 42 = .ok (.if_icmp .ge 69, 3) := by decide +kernel
theorem d_MO_usesOf_45 : decode b_MO_usesOf 45 = .ok (.aload_n 0, 1) := by decide +kernel
theorem d_MO_usesOf_46 : decode b_MO_usesOf 46 = .ok (.iload_n 3, 1) := by decide +kernel
theorem d_MO_usesOf_47 : decode b_MO_usesOf 47 = .ok (.invokevirtual 128, 3) := by decide +kernel
theorem d_MO_usesOf_50 : decode b_MO_usesOf 50 = .ok (.istore 4, 2) := by decide +kernel
theorem d_MO_usesOf_52 : decode b_MO_usesOf 52 = .ok (.iconst 0, 1) := by decide +kernel
theorem d_MO_usesOf_53 : decode b_MO_usesOf 53 = .ok (.istore 5, 2) := by decide +kernel
theorem d_MO_usesOf_55 : decode b_MO_usesOf 55 = .ok (.iload 5, 2) := by decide +kernel
theorem d_MO_usesOf_57 : decode b_MO_usesOf 57 = .ok (.bipush 16, 2) := by decide +kernel
theorem d_MO_usesOf_59 : decode b_MO_usesOf 59 = .ok (.if_icmp .ge 46, 3) := by decide +kernel
theorem d_MO_usesOf_62 : decode b_MO_usesOf 62 = .ok (.iload 4, 2) := by decide +kernel
theorem d_MO_usesOf_64 : decode b_MO_usesOf 64 = .ok (.ifCond .eq 41, 3) := by decide +kernel
theorem d_MO_usesOf_67 : decode b_MO_usesOf 67 = .ok (.aload_n 0, 1) := by decide +kernel
theorem d_MO_usesOf_68 : decode b_MO_usesOf 68 = .ok (.iload_n 3, 1) := by decide +kernel
theorem d_MO_usesOf_69 : decode b_MO_usesOf 69 = .ok (.bipush 16, 2) := by decide +kernel
theorem d_MO_usesOf_71 : decode b_MO_usesOf 71 = .ok (.idiv, 1) := by decide +kernel
theorem d_MO_usesOf_72 : decode b_MO_usesOf 72 = .ok (.bipush 16, 2) := by decide +kernel
theorem d_MO_usesOf_74 : decode b_MO_usesOf 74 = .ok (.aload_n 0, 1) := by decide +kernel
theorem d_MO_usesOf_75 : decode b_MO_usesOf 75 = .ok (.getfield 19, 3) := by decide +kernel
theorem d_MO_usesOf_78 : decode b_MO_usesOf 78 = .ok (.iload_n 3, 1) := by decide +kernel
theorem d_MO_usesOf_79 : decode b_MO_usesOf 79 = .ok (.iaload, 1) := by decide +kernel
theorem d_MO_usesOf_80 : decode b_MO_usesOf 80 = .ok (.imul, 1) := by decide +kernel
theorem d_MO_usesOf_81 : decode b_MO_usesOf 81 = .ok (.iload 5, 2) := by decide +kernel
theorem d_MO_usesOf_83 : decode b_MO_usesOf 83 = .ok (.iadd, 1) := by decide +kernel
theorem d_MO_usesOf_84 : decode b_MO_usesOf 84 = .ok (.iload_n 1, 1) := by decide +kernel
theorem d_MO_usesOf_85 : decode b_MO_usesOf 85 = .ok (.invokevirtual 131, 3) := by decide +kernel
theorem d_MO_usesOf_88 : decode b_MO_usesOf 88 = .ok (.ifCond .eq 9, 3) := by decide +kernel
theorem d_MO_usesOf_91 : decode b_MO_usesOf 91 = .ok (.iload_n 2, 1) := by decide +kernel
theorem d_MO_usesOf_92 : decode b_MO_usesOf 92 = .ok (.iconst 1, 1) := by decide +kernel
theorem d_MO_usesOf_93 : decode b_MO_usesOf 93 = .ok (.iadd, 1) := by decide +kernel
theorem d_MO_usesOf_94 : decode b_MO_usesOf 94 = .ok (.goto 4, 3) := by decide +kernel
theorem d_MO_usesOf_97 : decode b_MO_usesOf 97 = .ok (.iload_n 2, 1) := by decide +kernel
theorem d_MO_usesOf_98 : decode b_MO_usesOf 98 = .ok (.istore_n 2, 1) := by decide +kernel
theorem d_MO_usesOf_99 : decode b_MO_usesOf 99 = .ok (.iinc 5 1, 3) := by decide +kernel
theorem d_MO_usesOf_102 : decode b_MO_usesOf 102 = .ok (.goto (-47), 3) := by decide +kernel
theorem d_MO_usesOf_105 : decode b_MO_usesOf 105 = .ok (.iinc 3 1, 3) := by decide +kernel
theorem d_MO_usesOf_108 : decode b_MO_usesOf 108 = .ok (.goto (-69), 3) := by decide +kernel
theorem d_MO_usesOf_111 : decode b_MO_usesOf 111 = .ok (.iload_n 2, 1) := by decide +kernel
theorem d_MO_usesOf_112 : decode b_MO_usesOf 112 = .ok (.ireturn, 1) := by decide +kernel
theorem d_MO_uses_0 : decode b_MO_uses 0 = .ok (.iconst 0, 1) := by decide +kernel
theorem d_MO_uses_1 : decode b_MO_uses 1 = .ok (.istore_n 3, 1) := by decide +kernel
theorem d_MO_uses_2 : decode b_MO_uses 2 = .ok (.bipush 16, 2) := by decide +kernel
theorem d_MO_uses_4 : decode b_MO_uses 4 = .ok (.istore 4, 2) := by decide +kernel
theorem d_MO_uses_6 : decode b_MO_uses 6 = .ok (.iload 4, 2) := by decide +kernel
theorem d_MO_uses_8 : decode b_MO_uses 8 = .ok (.bipush 64, 2) := by decide +kernel
theorem d_MO_uses_10 : decode b_MO_uses 10 = .ok (.if_icmp .ge 39, 3) := by decide +kernel
theorem d_MO_uses_13 : decode b_MO_uses 13 = .ok (.aload_n 0, 1) := by decide +kernel
theorem d_MO_uses_14 : decode b_MO_uses 14 = .ok (.iload 4, 2) := by decide +kernel
theorem d_MO_uses_16 : decode b_MO_uses 16 = .ok (.invokevirtual 128, 3) := by decide +kernel
theorem d_MO_uses_19 : decode b_MO_uses 19 = .ok (.ifCond .eq 24, 3) := by decide +kernel
theorem d_MO_uses_22 : decode b_MO_uses 22 = .ok (.aload_n 0, 1) := by decide +kernel
theorem d_MO_uses_23 : decode b_MO_uses 23 = .ok (.getfield 22, 3) := by decide +kernel
theorem d_MO_uses_26 : decode b_MO_uses 26 = .ok (.iload 4, 2) := by decide +kernel
theorem d_MO_uses_28 : decode b_MO_uses 28 = .ok (.laload, 1) := by decide +kernel
theorem d_MO_uses_29 : decode b_MO_uses 29 = .ok (.lload_n 1, 1) := by decide +kernel
theorem d_MO_uses_30 : decode b_MO_uses 30 = .ok (.lcmp, 1) := by decide +kernel
theorem d_MO_uses_31 : decode b_MO_uses 31 = .ok (.ifCond .ne 12, 3) := by decide +kernel
theorem d_MO_uses_34 : decode b_MO_uses 34 = .ok (.iload_n 3, 1) := by decide +kernel
theorem d_MO_uses_35 : decode b_MO_uses 35 = .ok (.aload_n 0, 1) := by decide +kernel
theorem d_MO_uses_36 : decode b_MO_uses 36 = .ok (.iload 4, 2) := by decide +kernel
theorem d_MO_uses_38 : decode b_MO_uses 38 = .ok (.invokevirtual 135, 3) := by decide +kernel
theorem d_MO_uses_41 : decode b_MO_uses 41 = .ok (.iadd, 1) := by decide +kernel
theorem d_MO_uses_42 : decode b_MO_uses 42 = .ok (.istore_n 3, 1) := by decide +kernel
theorem d_MO_uses_43 : decode b_MO_uses 43 = .ok (.iinc 4 1, 3) := by decide +kernel
theorem d_MO_uses_46 : decode b_MO_uses 46 = .ok (.goto (-40), 3) := by decide +kernel
theorem d_MO_uses_49 : decode b_MO_uses 49 = .ok (.iload_n 3, 1) := by decide +kernel
theorem d_MO_uses_50 : decode b_MO_uses 50 = .ok (.ireturn, 1) := by decide +kernel
theorem d_MO_append_0 : decode b_MO_append 0 = .ok (.iconst 0, 1) := by decide +kernel
theorem d_MO_append_1 : decode b_MO_append 1 = .ok (.istore_n 1, 1) := by decide +kernel
theorem d_MO_append_2 : decode b_MO_append 2 = .ok (.iload_n 1, 1) := by decide +kernel
theorem d_MO_append_3 : decode b_MO_append 3 = .ok (.aload_n 0, 1) := by decide +kernel
theorem d_MO_append_4 : decode b_MO_append 4 = .ok (.getfield 65, 3) := by decide +kernel
theorem d_MO_append_7 : decode b_MO_append 7 = .ok (.if_icmp .ge 34, 3) := by decide +kernel
theorem d_MO_append_10 : decode b_MO_append 10 = .ok (.aload_n 0, 1) := by decide +kernel
theorem d_MO_append_11 : decode b_MO_append 11 = .ok (.getfield 32, 3) := by decide +kernel
theorem d_MO_append_14 : decode b_MO_append 14 = .ok (.aload_n 0, 1) := by decide +kernel
theorem d_MO_append_15 : decode b_MO_append 15 = .ok (.getfield 138, 3) := by decide +kernel
theorem d_MO_append_18 : decode b_MO_append 18 = .ok (.aload_n 0, 1) := by decide +kernel
