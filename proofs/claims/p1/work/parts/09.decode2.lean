theorem d_MO_append_19 : decode b_MO_append 19 = .ok (.getfield 29, 3) := by decide +kernel
theorem d_MO_append_22 : decode b_MO_append 22 = .ok (.iload_n 1, 1) := by decide +kernel
theorem d_MO_append_23 : decode b_MO_append 23 = .ok (.laload, 1) := by decide +kernel
theorem d_MO_append_24 : decode b_MO_append 24 = .ok (.lastore, 1) := by decide +kernel
theorem d_MO_append_25 : decode b_MO_append 25 = .ok (.aload_n 0, 1) := by decide +kernel
theorem d_MO_append_26 : decode b_MO_append 26 = .ok (.dup, 1) := by decide +kernel
theorem d_MO_append_27 : decode b_MO_append 27 = .ok (.getfield 138, 3) := by decide +kernel
theorem d_MO_append_30 : decode b_MO_append 30 = .ok (.iconst 1, 1) := by decide +kernel
theorem d_MO_append_31 : decode b_MO_append 31 = .ok (.iadd, 1) := by decide +kernel
theorem d_MO_append_32 : decode b_MO_append 32 = .ok (.putfield 138, 3) := by decide +kernel
theorem d_MO_append_35 : decode b_MO_append 35 = .ok (.iinc 1 1, 3) := by decide +kernel
theorem d_MO_append_38 : decode b_MO_append 38 = .ok (.goto (-36), 3) := by decide +kernel
theorem d_MO_append_41 : decode b_MO_append 41 = .ok (.return_, 1) := by decide +kernel
theorem d_MO_prove_0 : decode b_MO_prove 0 = .ok (.iload_n 2, 1) := by decide +kernel
theorem d_MO_prove_1 : decode b_MO_prove 1 = .ok (.invokestatic 41, 3) := by decide +kernel
theorem d_MO_prove_4 : decode b_MO_prove 4 = .ok (.istore_n 3, 1) := by decide +kernel
theorem d_MO_prove_5 : decode b_MO_prove 5 = .ok (.aload_n 0, 1) := by decide +kernel
theorem d_MO_prove_6 : decode b_MO_prove 6 = .ok (.iload_n 1, 1) := by decide +kernel
theorem d_MO_prove_7 : decode b_MO_prove 7 = .ok (.invokevirtual 125, 3) := by decide +kernel
theorem d_MO_prove_10 : decode b_MO_prove 10 = .ok (.ifCond .eq 7, 3) := by decide +kernel
theorem d_MO_prove_13 : decode b_MO_prove 13 = .ok (.iload_n 3, 1) := by decide +kernel
theorem d_MO_prove_14 : decode b_MO_prove 14 = .ok (.ifCond .ge 5, 3) := by decide +kernel
theorem d_MO_prove_17 : decode b_MO_prove 17 = .ok (.iconst (-1), 1) := by decide +kernel
theorem d_MO_prove_18 : decode b_MO_prove 18 = .ok (.ireturn, 1) := by decide +kernel
theorem d_MO_prove_19 : decode b_MO_prove 19 = .ok (.aload_n 0, 1) := by decide +kernel
theorem d_MO_prove_20 : decode b_MO_prove 20 = .ok (.iconst 0, 1) := by decide +kernel
theorem d_MO_prove_21 : decode b_MO_prove 21 = .ok (.putfield 138, 3) := by decide +kernel
theorem d_MO_prove_24 : decode b_MO_prove 24 = .ok (.aload_n 0, 1) := by decide +kernel
theorem d_MO_prove_25 : decode b_MO_prove 25 = .ok (.iconst 0, 1) := by decide +kernel
theorem d_MO_prove_26 : decode b_MO_prove 26 = .ok (.putfield 65, 3) := by decide +kernel
theorem d_MO_prove_29 : decode b_MO_prove 29 = .ok (.aload_n 0, 1) := by decide +kernel
theorem d_MO_prove_30 : decode b_MO_prove 30 = .ok (.iload_n 1, 1) := by decide +kernel
theorem d_MO_prove_31 : decode b_MO_prove 31 = .ok (.iconst 1, 1) := by decide +kernel
theorem d_MO_prove_32 : decode b_MO_prove 32 = .ok (.iadd, 1) := by decide +kernel
theorem d_MO_prove_33 : decode b_MO_prove 33 = .ok (.iconst 1, 1) := by decide +kernel
theorem d_MO_prove_34 : decode b_MO_prove 34 = .ok (.iconst 1, 1) := by decide +kernel
theorem d_MO_prove_35 : decode b_MO_prove 35 = .ok (.invokevirtual 80, 3) := by decide +kernel
theorem d_MO_prove_38 : decode b_MO_prove 38 = .ok (.aload_n 0, 1) := by decide +kernel
theorem d_MO_prove_39 : decode b_MO_prove 39 = .ok (.invokevirtual 141, 3) := by decide +kernel
theorem d_MO_prove_42 : decode b_MO_prove 42 = .ok (.iconst 0, 1) := by decide +kernel
theorem d_MO_prove_43 : decode b_MO_prove 43 = .ok (.istore 4, 2) := by decide +kernel
theorem d_MO_prove_45 : decode b_MO_prove 45 = .ok (.iload 4, 2) := by decide +kernel
theorem d_MO_prove_47 : decode b_MO_prove 47 = .ok (.iload_n 3, 1) := by decide +kernel
theorem d_MO_prove_48 : decode b_MO_prove 48 = .ok (.if_icmp .gt 49, 3) := by decide +kernel
theorem d_MO_prove_51 : decode b_MO_prove 51 = .ok (.iload_n 2, 1) := by decide +kernel
theorem d_MO_prove_52 : decode b_MO_prove 52 = .ok (.iconst 4, 1) := by decide +kernel
theorem d_MO_prove_53 : decode b_MO_prove 53 = .ok (.iload_n 3, 1) := by decide +kernel
theorem d_MO_prove_54 : decode b_MO_prove 54 = .ok (.iload 4, 2) := by decide +kernel
theorem d_MO_prove_56 : decode b_MO_prove 56 = .ok (.isub, 1) := by decide +kernel
theorem d_MO_prove_57 : decode b_MO_prove 57 = .ok (.imul, 1) := by decide +kernel
theorem d_MO_prove_58 : decode b_MO_prove 58 = .ok (.ishr, 1) := by decide +kernel
theorem d_MO_prove_59 : decode b_MO_prove 59 = .ok (.istore 5, 2) := by decide +kernel
theorem d_MO_prove_61 : decode b_MO_prove 61 = .ok (.aload_n 0, 1) := by decide +kernel
theorem d_MO_prove_62 : decode b_MO_prove 62 = .ok (.iload_n 1, 1) := by decide +kernel
theorem d_MO_prove_63 : decode b_MO_prove 63 = .ok (.iconst 1, 1) := by decide +kernel
theorem d_MO_prove_64 : decode b_MO_prove 64 = .ok (.iadd, 1) := by decide +kernel
theorem d_MO_prove_65 : decode b_MO_prove 65 = .ok (.iload 5, 2) := by decide +kernel
theorem d_MO_prove_67 : decode b_MO_prove 67 = .ok (.invokevirtual 77, 3) := by decide +kernel
theorem d_MO_prove_70 : decode b_MO_prove 70 = .ok (.ifCond .lt 21, 3) := by decide +kernel
theorem d_MO_prove_73 : decode b_MO_prove 73 = .ok (.aload_n 0, 1) := by decide +kernel
theorem d_MO_prove_74 : decode b_MO_prove 74 = .ok (.iconst 0, 1) := by decide +kernel
theorem d_MO_prove_75 : decode b_MO_prove 75 = .ok (.putfield 65, 3) := by decide +kernel
theorem d_MO_prove_78 : decode b_MO_prove 78 = .ok (.aload_n 0, 1) := by decide +kernel
theorem d_MO_prove_79 : decode b_MO_prove 79 = .ok (.iload_n 1, 1) := by decide +kernel
theorem d_MO_prove_80 : decode b_MO_prove 80 = .ok (.iconst 1, 1) := by decide +kernel
theorem d_MO_prove_81 : decode b_MO_prove 81 = .ok (.iadd, 1) := by decide +kernel
theorem d_MO_prove_82 : decode b_MO_prove 82 = .ok (.iload 5, 2) := by decide +kernel
theorem d_MO_prove_84 : decode b_MO_prove 84 = .ok (.invokevirtual 93, 3) := by decide +kernel
theorem d_MO_prove_87 : decode b_MO_prove 87 = .ok (.aload_n 0, 1) := by decide +kernel
theorem d_MO_prove_88 : decode b_MO_prove 88 = .ok (.invokevirtual 141, 3) := by decide +kernel
theorem d_MO_prove_91 : decode b_MO_prove 91 = .ok (.iinc 4 1, 3) := by decide +kernel
theorem d_MO_prove_94 : decode b_MO_prove 94 = .ok (.goto (-49), 3) := by decide +kernel
theorem d_MO_prove_97 : decode b_MO_prove 97 = .ok (.aload_n 0, 1) := by decide +kernel
theorem d_MO_prove_98 : decode b_MO_prove 98 = .ok (.getfield 138, 3) := by decide +kernel
theorem d_MO_prove_101 : decode b_MO_prove 101 = .ok (.ireturn, 1) := by decide +kernel
theorem d_MO_word_0 : decode b_MO_word 0 = .ok (.iload_n 1, 1) := by decide +kernel
theorem d_MO_word_1 : decode b_MO_word 1 = .ok (.ifCond .lt 20, 3) := by decide +kernel
theorem d_MO_word_4 : decode b_MO_word 4 = .ok (.iload_n 1, 1) := by decide +kernel
theorem d_MO_word_5 : decode b_MO_word 5 = .ok (.aload_n 0, 1) := by decide +kernel
theorem d_MO_word_6 : decode b_MO_word 6 = .ok (.getfield 138, 3) := by decide +kernel
theorem d_MO_word_9 : decode b_MO_word 9 = .ok (.if_icmp .ge 12, 3) := by decide +kernel
theorem d_MO_word_12 : decode b_MO_word 12 = .ok (.aload_n 0, 1) := by decide +kernel
theorem d_MO_word_13 : decode b_MO_word 13 = .ok (.getfield 32, 3) := by decide +kernel
theorem d_MO_word_16 : decode b_MO_word 16 = .ok (.iload_n 1, 1) := by decide +kernel
theorem d_MO_word_17 : decode b_MO_word 17 = .ok (.laload, 1) := by decide +kernel
theorem d_MO_word_18 : decode b_MO_word 18 = .ok (.goto 4, 3) := by decide +kernel
theorem d_MO_word_21 : decode b_MO_word 21 = .ok (.lconst 0, 1) := by decide +kernel
theorem d_MO_word_22 : decode b_MO_word 22 = .ok (.lreturn, 1) := by decide +kernel
theorem d_MO_alter_0 : decode b_MO_alter 0 = .ok (.iload_n 1, 1) := by decide +kernel
theorem d_MO_alter_1 : decode b_MO_alter 1 = .ok (.ifCond .lt 11, 3) := by decide +kernel
theorem d_MO_alter_4 : decode b_MO_alter 4 = .ok (.iload_n 1, 1) := by decide +kernel
theorem d_MO_alter_5 : decode b_MO_alter 5 = .ok (.aload_n 0, 1) := by decide +kernel
theorem d_MO_alter_6 : decode b_MO_alter 6 = .ok (.getfield 138, 3) := by decide +kernel
theorem d_MO_alter_9 : decode b_MO_alter 9 = .ok (.if_icmp .lt 5, 3) := by decide +kernel
theorem d_MO_alter_12 : decode b_MO_alter 12 = .ok (.iconst 0, 1) := by decide +kernel
theorem d_MO_alter_13 : decode b_MO_alter 13 = .ok (.ireturn, 1) := by decide +kernel
theorem d_MO_alter_14 : decode b_MO_alter 14 = .ok (.aload_n 0, 1) := by decide +kernel
theorem d_MO_alter_15 : decode b_MO_alter 15 = .ok (.getfield 32, 3) := by decide +kernel
theorem d_MO_alter_18 : decode b_MO_alter 18 = .ok (.iload_n 1, 1) := by decide +kernel
theorem d_MO_alter_19 : decode b_MO_alter 19 = .ok (.lload_n 2, 1) := by decide +kernel
theorem d_MO_alter_20 : decode b_MO_alter 20 = .ok (.lastore, 1) := by decide +kernel
theorem d_MO_alter_21 : decode b_MO_alter 21 = .ok (.iconst 1, 1) := by decide +kernel
theorem d_MO_alter_22 : decode b_MO_alter 22 = .ok (.ireturn, 1) := by decide +kernel
theorem d_MO_cut_0 : decode b_MO_cut 0 = .ok (.aload_n 0, 1) := by decide +kernel
theorem d_MO_cut_1 : decode b_MO_cut 1 = .ok (.aload_n 0, 1) := by decide +kernel
theorem d_MO_cut_2 : decode b_MO_cut 2 = .ok (.getfield 138, 3) := by decide +kernel
theorem d_MO_cut_5 : decode b_MO_cut 5 = .ok (.ifCond .ne 7, 3) := by decide +kernel
theorem d_MO_cut_8 : decode b_MO_cut 8 = .ok (.iconst 0, 1) := by decide +kernel
theorem d_MO_cut_9 : decode b_MO_cut 9 = .ok (.goto 9, 3) := by decide +kernel
theorem d_MO_cut_12 : decode b_MO_cut 12 = .ok (.aload_n 0, 1) := by decide +kernel
theorem d_MO_cut_13 : decode b_MO_cut 13 = .ok (.getfield 138, 3) := by decide +kernel
theorem d_MO_cut_16 : decode b_MO_cut 16 = .ok (.iconst 1, 1) := by decide +kernel
theorem d_MO_cut_17 : decode b_MO_cut 17 = .ok (.isub, 1) := by decide +kernel
theorem d_MO_cut_18 : decode b_MO_cut 18 = .ok (.putfield 138, 3) := by decide +kernel
theorem d_MO_cut_21 : decode b_MO_cut 21 = .ok (.aload_n 0, 1) := by decide +kernel
theorem d_MO_cut_22 : decode b_MO_cut 22 = .ok (.getfield 138, 3) := by decide +kernel
theorem d_MO_cut_25 : decode b_MO_cut 25 = .ok (.ireturn, 1) := by decide +kernel
theorem d_MO_few_0 : decode b_MO_few 0 = .ok (.lload_n 0, 1) := by decide +kernel
theorem d_MO_few_1 : decode b_MO_few 1 = .ok (.lconst 0, 1) := by decide +kernel
theorem d_MO_few_2 : decode b_MO_few 2 = .ok (.lcmp, 1) := by decide +kernel
theorem d_MO_few_3 : decode b_MO_few 3 = .ok (.ifCond .lt 15, 3) := by decide +kernel
theorem d_MO_few_6 : decode b_MO_few 6 = .ok (.lload_n 0, 1) := by decide +kernel
theorem d_MO_few_7 : decode b_MO_few 7 = .ok (.ldc2_w 72, 3) := by decide +kernel
theorem d_MO_few_10 : decode b_MO_few 10 = .ok (.lcmp, 1) := by decide +kernel
theorem d_MO_few_11 : decode b_MO_few 11 = .ok (.ifCond .gt 7, 3) := by decide +kernel
theorem d_MO_few_14 : decode b_MO_few 14 = .ok (.iconst 1, 1) := by decide +kernel
theorem d_MO_few_15 : decode b_MO_few 15 = .ok (.goto 4, 3) := by decide +kernel
theorem d_MO_few_18 : decode b_MO_few 18 = .ok (.iconst 0, 1) := by decide +kernel
theorem d_MO_few_19 : decode b_MO_few 19 = .ok (.ireturn, 1) := by decide +kernel
theorem d_MO_digestOf_0 : decode b_MO_digestOf 0 = .ok (.iload_n 2, 1) := by decide +kernel
theorem d_MO_digestOf_1 : decode b_MO_digestOf 1 = .ok (.iload_n 1, 1) := by decide +kernel
theorem d_MO_digestOf_2 : decode b_MO_digestOf 2 = .ok (.isub, 1) := by decide +kernel
theorem d_MO_digestOf_3 : decode b_MO_digestOf 3 = .ok (.i2l, 1) := by decide +kernel
theorem d_MO_digestOf_4 : decode b_MO_digestOf 4 = .ok (.lstore_n 3, 1) := by decide +kernel
theorem d_MO_digestOf_5 : decode b_MO_digestOf 5 = .ok (.iload_n 1, 1) := by decide +kernel
theorem d_MO_digestOf_6 : decode b_MO_digestOf 6 = .ok (.istore 5, 2) := by decide +kernel
theorem d_MO_digestOf_8 : decode b_MO_digestOf 8 = .ok (.iload 5, 2) := by decide +kernel
theorem d_MO_digestOf_10 : decode b_MO_digestOf 10 = .ok (.iload_n 2, 1) := by decide +kernel
theorem d_MO_digestOf_11 : decode b_MO_digestOf 11 = .ok (.if_icmp .ge 21, 3) := by decide +kernel
theorem d_MO_digestOf_14 : decode b_MO_digestOf 14 = .ok (.lload_n 3, 1) := by decide +kernel
theorem d_MO_digestOf_15 : decode b_MO_digestOf 15 = .ok (.aload_n 0, 1) := by decide +kernel
theorem d_MO_digestOf_16 : decode b_MO_digestOf 16 = .ok (.getfield 32, 3) := by decide +kernel
theorem d_MO_digestOf_19 : decode b_MO_digestOf 19 = .ok (.iload 5, 2) := by decide +kernel
theorem d_MO_digestOf_21 : decode b_MO_digestOf 21 = .ok (.laload, 1) := by decide +kernel
theorem d_MO_digestOf_22 : decode b_MO_digestOf 22 = .ok (.invokestatic 86, 3) := by decide +kernel
theorem d_MO_digestOf_25 : decode b_MO_digestOf 25 = .ok (.lstore_n 3, 1) := by decide +kernel
theorem d_MO_digestOf_26 : decode b_MO_digestOf 26 = .ok (.iinc 5 1, 3) := by decide +kernel
theorem d_MO_digestOf_29 : decode b_MO_digestOf 29 = .ok (.goto (-21), 3) := by decide +kernel
theorem d_MO_digestOf_32 : decode b_MO_digestOf 32 = .ok (.lload_n 3, 1) := by decide +kernel
theorem d_MO_digestOf_33 : decode b_MO_digestOf 33 = .ok (.lreturn, 1) := by decide +kernel
theorem d_MO_refer_0 : decode b_MO_refer 0 = .ok (.aload_n 0, 1) := by decide +kernel
theorem d_MO_refer_1 : decode b_MO_refer 1 = .ok (.iload_n 2, 1) := by decide +kernel
theorem d_MO_refer_2 : decode b_MO_refer 2 = .ok (.putfield 144, 3) := by decide +kernel
theorem d_MO_refer_5 : decode b_MO_refer 5 = .ok (.iload_n 1, 1) := by decide +kernel
theorem d_MO_refer_6 : decode b_MO_refer 6 = .ok (.iload_n 2, 1) := by decide +kernel
theorem d_MO_refer_7 : decode b_MO_refer 7 = .ok (.iadd, 1) := by decide +kernel
theorem d_MO_refer_8 : decode b_MO_refer 8 = .ok (.aload_n 0, 1) := by decide +kernel
theorem d_MO_refer_9 : decode b_MO_refer 9 = .ok (.getfield 138, 3) := by decide +kernel
theorem d_MO_refer_12 : decode b_MO_refer 12 = .ok (.if_icmp .le 5, 3) := by decide +kernel
theorem d_MO_refer_15 : decode b_MO_refer 15 = .ok (.iconst 0, 1) := by decide +kernel
theorem d_MO_refer_16 : decode b_MO_refer 16 = .ok (.ireturn, 1) := by decide +kernel
theorem d_MO_refer_17 : decode b_MO_refer 17 = .ok (.aload_n 0, 1) := by decide +kernel
theorem d_MO_refer_18 : decode b_MO_refer 18 = .ok (.iload_n 2, 1) := by decide +kernel
theorem d_MO_refer_19 : decode b_MO_refer 19 = .ok (.ifCond .le 12, 3) := by decide +kernel
theorem d_MO_refer_22 : decode b_MO_refer 22 = .ok (.aload_n 0, 1) := by decide +kernel
theorem d_MO_refer_23 : decode b_MO_refer 23 = .ok (.getfield 32, 3) := by decide +kernel
theorem d_MO_refer_26 : decode b_MO_refer 26 = .ok (.iload_n 1, 1) := by decide +kernel
theorem d_MO_refer_27 : decode b_MO_refer 27 = .ok (.laload, 1) := by decide +kernel
theorem d_MO_refer_28 : decode b_MO_refer 28 = .ok (.goto 4, 3) := by decide +kernel
theorem d_MO_refer_31 : decode b_MO_refer 31 = .ok (.lconst 0, 1) := by decide +kernel
theorem d_MO_refer_32 : decode b_MO_refer 32 = .ok (.putfield 147, 3) := by decide +kernel
theorem d_MO_refer_35 : decode b_MO_refer 35 = .ok (.aload_n 0, 1) := by decide +kernel
theorem d_MO_refer_36 : decode b_MO_refer 36 = .ok (.iload_n 2, 1) := by decide +kernel
theorem d_MO_refer_37 : decode b_MO_refer 37 = .ok (.iconst 1, 1) := by decide +kernel
theorem d_MO_refer_38 : decode b_MO_refer 38 = .ok (.if_icmp .le 14, 3) := by decide +kernel
theorem d_MO_refer_41 : decode b_MO_refer 41 = .ok (.aload_n 0, 1) := by decide +kernel
theorem d_MO_refer_42 : decode b_MO_refer 42 = .ok (.getfield 32, 3) := by decide +kernel
theorem d_MO_refer_45 : decode b_MO_refer 45 = .ok (.iload_n 1, 1) := by decide +kernel
theorem d_MO_refer_46 : decode b_MO_refer 46 = .ok (.iconst 1, 1) := by decide +kernel
theorem d_MO_refer_47 : decode b_MO_refer 47 = .ok (.iadd, 1) := by decide +kernel
theorem d_MO_refer_48 : decode b_MO_refer 48 = .ok (.laload, 1) := by decide +kernel
theorem d_MO_refer_49 : decode b_MO_refer 49 = .ok (.goto 4, 3) := by decide +kernel
theorem d_MO_refer_52 : decode b_MO_refer 52 = .ok (.lconst 0, 1) := by decide +kernel
theorem d_MO_refer_53 : decode b_MO_refer 53 = .ok (.putfield 151, 3) := by decide +kernel
theorem d_MO_refer_56 : decode b_MO_refer 56 = .ok (.iconst 1, 1) := by decide +kernel
theorem d_MO_refer_57 : decode b_MO_refer 57 = .ok (.ireturn, 1) := by decide +kernel
theorem d_MO_branchEnd_0 : decode b_MO_branchEnd 0 = .ok (.aload_n 0, 1) := by decide +kernel
theorem d_MO_branchEnd_1 : decode b_MO_branchEnd 1 = .ok (.getfield 154, 3) := by decide +kernel
theorem d_MO_branchEnd_4 : decode b_MO_branchEnd 4 = .ok (.istore_n 1, 1) := by decide +kernel
theorem d_MO_branchEnd_5 : decode b_MO_branchEnd 5 = .ok (.iconst 0, 1) := by decide +kernel
theorem d_MO_branchEnd_6 : decode b_MO_branchEnd 6 = .ok (.istore_n 2, 1) := by decide +kernel
theorem d_MO_branchEnd_7 : decode b_MO_branchEnd 7 = .ok (.iload_n 2, 1) := by decide +kernel
theorem d_MO_branchEnd_8 : decode b_MO_branchEnd 8 = .ok (.bipush 16, 2) := by decide +kernel
theorem d_MO_branchEnd_10 : decode b_MO_branchEnd 10 = .ok (.if_icmp .ge 43, 3) := by decide +kernel
theorem d_MO_branchEnd_13 : decode b_MO_branchEnd 13 = .ok (.iload_n 1, 1) := by decide +kernel
theorem d_MO_branchEnd_14 : decode b_MO_branchEnd 14 = .ok (.aload_n 0, 1) := by decide +kernel
theorem d_MO_branchEnd_15 : decode b_MO_branchEnd 15 = .ok (.getfield 138, 3) := by decide +kernel
theorem d_MO_branchEnd_18 : decode b_MO_branchEnd 18 = .ok (.if_icmp .ge 15, 3) := by decide +kernel
theorem d_MO_branchEnd_21 : decode b_MO_branchEnd 21 = .ok (.aload_n 0, 1) := by decide +kernel
theorem d_MO_branchEnd_22 : decode b_MO_branchEnd 22 = .ok (.getfield 32, 3) := by decide +kernel
theorem d_MO_branchEnd_25 : decode b_MO_branchEnd 25 = .ok (.iload_n 1, 1) := by decide +kernel
theorem d_MO_branchEnd_26 : decode b_MO_branchEnd 26 = .ok (.laload, 1) := by decide +kernel
theorem d_MO_branchEnd_27 : decode b_MO_branchEnd 27 = .ok (.invokestatic 157, 3) := by decide +kernel
theorem d_MO_branchEnd_30 : decode b_MO_branchEnd 30 = .ok (.ifCond .ne 5, 3) := by decide +kernel
theorem d_MO_branchEnd_33 : decode b_MO_branchEnd 33 = .ok (.iconst (-1), 1) := by decide +kernel
theorem d_MO_branchEnd_34 : decode b_MO_branchEnd 34 = .ok (.ireturn, 1) := by decide +kernel
theorem d_MO_branchEnd_35 : decode b_MO_branchEnd 35 = .ok (.iload_n 1, 1) := by decide +kernel
theorem d_MO_branchEnd_36 : decode b_MO_branchEnd 36 = .ok (.iconst 1, 1) := by decide +kernel
theorem d_MO_branchEnd_37 : decode b_MO_branchEnd 37 = .ok (.iadd, 1) := by decide +kernel
theorem d_MO_branchEnd_38 : decode b_MO_branchEnd 38 = .ok (.aload_n 0, 1) := by decide +kernel
theorem d_MO_branchEnd_39 : decode b_MO_branchEnd 39 = .ok (.getfield 32, 3) := by decide +kernel
theorem d_MO_branchEnd_42 : decode b_MO_branchEnd 42 = .ok (.iload_n 1, 1) := by decide +kernel
theorem d_MO_branchEnd_43 : decode b_MO_branchEnd 43 = .ok (.laload, 1) := by decide +kernel
theorem d_MO_branchEnd_44 : decode b_MO_branchEnd 44 = .ok (.l2i, 1) := by decide +kernel
theorem d_MO_branchEnd_45 : decode b_MO_branchEnd 45 = .ok (.iadd, 1) := by decide +kernel
theorem d_MO_branchEnd_46 : decode b_MO_branchEnd 46 = .ok (.istore_n 1, 1) := by decide +kernel
theorem d_MO_branchEnd_47 : decode b_MO_branchEnd 47 = .ok (.iinc 2 1, 3) := by decide +kernel
theorem d_MO_branchEnd_50 : decode b_MO_branchEnd 50 = .ok (.goto (-43), 3) := by decide +kernel
theorem d_MO_branchEnd_53 : decode b_MO_branchEnd 53 = .ok (.iload_n 1, 1) := by decide +kernel
theorem d_MO_branchEnd_54 : decode b_MO_branchEnd 54 = .ok (.aload_n 0, 1) := by decide +kernel
theorem d_MO_branchEnd_55 : decode b_MO_branchEnd 55 = .ok (.getfield 138, 3) := by decide +kernel
theorem d_MO_branchEnd_58 : decode b_MO_branchEnd 58 = .ok (.if_icmp .ge 9, 3) := by decide +kernel
theorem d_MO_branchEnd_61 : decode b_MO_branchEnd 61 = .ok (.iload_n 1, 1) := by decide +kernel
theorem d_MO_branchEnd_62 : decode b_MO_branchEnd 62 = .ok (.iconst 1, 1) := by decide +kernel
theorem d_MO_branchEnd_63 : decode b_MO_branchEnd 63 = .ok (.iadd, 1) := by decide +kernel
theorem d_MO_branchEnd_64 : decode b_MO_branchEnd 64 = .ok (.goto 4, 3) := by decide +kernel
theorem d_MO_branchEnd_67 : decode b_MO_branchEnd 67 = .ok (.iconst (-1), 1) := by decide +kernel
theorem d_MO_branchEnd_68 : decode b_MO_branchEnd 68 = .ok (.ireturn, 1) := by decide +kernel
theorem d_MO_throughBranch_0 : decode b_MO_throughBranch 0 = .ok (.aload_n 0, 1) := by decide +kernel
theorem d_MO_throughBranch_1 : decode b_MO_throughBranch 1 = .ok (.invokevirtual 161, 3) := by decide +kernel
theorem d_MO_throughBranch_4 : decode b_MO_throughBranch 4 = .ok (.istore_n 1, 1) := by decide +kernel
theorem d_MO_throughBranch_5 : decode b_MO_throughBranch 5 = .ok (.iload_n 1, 1) := by decide +kernel
theorem d_MO_throughBranch_6 : decode b_MO_throughBranch 6 = .ok (.ifCond .lt 20, 3) := by decide +kernel
theorem d_MO_throughBranch_9 : decode b_MO_throughBranch 9 = .ok (.aload_n 0, 1) := by decide +kernel
theorem d_MO_throughBranch_10 : decode b_MO_throughBranch 10 = .ok (.aload_n 0, 1) := by decide +kernel
theorem d_MO_throughBranch_11 : decode b_MO_throughBranch 11 = .ok (.getfield 154, 3) := by decide +kernel
theorem d_MO_throughBranch_14 : decode b_MO_throughBranch 14 = .ok (.iload_n 1, 1) := by decide +kernel
theorem d_MO_throughBranch_15 : decode b_MO_throughBranch 15 = .ok (.invokevirtual 165, 3) := by decide +kernel
theorem d_MO_throughBranch_18 : decode b_MO_throughBranch 18 = .ok (.aload_n 0, 1) := by decide +kernel
theorem d_MO_throughBranch_19 : decode b_MO_throughBranch 19 = .ok (.getfield 147, 3) := by decide +kernel
theorem d_MO_throughBranch_22 : decode b_MO_throughBranch 22 = .ok (.lcmp, 1) := by decide +kernel
theorem d_MO_throughBranch_23 : decode b_MO_throughBranch 23 = .ok (.ifCond .eq 5, 3) := by decide +kernel
theorem d_MO_throughBranch_26 : decode b_MO_throughBranch 26 = .ok (.iconst (-1), 1) := by decide +kernel
theorem d_MO_throughBranch_27 : decode b_MO_throughBranch 27 = .ok (.ireturn, 1) := by decide +kernel
theorem d_MO_throughBranch_28 : decode b_MO_throughBranch 28 = .ok (.aload_n 0, 1) := by decide +kernel
theorem d_MO_throughBranch_29 : decode b_MO_throughBranch 29 = .ok (.getfield 169, 3) := by decide +kernel
theorem d_MO_throughBranch_32 : decode b_MO_throughBranch 32 = .ok (.invokestatic 41, 3) := by decide +kernel
theorem d_MO_throughBranch_35 : decode b_MO_throughBranch 35 = .ok (.istore_n 2, 1) := by decide +kernel
theorem d_MO_throughBranch_36 : decode b_MO_throughBranch 36 = .ok (.aload_n 0, 1) := by decide +kernel
theorem d_MO_throughBranch_37 : decode b_MO_throughBranch 37 = .ok (.getfield 154, 3) := by decide +kernel
theorem d_MO_throughBranch_40 : decode b_MO_throughBranch 40 = .ok (.istore_n 3, 1) := by decide +kernel
theorem d_MO_throughBranch_41 : decode b_MO_throughBranch 41 = .ok (.aload_n 0, 1) := by decide +kernel
theorem d_MO_throughBranch_42 : decode b_MO_throughBranch 42 = .ok (.iload_n 1, 1) := by decide +kernel
theorem d_MO_throughBranch_43 : decode b_MO_throughBranch 43 = .ok (.putfield 154, 3) := by decide +kernel
theorem d_MO_throughBranch_46 : decode b_MO_throughBranch 46 = .ok (.iload_n 2, 1) := by decide +kernel
theorem d_MO_throughBranch_47 : decode b_MO_throughBranch 47 = .ok (.ifCond .ne 17, 3) := by decide +kernel
theorem d_MO_throughBranch_50 : decode b_MO_throughBranch 50 = .ok (.aload_n 0, 1) := by decide +kernel
theorem d_MO_throughBranch_51 : decode b_MO_throughBranch 51 = .ok (.aload_n 0, 1) := by decide +kernel
theorem d_MO_throughBranch_52 : decode b_MO_throughBranch 52 = .ok (.getfield 32, 3) := by decide +kernel
theorem d_MO_throughBranch_55 : decode b_MO_throughBranch 55 = .ok (.iload_n 1, 1) := by decide +kernel
theorem d_MO_throughBranch_56 : decode b_MO_throughBranch 56 = .ok (.iconst 1, 1) := by decide +kernel
theorem d_MO_throughBranch_57 : decode b_MO_throughBranch 57 = .ok (.isub, 1) := by decide +kernel
theorem d_MO_throughBranch_58 : decode b_MO_throughBranch 58 = .ok (.laload, 1) := by decide +kernel
theorem d_MO_throughBranch_59 : decode b_MO_throughBranch 59 = .ok (.putfield 147, 3) := by decide +kernel
theorem d_MO_throughBranch_62 : decode b_MO_throughBranch 62 = .ok (.iconst 1, 1) := by decide +kernel
theorem d_MO_throughBranch_63 : decode b_MO_throughBranch 63 = .ok (.ireturn, 1) := by decide +kernel
theorem d_MO_throughBranch_64 : decode b_MO_throughBranch 64 = .ok (.aload_n 0, 1) := by decide +kernel
theorem d_MO_throughBranch_65 : decode b_MO_throughBranch 65 = .ok (.getfield 169, 3) := by decide +kernel
theorem d_MO_throughBranch_68 : decode b_MO_throughBranch 68 = .ok (.iconst 4, 1) := by decide +kernel
theorem d_MO_throughBranch_69 : decode b_MO_throughBranch 69 = .ok (.iload_n 2, 1) := by decide +kernel
theorem d_MO_throughBranch_70 : decode b_MO_throughBranch 70 = .ok (.iconst 1, 1) := by decide +kernel
theorem d_MO_throughBranch_71 : decode b_MO_throughBranch 71 = .ok (.isub, 1) := by decide +kernel
theorem d_MO_throughBranch_72 : decode b_MO_throughBranch 72 = .ok (.imul, 1) := by decide +kernel
theorem d_MO_throughBranch_73 : decode b_MO_throughBranch 73 = .ok (.ishr, 1) := by decide +kernel
theorem d_MO_throughBranch_74 : decode b_MO_throughBranch 74 = .ok (.bipush 15, 2) := by decide +kernel
theorem d_MO_throughBranch_76 : decode b_MO_throughBranch 76 = .ok (.iand, 1) := by decide +kernel
theorem d_MO_throughBranch_77 : decode b_MO_throughBranch 77 = .ok (.istore 4, 2) := by decide +kernel
theorem d_MO_throughBranch_79 : decode b_MO_throughBranch 79 = .ok (.iconst 0, 1) := by decide +kernel
theorem d_MO_throughBranch_80 : decode b_MO_throughBranch 80 = .ok (.istore 5, 2) := by decide +kernel
theorem d_MO_throughBranch_82 : decode b_MO_throughBranch 82 = .ok (.iload 5, 2) := by decide +kernel
theorem d_MO_throughBranch_84 : decode b_MO_throughBranch 84 = .ok (.iload 4, 2) := by decide +kernel
theorem d_MO_throughBranch_86 : decode b_MO_throughBranch 86 = .ok (.if_icmp .ge 21, 3) := by decide +kernel
theorem d_MO_throughBranch_89 : decode b_MO_throughBranch 89 = .ok (.iload_n 3, 1) := by decide +kernel
theorem d_MO_throughBranch_90 : decode b_MO_throughBranch 90 = .ok (.iconst 1, 1) := by decide +kernel
theorem d_MO_throughBranch_91 : decode b_MO_throughBranch 91 = .ok (.iadd, 1) := by decide +kernel
theorem d_MO_throughBranch_92 : decode b_MO_throughBranch 92 = .ok (.aload_n 0, 1) := by decide +kernel
theorem d_MO_throughBranch_93 : decode b_MO_throughBranch 93 = .ok (.getfield 32, 3) := by decide +kernel
theorem d_MO_throughBranch_96 : decode b_MO_throughBranch 96 = .ok (.iload_n 3, 1) := by decide +kernel
theorem d_MO_throughBranch_97 : decode b_MO_throughBranch 97 = .ok (.laload, 1) := by decide +kernel
theorem d_MO_throughBranch_98 : decode b_MO_throughBranch 98 = .ok (.l2i, 1) := by decide +kernel
theorem d_MO_throughBranch_99 : decode b_MO_throughBranch 99 = .ok (.iadd, 1) := by decide +kernel
theorem d_MO_throughBranch_100 : decode b_MO_throughBranch 100 = .ok (.istore_n 3, 1) := by decide +kernel
theorem d_MO_throughBranch_101 : decode b_MO_throughBranch 101 = .ok (.iinc 5 1, 3) := by decide +kernel
theorem d_MO_throughBranch_104 : decode b_MO_throughBranch 104 = .ok (.goto (-22), 3) := by decide +kernel
theorem d_MO_throughBranch_107 : decode b_MO_throughBranch 107 = .ok (.aload_n 0, 1) := by decide +kernel
theorem d_MO_throughBranch_108 : decode b_MO_throughBranch 108 = .ok (.aload_n 0, 1) := by decide +kernel
theorem d_MO_throughBranch_109 : decode b_MO_throughBranch 109 = .ok (.getfield 169, 3) := by decide +kernel
theorem d_MO_throughBranch_112 : decode b_MO_throughBranch 112 = .ok (.bipush 16, 2) := by decide +kernel
theorem d_MO_throughBranch_114 : decode b_MO_throughBranch 114 = .ok (.iload 4, 2) := by decide +kernel
theorem d_MO_throughBranch_116 : decode b_MO_throughBranch 116 = .ok (.iadd, 1) := by decide +kernel
theorem d_MO_throughBranch_117 : decode b_MO_throughBranch 117 = .ok (.invokestatic 74, 3) := by decide +kernel
theorem d_MO_throughBranch_120 : decode b_MO_throughBranch 120 = .ok (.putfield 169, 3) := by decide +kernel
theorem d_MO_throughBranch_123 : decode b_MO_throughBranch 123 = .ok (.aload_n 0, 1) := by decide +kernel
theorem d_MO_throughBranch_124 : decode b_MO_throughBranch 124 = .ok (.iload_n 3, 1) := by decide +kernel
theorem d_MO_throughBranch_125 : decode b_MO_throughBranch 125 = .ok (.iconst 1, 1) := by decide +kernel
theorem d_MO_throughBranch_126 : decode b_MO_throughBranch 126 = .ok (.iadd, 1) := by decide +kernel
theorem d_MO_throughBranch_127 : decode b_MO_throughBranch 127 = .ok (.aload_n 0, 1) := by decide +kernel
theorem d_MO_throughBranch_128 : decode b_MO_throughBranch 128 = .ok (.getfield 32, 3) := by decide +kernel
theorem d_MO_throughBranch_131 : decode b_MO_throughBranch 131 = .ok (.iload_n 3, 1) := by decide +kernel
theorem d_MO_throughBranch_132 : decode b_MO_throughBranch 132 = .ok (.laload, 1) := by decide +kernel
theorem d_MO_throughBranch_133 : decode b_MO_throughBranch 133 = .ok (.l2i, 1) := by decide +kernel
theorem d_MO_throughBranch_134 : decode b_MO_throughBranch 134 = .ok (.invokevirtual 172, 3) := by decide +kernel
theorem d_MO_throughBranch_137 : decode b_MO_throughBranch 137 = .ok (.istore 5, 2) := by decide +kernel
theorem d_MO_throughBranch_139 : decode b_MO_throughBranch 139 = .ok (.iload 5, 2) := by decide +kernel
theorem d_MO_throughBranch_141 : decode b_MO_throughBranch 141 = .ok (.ifCond .eq 7, 3) := by decide +kernel
theorem d_MO_throughBranch_144 : decode b_MO_throughBranch 144 = .ok (.iconst 0, 1) := by decide +kernel
theorem d_MO_throughBranch_145 : decode b_MO_throughBranch 145 = .ok (.goto 4, 3) := by decide +kernel
theorem d_MO_throughBranch_148 : decode b_MO_throughBranch 148 = .ok (.iconst (-1), 1) := by decide +kernel
theorem d_MO_throughBranch_149 : decode b_MO_throughBranch 149 = .ok (.ireturn, 1) := by decide +kernel
theorem d_MO_throughTwo_0 : decode b_MO_throughTwo 0 = .ok (.aload_n 0, 1) := by decide +kernel
theorem d_MO_throughTwo_1 : decode b_MO_throughTwo 1 = .ok (.getfield 147, 3) := by decide +kernel
theorem d_MO_throughTwo_4 : decode b_MO_throughTwo 4 = .ok (.ldc2_w 175, 3) := by decide +kernel
theorem d_MO_throughTwo_7 : decode b_MO_throughTwo 7 = .ok (.lcmp, 1) := by decide +kernel
theorem d_MO_throughTwo_8 : decode b_MO_throughTwo 8 = .ok (.ifCond .lt 14, 3) := by decide +kernel
theorem d_MO_throughTwo_11 : decode b_MO_throughTwo 11 = .ok (.aload_n 0, 1) := by decide +kernel
theorem d_MO_throughTwo_12 : decode b_MO_throughTwo 12 = .ok (.getfield 147, 3) := by decide +kernel
theorem d_MO_throughTwo_15 : decode b_MO_throughTwo 15 = .ok (.ldc2_w 177, 3) := by decide +kernel
theorem d_MO_throughTwo_18 : decode b_MO_throughTwo 18 = .ok (.lcmp, 1) := by decide +kernel
theorem d_MO_throughTwo_19 : decode b_MO_throughTwo 19 = .ok (.ifCond .le 7, 3) := by decide +kernel
theorem d_MO_throughTwo_22 : decode b_MO_throughTwo 22 = .ok (.iconst (-1), 1) := by decide +kernel
theorem d_MO_throughTwo_23 : decode b_MO_throughTwo 23 = .ok (.goto 10, 3) := by decide +kernel
theorem d_MO_throughTwo_26 : decode b_MO_throughTwo 26 = .ok (.aload_n 0, 1) := by decide +kernel
theorem d_MO_throughTwo_27 : decode b_MO_throughTwo 27 = .ok (.getfield 147, 3) := by decide +kernel
theorem d_MO_throughTwo_30 : decode b_MO_throughTwo 30 = .ok (.iconst 1, 1) := by decide +kernel
theorem d_MO_throughTwo_31 : decode b_MO_throughTwo 31 = .ok (.lshr, 1) := by decide +kernel
theorem d_MO_throughTwo_32 : decode b_MO_throughTwo 32 = .ok (.l2i, 1) := by decide +kernel
theorem d_MO_throughTwo_33 : decode b_MO_throughTwo 33 = .ok (.istore_n 1, 1) := by decide +kernel
theorem d_MO_throughTwo_34 : decode b_MO_throughTwo 34 = .ok (.iload_n 1, 1) := by decide +kernel
theorem d_MO_throughTwo_35 : decode b_MO_throughTwo 35 = .ok (.ifCond .lt 10, 3) := by decide +kernel
theorem d_MO_throughTwo_38 : decode b_MO_throughTwo 38 = .ok (.iload_n 1, 1) := by decide +kernel
theorem d_MO_throughTwo_39 : decode b_MO_throughTwo 39 = .ok (.invokestatic 41, 3) := by decide +kernel
theorem d_MO_throughTwo_42 : decode b_MO_throughTwo 42 = .ok (.ifCond .ge 5, 3) := by decide +kernel
theorem d_MO_throughTwo_45 : decode b_MO_throughTwo 45 = .ok (.iconst (-1), 1) := by decide +kernel
theorem d_MO_throughTwo_46 : decode b_MO_throughTwo 46 = .ok (.ireturn, 1) := by decide +kernel
theorem d_MO_throughTwo_47 : decode b_MO_throughTwo 47 = .ok (.aload_n 0, 1) := by decide +kernel
theorem d_MO_throughTwo_48 : decode b_MO_throughTwo 48 = .ok (.getfield 147, 3) := by decide +kernel
theorem d_MO_throughTwo_51 : decode b_MO_throughTwo 51 = .ok (.lconst 1, 1) := by decide +kernel
theorem d_MO_throughTwo_52 : decode b_MO_throughTwo 52 = .ok (.land, 1) := by decide +kernel
theorem d_MO_throughTwo_53 : decode b_MO_throughTwo 53 = .ok (.lconst 1, 1) := by decide +kernel
theorem d_MO_throughTwo_54 : decode b_MO_throughTwo 54 = .ok (.lcmp, 1) := by decide +kernel
theorem d_MO_throughTwo_55 : decode b_MO_throughTwo 55 = .ok (.ifCond .ne 25, 3) := by decide +kernel
theorem d_MO_throughTwo_58 : decode b_MO_throughTwo 58 = .ok (.aload_n 0, 1) := by decide +kernel
theorem d_MO_throughTwo_59 : decode b_MO_throughTwo 59 = .ok (.iload_n 1, 1) := by decide +kernel
theorem d_MO_throughTwo_60 : decode b_MO_throughTwo 60 = .ok (.aload_n 0, 1) := by decide +kernel
theorem d_MO_throughTwo_61 : decode b_MO_throughTwo 61 = .ok (.getfield 169, 3) := by decide +kernel
theorem d_MO_throughTwo_64 : decode b_MO_throughTwo 64 = .ok (.if_icmp .ne 10, 3) := by decide +kernel
theorem d_MO_throughTwo_67 : decode b_MO_throughTwo 67 = .ok (.aload_n 0, 1) := by decide +kernel
theorem d_MO_throughTwo_68 : decode b_MO_throughTwo 68 = .ok (.getfield 151, 3) := by decide +kernel
theorem d_MO_throughTwo_71 : decode b_MO_throughTwo 71 = .ok (.goto 4, 3) := by decide +kernel
theorem d_MO_throughTwo_74 : decode b_MO_throughTwo 74 = .ok (.lconst 0, 1) := by decide +kernel
theorem d_MO_throughTwo_75 : decode b_MO_throughTwo 75 = .ok (.putfield 147, 3) := by decide +kernel
theorem d_MO_throughTwo_78 : decode b_MO_throughTwo 78 = .ok (.iconst 1, 1) := by decide +kernel
theorem d_MO_throughTwo_79 : decode b_MO_throughTwo 79 = .ok (.ireturn, 1) := by decide +kernel
theorem d_MO_throughTwo_80 : decode b_MO_throughTwo 80 = .ok (.aload_n 0, 1) := by decide +kernel
theorem d_MO_throughTwo_81 : decode b_MO_throughTwo 81 = .ok (.getfield 169, 3) := by decide +kernel
theorem d_MO_throughTwo_84 : decode b_MO_throughTwo 84 = .ok (.iload_n 1, 1) := by decide +kernel
theorem d_MO_throughTwo_85 : decode b_MO_throughTwo 85 = .ok (.invokestatic 52, 3) := by decide +kernel
theorem d_MO_throughTwo_88 : decode b_MO_throughTwo 88 = .ok (.ifCond .ne 10, 3) := by decide +kernel
theorem d_MO_throughTwo_91 : decode b_MO_throughTwo 91 = .ok (.aload_n 0, 1) := by decide +kernel
theorem d_MO_throughTwo_92 : decode b_MO_throughTwo 92 = .ok (.lconst 0, 1) := by decide +kernel
theorem d_MO_throughTwo_93 : decode b_MO_throughTwo 93 = .ok (.putfield 147, 3) := by decide +kernel
theorem d_MO_throughTwo_96 : decode b_MO_throughTwo 96 = .ok (.iconst 1, 1) := by decide +kernel
theorem d_MO_throughTwo_97 : decode b_MO_throughTwo 97 = .ok (.ireturn, 1) := by decide +kernel
theorem d_MO_throughTwo_98 : decode b_MO_throughTwo 98 = .ok (.aload_n 0, 1) := by decide +kernel
theorem d_MO_throughTwo_99 : decode b_MO_throughTwo 99 = .ok (.aload_n 0, 1) := by decide +kernel
theorem d_MO_throughTwo_100 : decode b_MO_throughTwo 100 = .ok (.getfield 169, 3) := by decide +kernel
theorem d_MO_throughTwo_103 : decode b_MO_throughTwo 103 = .ok (.iload_n 1, 1) := by decide +kernel
theorem d_MO_throughTwo_104 : decode b_MO_throughTwo 104 = .ok (.invokestatic 74, 3) := by decide +kernel
theorem d_MO_throughTwo_107 : decode b_MO_throughTwo 107 = .ok (.putfield 169, 3) := by decide +kernel
theorem d_MO_throughTwo_110 : decode b_MO_throughTwo 110 = .ok (.aload_n 0, 1) := by decide +kernel
theorem d_MO_throughTwo_111 : decode b_MO_throughTwo 111 = .ok (.aload_n 0, 1) := by decide +kernel
theorem d_MO_throughTwo_112 : decode b_MO_throughTwo 112 = .ok (.getfield 151, 3) := by decide +kernel
theorem d_MO_throughTwo_115 : decode b_MO_throughTwo 115 = .ok (.putfield 147, 3) := by decide +kernel
theorem d_MO_throughTwo_118 : decode b_MO_throughTwo 118 = .ok (.aload_n 0, 1) := by decide +kernel
theorem d_MO_throughTwo_119 : decode b_MO_throughTwo 119 = .ok (.iconst 1, 1) := by decide +kernel
theorem d_MO_throughTwo_120 : decode b_MO_throughTwo 120 = .ok (.putfield 144, 3) := by decide +kernel
theorem d_MO_throughTwo_123 : decode b_MO_throughTwo 123 = .ok (.iconst 0, 1) := by decide +kernel
theorem d_MO_throughTwo_124 : decode b_MO_throughTwo 124 = .ok (.ireturn, 1) := by decide +kernel
theorem d_MO_verify_0 : decode b_MO_verify 0 = .ok (.iload_n 3, 1) := by decide +kernel
theorem d_MO_verify_1 : decode b_MO_verify 1 = .ok (.invokestatic 41, 3) := by decide +kernel
theorem d_MO_verify_4 : decode b_MO_verify 4 = .ok (.ifCond .lt 22, 3) := by decide +kernel
theorem d_MO_verify_7 : decode b_MO_verify 7 = .ok (.aload_n 0, 1) := by decide +kernel
theorem d_MO_verify_8 : decode b_MO_verify 8 = .ok (.getfield 138, 3) := by decide +kernel
theorem d_MO_verify_11 : decode b_MO_verify 11 = .ok (.ifCond .eq 15, 3) := by decide +kernel
theorem d_MO_verify_14 : decode b_MO_verify 14 = .ok (.aload_n 0, 1) := by decide +kernel
theorem d_MO_verify_15 : decode b_MO_verify 15 = .ok (.getfield 32, 3) := by decide +kernel
theorem d_MO_verify_18 : decode b_MO_verify 18 = .ok (.iconst 0, 1) := by decide +kernel
theorem d_MO_verify_19 : decode b_MO_verify 19 = .ok (.laload, 1) := by decide +kernel
theorem d_MO_verify_20 : decode b_MO_verify 20 = .ok (.invokestatic 157, 3) := by decide +kernel
theorem d_MO_verify_23 : decode b_MO_verify 23 = .ok (.ifCond .ne 5, 3) := by decide +kernel
theorem d_MO_verify_26 : decode b_MO_verify 26 = .ok (.iconst 0, 1) := by decide +kernel
theorem d_MO_verify_27 : decode b_MO_verify 27 = .ok (.ireturn, 1) := by decide +kernel
theorem d_MO_verify_28 : decode b_MO_verify 28 = .ok (.aload_n 0, 1) := by decide +kernel
theorem d_MO_verify_29 : decode b_MO_verify 29 = .ok (.getfield 32, 3) := by decide +kernel
theorem d_MO_verify_32 : decode b_MO_verify 32 = .ok (.iconst 0, 1) := by decide +kernel
theorem d_MO_verify_33 : decode b_MO_verify 33 = .ok (.laload, 1) := by decide +kernel
theorem d_MO_verify_34 : decode b_MO_verify 34 = .ok (.l2i, 1) := by decide +kernel
theorem d_MO_verify_35 : decode b_MO_verify 35 = .ok (.istore 5, 2) := by decide +kernel
theorem d_MO_verify_37 : decode b_MO_verify 37 = .ok (.aload_n 0, 1) := by decide +kernel
theorem d_MO_verify_38 : decode b_MO_verify 38 = .ok (.iconst 1, 1) := by decide +kernel
theorem d_MO_verify_39 : decode b_MO_verify 39 = .ok (.iload 5, 2) := by decide +kernel
theorem d_MO_verify_41 : decode b_MO_verify 41 = .ok (.invokevirtual 172, 3) := by decide +kernel
theorem d_MO_verify_44 : decode b_MO_verify 44 = .ok (.ifCond .eq 17, 3) := by decide +kernel
theorem d_MO_verify_47 : decode b_MO_verify 47 = .ok (.aload_n 0, 1) := by decide +kernel
theorem d_MO_verify_48 : decode b_MO_verify 48 = .ok (.iconst 1, 1) := by decide +kernel
theorem d_MO_verify_49 : decode b_MO_verify 49 = .ok (.iconst 1, 1) := by decide +kernel
theorem d_MO_verify_50 : decode b_MO_verify 50 = .ok (.iload 5, 2) := by decide +kernel
theorem d_MO_verify_52 : decode b_MO_verify 52 = .ok (.iadd, 1) := by decide +kernel
theorem d_MO_verify_53 : decode b_MO_verify 53 = .ok (.invokevirtual 165, 3) := by decide +kernel
theorem d_MO_verify_56 : decode b_MO_verify 56 = .ok (.lload_n 1, 1) := by decide +kernel
theorem d_MO_verify_57 : decode b_MO_verify 57 = .ok (.lcmp, 1) := by decide +kernel
theorem d_MO_verify_58 : decode b_MO_verify 58 = .ok (.ifCond .eq 5, 3) := by decide +kernel
theorem d_MO_verify_61 : decode b_MO_verify 61 = .ok (.iconst 0, 1) := by decide +kernel
theorem d_MO_verify_62 : decode b_MO_verify 62 = .ok (.ireturn, 1) := by decide +kernel
theorem d_MO_verify_63 : decode b_MO_verify 63 = .ok (.aload_n 0, 1) := by decide +kernel
theorem d_MO_verify_64 : decode b_MO_verify 64 = .ok (.iconst 1, 1) := by decide +kernel
theorem d_MO_verify_65 : decode b_MO_verify 65 = .ok (.iload 5, 2) := by decide +kernel
theorem d_MO_verify_67 : decode b_MO_verify 67 = .ok (.iadd, 1) := by decide +kernel
theorem d_MO_verify_68 : decode b_MO_verify 68 = .ok (.putfield 154, 3) := by decide +kernel
theorem d_MO_verify_71 : decode b_MO_verify 71 = .ok (.aload_n 0, 1) := by decide +kernel
theorem d_MO_verify_72 : decode b_MO_verify 72 = .ok (.iload_n 3, 1) := by decide +kernel
theorem d_MO_verify_73 : decode b_MO_verify 73 = .ok (.putfield 169, 3) := by decide +kernel
theorem d_MO_verify_76 : decode b_MO_verify 76 = .ok (.iconst 0, 1) := by decide +kernel
theorem d_MO_verify_77 : decode b_MO_verify 77 = .ok (.istore 6, 2) := by decide +kernel
theorem d_MO_verify_79 : decode b_MO_verify 79 = .ok (.iconst 0, 1) := by decide +kernel
theorem d_MO_verify_80 : decode b_MO_verify 80 = .ok (.istore 7, 2) := by decide +kernel
theorem d_MO_verify_82 : decode b_MO_verify 82 = .ok (.iload 7, 2) := by decide +kernel
theorem d_MO_verify_84 : decode b_MO_verify 84 = .ok (.bipush 64, 2) := by decide +kernel
theorem d_MO_verify_86 : decode b_MO_verify 86 = .ok (.if_icmp .ge 53, 3) := by decide +kernel
theorem d_MO_verify_89 : decode b_MO_verify 89 = .ok (.iload 6, 2) := by decide +kernel
theorem d_MO_verify_91 : decode b_MO_verify 91 = .ok (.ifCond .ne 48, 3) := by decide +kernel
theorem d_MO_verify_94 : decode b_MO_verify 94 = .ok (.aload_n 0, 1) := by decide +kernel
theorem d_MO_verify_95 : decode b_MO_verify 95 = .ok (.getfield 144, 3) := by decide +kernel
theorem d_MO_verify_98 : decode b_MO_verify 98 = .ok (.ifCond .ne 14, 3) := by decide +kernel
theorem d_MO_verify_101 : decode b_MO_verify 101 = .ok (.aload_n 0, 1) := by decide +kernel
theorem d_MO_verify_102 : decode b_MO_verify 102 = .ok (.lconst 0, 1) := by decide +kernel
theorem d_MO_verify_103 : decode b_MO_verify 103 = .ok (.putfield 147, 3) := by decide +kernel
theorem d_MO_verify_106 : decode b_MO_verify 106 = .ok (.iconst 1, 1) := by decide +kernel
theorem d_MO_verify_107 : decode b_MO_verify 107 = .ok (.istore 6, 2) := by decide +kernel
theorem d_MO_verify_109 : decode b_MO_verify 109 = .ok (.goto 24, 3) := by decide +kernel
theorem d_MO_verify_112 : decode b_MO_verify 112 = .ok (.aload_n 0, 1) := by decide +kernel
theorem d_MO_verify_113 : decode b_MO_verify 113 = .ok (.getfield 144, 3) := by decide +kernel
theorem d_MO_verify_116 : decode b_MO_verify 116 = .ok (.iconst 2, 1) := by decide +kernel
theorem d_MO_verify_117 : decode b_MO_verify 117 = .ok (.if_icmp .ne 10, 3) := by decide +kernel
theorem d_MO_verify_120 : decode b_MO_verify 120 = .ok (.aload_n 0, 1) := by decide +kernel
theorem d_MO_verify_121 : decode b_MO_verify 121 = .ok (.invokevirtual 179, 3) := by decide +kernel
theorem d_MO_verify_124 : decode b_MO_verify 124 = .ok (.goto 7, 3) := by decide +kernel
theorem d_MO_verify_127 : decode b_MO_verify 127 = .ok (.aload_n 0, 1) := by decide +kernel
theorem d_MO_verify_128 : decode b_MO_verify 128 = .ok (.invokevirtual 182, 3) := by decide +kernel
theorem d_MO_verify_131 : decode b_MO_verify 131 = .ok (.istore 6, 2) := by decide +kernel
theorem d_MO_verify_133 : decode b_MO_verify 133 = .ok (.iinc 7 1, 3) := by decide +kernel
theorem d_MO_verify_136 : decode b_MO_verify 136 = .ok (.goto (-54), 3) := by decide +kernel
theorem d_MO_verify_139 : decode b_MO_verify 139 = .ok (.iload 6, 2) := by decide +kernel
theorem d_MO_verify_141 : decode b_MO_verify 141 = .ok (.iconst 1, 1) := by decide +kernel
theorem d_MO_verify_142 : decode b_MO_verify 142 = .ok (.if_icmp .ne 29, 3) := by decide +kernel
theorem d_MO_verify_145 : decode b_MO_verify 145 = .ok (.aload_n 0, 1) := by decide +kernel
theorem d_MO_verify_146 : decode b_MO_verify 146 = .ok (.getfield 154, 3) := by decide +kernel
theorem d_MO_verify_149 : decode b_MO_verify 149 = .ok (.aload_n 0, 1) := by decide +kernel
theorem d_MO_verify_150 : decode b_MO_verify 150 = .ok (.getfield 138, 3) := by decide +kernel
theorem d_MO_verify_153 : decode b_MO_verify 153 = .ok (.if_icmp .ne 18, 3) := by decide +kernel
theorem d_MO_verify_156 : decode b_MO_verify 156 = .ok (.aload_n 0, 1) := by decide +kernel
theorem d_MO_verify_157 : decode b_MO_verify 157 = .ok (.getfield 147, 3) := by decide +kernel
theorem d_MO_verify_160 : decode b_MO_verify 160 = .ok (.iload 4, 2) := by decide +kernel
theorem d_MO_verify_162 : decode b_MO_verify 162 = .ok (.i2l, 1) := by decide +kernel
theorem d_MO_verify_163 : decode b_MO_verify 163 = .ok (.lcmp, 1) := by decide +kernel
theorem d_MO_verify_164 : decode b_MO_verify 164 = .ok (.ifCond .ne 7, 3) := by decide +kernel
theorem d_MO_verify_167 : decode b_MO_verify 167 = .ok (.iconst 1, 1) := by decide +kernel
theorem d_MO_verify_168 : decode b_MO_verify 168 = .ok (.goto 4, 3) := by decide +kernel
theorem d_MO_verify_171 : decode b_MO_verify 171 = .ok (.iconst 0, 1) := by decide +kernel
theorem d_MO_verify_172 : decode b_MO_verify 172 = .ok (.ireturn, 1) := by decide +kernel
theorem d_PA_isNumber_0 : decode b_PA_isNumber 0 = .ok (.lload_n 0, 1) := by decide +kernel
theorem d_PA_isNumber_1 : decode b_PA_isNumber 1 = .ok (.lconst 1, 1) := by decide +kernel
theorem d_PA_isNumber_2 : decode b_PA_isNumber 2 = .ok (.lcmp, 1) := by decide +kernel
theorem d_PA_isNumber_3 : decode b_PA_isNumber 3 = .ok (.ifCond .eq 67, 3) := by decide +kernel
theorem d_PA_isNumber_6 : decode b_PA_isNumber 6 = .ok (.lload_n 0, 1) := by decide +kernel
theorem d_PA_isNumber_7 : decode b_PA_isNumber 7 = .ok (.ldc2_w 11, 3) := by decide +kernel
theorem d_PA_isNumber_10 : decode b_PA_isNumber 10 = .ok (.lcmp, 1) := by decide +kernel
theorem d_PA_isNumber_11 : decode b_PA_isNumber 11 = .ok (.ifCond .lt 11, 3) := by decide +kernel
theorem d_PA_isNumber_14 : decode b_PA_isNumber 14 = .ok (.lload_n 0, 1) := by decide +kernel
theorem d_PA_isNumber_15 : decode b_PA_isNumber 15 = .ok (.ldc2_w 13, 3) := by decide +kernel
theorem d_PA_isNumber_18 : decode b_PA_isNumber 18 = .ok (.lcmp, 1) := by decide +kernel
theorem d_PA_isNumber_19 : decode b_PA_isNumber 19 = .ok (.ifCond .le 51, 3) := by decide +kernel
theorem d_PA_isNumber_22 : decode b_PA_isNumber 22 = .ok (.lload_n 0, 1) := by decide +kernel
theorem d_PA_isNumber_23 : decode b_PA_isNumber 23 = .ok (.ldc2_w 15, 3) := by decide +kernel
theorem d_PA_isNumber_26 : decode b_PA_isNumber 26 = .ok (.lcmp, 1) := by decide +kernel
theorem d_PA_isNumber_27 : decode b_PA_isNumber 27 = .ok (.ifCond .lt 11, 3) := by decide +kernel
theorem d_PA_isNumber_30 : decode b_PA_isNumber 30 = .ok (.lload_n 0, 1) := by decide +kernel
theorem d_PA_isNumber_31 : decode b_PA_isNumber 31 = .ok (.ldc2_w 17, 3) := by decide +kernel
theorem d_PA_isNumber_34 : decode b_PA_isNumber 34 = .ok (.lcmp, 1) := by decide +kernel
theorem d_PA_isNumber_35 : decode b_PA_isNumber 35 = .ok (.ifCond .le 35, 3) := by decide +kernel
theorem d_PA_isNumber_38 : decode b_PA_isNumber 38 = .ok (.lload_n 0, 1) := by decide +kernel
theorem d_PA_isNumber_39 : decode b_PA_isNumber 39 = .ok (.ldc2_w 19, 3) := by decide +kernel
theorem d_PA_isNumber_42 : decode b_PA_isNumber 42 = .ok (.lcmp, 1) := by decide +kernel
theorem d_PA_isNumber_43 : decode b_PA_isNumber 43 = .ok (.ifCond .lt 11, 3) := by decide +kernel
theorem d_PA_isNumber_46 : decode b_PA_isNumber 46 = .ok (.lload_n 0, 1) := by decide +kernel
theorem d_PA_isNumber_47 : decode b_PA_isNumber 47 = .ok (.ldc2_w 21, 3) := by decide +kernel
theorem d_PA_isNumber_50 : decode b_PA_isNumber 50 = .ok (.lcmp, 1) := by decide +kernel
theorem d_PA_isNumber_51 : decode b_PA_isNumber 51 = .ok (.ifCond .le 19, 3) := by decide +kernel
theorem d_PA_isNumber_54 : decode b_PA_isNumber 54 = .ok (.lload_n 0, 1) := by decide +kernel
theorem d_PA_isNumber_55 : decode b_PA_isNumber 55 = .ok (.ldc2_w 23, 3) := by decide +kernel
theorem d_PA_isNumber_58 : decode b_PA_isNumber 58 = .ok (.lcmp, 1) := by decide +kernel
theorem d_PA_isNumber_59 : decode b_PA_isNumber 59 = .ok (.ifCond .lt 15, 3) := by decide +kernel
theorem d_PA_isNumber_62 : decode b_PA_isNumber 62 = .ok (.lload_n 0, 1) := by decide +kernel
theorem d_PA_isNumber_63 : decode b_PA_isNumber 63 = .ok (.ldc2_w 25, 3) := by decide +kernel
theorem d_PA_isNumber_66 : decode b_PA_isNumber 66 = .ok (.lcmp, 1) := by decide +kernel
theorem d_PA_isNumber_67 : decode b_PA_isNumber 67 = .ok (.ifCond .gt 7, 3) := by decide +kernel
theorem d_PA_isNumber_70 : decode b_PA_isNumber 70 = .ok (.iconst 1, 1) := by decide +kernel
theorem d_PA_isNumber_71 : decode b_PA_isNumber 71 = .ok (.goto 4, 3) := by decide +kernel
theorem d_PA_isNumber_74 : decode b_PA_isNumber 74 = .ok (.iconst 0, 1) := by decide +kernel
theorem d_PA_isNumber_75 : decode b_PA_isNumber 75 = .ok (.ireturn, 1) := by decide +kernel
theorem d_PA_length_0 : decode b_PA_length 0 = .ok (.iload_n 0, 1) := by decide +kernel
theorem d_PA_length_1 : decode b_PA_length 1 = .ok (.bipush 16, 2) := by decide +kernel
theorem d_PA_length_3 : decode b_PA_length 3 = .ok (.if_icmp .ge 5, 3) := by decide +kernel
theorem d_PA_length_6 : decode b_PA_length 6 = .ok (.iconst 0, 1) := by decide +kernel
theorem d_PA_length_7 : decode b_PA_length 7 = .ok (.ireturn, 1) := by decide +kernel
theorem d_PA_length_8 : decode b_PA_length 8 = .ok (.iload_n 0, 1) := by decide +kernel
theorem d_PA_length_9 : decode b_PA_length 9 = .ok (.sipush 256, 3) := by decide +kernel
theorem d_PA_length_12 : decode b_PA_length 12 = .ok (.if_icmp .ge 5, 3) := by decide +kernel
theorem d_PA_length_15 : decode b_PA_length 15 = .ok (.iconst 1, 1) := by decide +kernel
theorem d_PA_length_16 : decode b_PA_length 16 = .ok (.ireturn, 1) := by decide +kernel
theorem d_PA_length_17 : decode b_PA_length 17 = .ok (.iload_n 0, 1) := by decide +kernel
theorem d_PA_length_18 : decode b_PA_length 18 = .ok (.sipush 4096, 3) := by decide +kernel
theorem d_PA_length_21 : decode b_PA_length 21 = .ok (.if_icmp .ge 5, 3) := by decide +kernel
theorem d_PA_length_24 : decode b_PA_length 24 = .ok (.iconst 2, 1) := by decide +kernel
theorem d_PA_length_25 : decode b_PA_length 25 = .ok (.ireturn, 1) := by decide +kernel
theorem d_PA_length_26 : decode b_PA_length 26 = .ok (.iload_n 0, 1) := by decide +kernel
theorem d_PA_length_27 : decode b_PA_length 27 = .ok (.ldc 27, 2) := by decide +kernel
theorem d_PA_length_29 : decode b_PA_length 29 = .ok (.if_icmp .ge 7, 3) := by decide +kernel
theorem d_PA_length_32 : decode b_PA_length 32 = .ok (.iconst 3, 1) := by decide +kernel
theorem d_PA_length_33 : decode b_PA_length 33 = .ok (.goto 4, 3) := by decide +kernel
theorem d_PA_length_36 : decode b_PA_length 36 = .ok (.iconst 4, 1) := by decide +kernel
theorem d_PA_length_37 : decode b_PA_length 37 = .ok (.ireturn, 1) := by decide +kernel
theorem d_PA_nibble_0 : decode b_PA_nibble 0 = .ok (.iload_n 0, 1) := by decide +kernel
theorem d_PA_nibble_1 : decode b_PA_nibble 1 = .ok (.iconst 4, 1) := by decide +kernel
theorem d_PA_nibble_2 : decode b_PA_nibble 2 = .ok (.iload_n 0, 1) := by decide +kernel
theorem d_PA_nibble_3 : decode b_PA_nibble 3 = .ok (.invokestatic 28, 3) := by decide +kernel
theorem d_PA_nibble_6 : decode b_PA_nibble 6 = .ok (.iload_n 1, 1) := by decide +kernel
theorem d_PA_nibble_7 : decode b_PA_nibble 7 = .ok (.isub, 1) := by decide +kernel
theorem d_PA_nibble_8 : decode b_PA_nibble 8 = .ok (.iconst 1, 1) := by decide +kernel
theorem d_PA_nibble_9 : decode b_PA_nibble 9 = .ok (.isub, 1) := by decide +kernel
theorem d_PA_nibble_10 : decode b_PA_nibble 10 = .ok (.imul, 1) := by decide +kernel
theorem d_PA_nibble_11 : decode b_PA_nibble 11 = .ok (.ishr, 1) := by decide +kernel
theorem d_PA_nibble_12 : decode b_PA_nibble 12 = .ok (.bipush 15, 2) := by decide +kernel
theorem d_PA_nibble_14 : decode b_PA_nibble 14 = .ok (.iand, 1) := by decide +kernel
theorem d_PA_nibble_15 : decode b_PA_nibble 15 = .ok (.ireturn, 1) := by decide +kernel
theorem d_PA_front_0 : decode b_PA_front 0 = .ok (.iload_n 0, 1) := by decide +kernel
theorem d_PA_front_1 : decode b_PA_front 1 = .ok (.iconst 4, 1) := by decide +kernel
theorem d_PA_front_2 : decode b_PA_front 2 = .ok (.iload_n 0, 1) := by decide +kernel
theorem d_PA_front_3 : decode b_PA_front 3 = .ok (.invokestatic 28, 3) := by decide +kernel
theorem d_PA_front_6 : decode b_PA_front 6 = .ok (.iload_n 1, 1) := by decide +kernel
theorem d_PA_front_7 : decode b_PA_front 7 = .ok (.isub, 1) := by decide +kernel
theorem d_PA_front_8 : decode b_PA_front 8 = .ok (.imul, 1) := by decide +kernel
theorem d_PA_front_9 : decode b_PA_front 9 = .ok (.ishr, 1) := by decide +kernel
theorem d_PA_front_10 : decode b_PA_front 10 = .ok (.ireturn, 1) := by decide +kernel
theorem d_PA_without_0 : decode b_PA_without 0 = .ok (.iconst 4, 1) := by decide +kernel
theorem d_PA_without_1 : decode b_PA_without 1 = .ok (.iload_n 0, 1) := by decide +kernel
theorem d_PA_without_2 : decode b_PA_without 2 = .ok (.invokestatic 28, 3) := by decide +kernel
theorem d_PA_without_5 : decode b_PA_without 5 = .ok (.iload_n 1, 1) := by decide +kernel
theorem d_PA_without_6 : decode b_PA_without 6 = .ok (.isub, 1) := by decide +kernel
theorem d_PA_without_7 : decode b_PA_without 7 = .ok (.imul, 1) := by decide +kernel
theorem d_PA_without_8 : decode b_PA_without 8 = .ok (.istore_n 2, 1) := by decide +kernel
theorem d_PA_without_9 : decode b_PA_without 9 = .ok (.iconst 1, 1) := by decide +kernel
theorem d_PA_without_10 : decode b_PA_without 10 = .ok (.iload_n 2, 1) := by decide +kernel
theorem d_PA_without_11 : decode b_PA_without 11 = .ok (.ishl, 1) := by decide +kernel
theorem d_PA_without_12 : decode b_PA_without 12 = .ok (.iload_n 0, 1) := by decide +kernel
theorem d_PA_without_13 : decode b_PA_without 13 = .ok (.iconst 1, 1) := by decide +kernel
theorem d_PA_without_14 : decode b_PA_without 14 = .ok (.iload_n 2, 1) := by decide +kernel
theorem d_PA_without_15 : decode b_PA_without 15 = .ok (.ishl, 1) := by decide +kernel
theorem d_PA_without_16 : decode b_PA_without 16 = .ok (.iconst 1, 1) := by decide +kernel
theorem d_PA_without_17 : decode b_PA_without 17 = .ok (.isub, 1) := by decide +kernel
theorem d_PA_without_18 : decode b_PA_without 18 = .ok (.iand, 1) := by decide +kernel
theorem d_PA_without_19 : decode b_PA_without 19 = .ok (.ior, 1) := by decide +kernel
theorem d_PA_without_20 : decode b_PA_without 20 = .ok (.ireturn, 1) := by decide +kernel
theorem d_PA_begins_0 : decode b_PA_begins 0 = .ok (.iload_n 1, 1) := by decide +kernel
theorem d_PA_begins_1 : decode b_PA_begins 1 = .ok (.invokestatic 28, 3) := by decide +kernel
theorem d_PA_begins_4 : decode b_PA_begins 4 = .ok (.istore_n 2, 1) := by decide +kernel
theorem d_PA_begins_5 : decode b_PA_begins 5 = .ok (.iload_n 0, 1) := by decide +kernel
theorem d_PA_begins_6 : decode b_PA_begins 6 = .ok (.invokestatic 28, 3) := by decide +kernel
theorem d_PA_begins_9 : decode b_PA_begins 9 = .ok (.iload_n 2, 1) := by decide +kernel
theorem d_PA_begins_10 : decode b_PA_begins 10 = .ok (.if_icmp .lt 16, 3) := by decide +kernel
theorem d_PA_begins_13 : decode b_PA_begins 13 = .ok (.iload_n 0, 1) := by decide +kernel
theorem d_PA_begins_14 : decode b_PA_begins 14 = .ok (.iload_n 2, 1) := by decide +kernel
theorem d_PA_begins_15 : decode b_PA_begins 15 = .ok (.invokestatic 32, 3) := by decide +kernel
theorem d_PA_begins_18 : decode b_PA_begins 18 = .ok (.iload_n 1, 1) := by decide +kernel
theorem d_PA_begins_19 : decode b_PA_begins 19 = .ok (.if_icmp .ne 7, 3) := by decide +kernel
theorem d_PA_begins_22 : decode b_PA_begins 22 = .ok (.iconst 1, 1) := by decide +kernel
theorem d_PA_begins_23 : decode b_PA_begins 23 = .ok (.goto 4, 3) := by decide +kernel
theorem d_PA_begins_26 : decode b_PA_begins 26 = .ok (.iconst 0, 1) := by decide +kernel
theorem d_PA_begins_27 : decode b_PA_begins 27 = .ok (.ireturn, 1) := by decide +kernel
theorem d_PA_commonLength_0 : decode b_PA_commonLength 0 = .ok (.iload_n 0, 1) := by decide +kernel
theorem d_PA_commonLength_1 : decode b_PA_commonLength 1 = .ok (.invokestatic 28, 3) := by decide +kernel
theorem d_PA_commonLength_4 : decode b_PA_commonLength 4 = .ok (.iload_n 1, 1) := by decide +kernel
theorem d_PA_commonLength_5 : decode b_PA_commonLength 5 = .ok (.invokestatic 28, 3) := by decide +kernel
theorem d_PA_commonLength_8 : decode b_PA_commonLength 8 = .ok (.invokestatic 36, 3) := by decide +kernel
theorem d_PA_commonLength_11 : decode b_PA_commonLength 11 = .ok (.istore_n 2, 1) := by decide +kernel
theorem d_PA_commonLength_12 : decode b_PA_commonLength 12 = .ok (.iconst 0, 1) := by decide +kernel
theorem d_PA_commonLength_13 : decode b_PA_commonLength 13 = .ok (.istore_n 3, 1) := by decide +kernel
theorem d_PA_commonLength_14 : decode b_PA_commonLength 14 = .ok (.iload_n 3, 1) := by decide +kernel
theorem d_PA_commonLength_15 : decode b_PA_commonLength 15 = .ok (.iload_n 2, 1) := by decide +kernel
theorem d_PA_commonLength_16 : decode b_PA_commonLength 16 = .ok (.if_icmp .ge 22, 3) := by decide +kernel
theorem d_PA_commonLength_19 : decode b_PA_commonLength 19 = .ok (.iload_n 0, 1) := by decide +kernel
theorem d_PA_commonLength_20 : decode b_PA_commonLength 20 = .ok (.iload_n 3, 1) := by decide +kernel
theorem d_PA_commonLength_21 : decode b_PA_commonLength 21 = .ok (.invokestatic 41, 3) := by decide +kernel
theorem d_PA_commonLength_24 : decode b_PA_commonLength 24 = .ok (.iload_n 1, 1) := by decide +kernel
theorem d_PA_commonLength_25 : decode b_PA_commonLength 25 = .ok (.iload_n 3, 1) := by decide +kernel
theorem d_PA_commonLength_26 : decode b_PA_commonLength 26 = .ok (.invokestatic 41, 3) := by decide +kernel
theorem d_PA_commonLength_29 : decode b_PA_commonLength 29 = .ok (.if_icmp .ne 9, 3) := by decide +kernel
theorem d_PA_commonLength_32 : decode b_PA_commonLength 32 = .ok (.iinc 3 1, 3) := by decide +kernel
theorem d_PA_commonLength_35 : decode b_PA_commonLength 35 = .ok (.goto (-21), 3) := by decide +kernel
theorem d_PA_commonLength_38 : decode b_PA_commonLength 38 = .ok (.iload_n 3, 1) := by decide +kernel
theorem d_PA_commonLength_39 : decode b_PA_commonLength 39 = .ok (.ireturn, 1) := by decide +kernel
theorem d_PA_order_0 : decode b_PA_order 0 = .ok (.iload_n 0, 1) := by decide +kernel
theorem d_PA_order_1 : decode b_PA_order 1 = .ok (.invokestatic 28, 3) := by decide +kernel
theorem d_PA_order_4 : decode b_PA_order 4 = .ok (.istore_n 1, 1) := by decide +kernel
theorem d_PA_order_5 : decode b_PA_order 5 = .ok (.iload_n 0, 1) := by decide +kernel
theorem d_PA_order_6 : decode b_PA_order 6 = .ok (.iconst 4, 1) := by decide +kernel
theorem d_PA_order_7 : decode b_PA_order 7 = .ok (.iconst 4, 1) := by decide +kernel
theorem d_PA_order_8 : decode b_PA_order 8 = .ok (.iload_n 1, 1) := by decide +kernel
theorem d_PA_order_9 : decode b_PA_order 9 = .ok (.isub, 1) := by decide +kernel
theorem d_PA_order_10 : decode b_PA_order 10 = .ok (.imul, 1) := by decide +kernel
theorem d_PA_order_11 : decode b_PA_order 11 = .ok (.ishl, 1) := by decide +kernel
theorem d_PA_order_12 : decode b_PA_order 12 = .ok (.iconst 3, 1) := by decide +kernel
theorem d_PA_order_13 : decode b_PA_order 13 = .ok (.ishl, 1) := by decide +kernel
theorem d_PA_order_14 : decode b_PA_order 14 = .ok (.iload_n 1, 1) := by decide +kernel
theorem d_PA_order_15 : decode b_PA_order 15 = .ok (.ior, 1) := by decide +kernel
theorem d_PA_order_16 : decode b_PA_order 16 = .ok (.ireturn, 1) := by decide +kernel
theorem d_PM_rowOf_0 : decode b_PM_rowOf 0 = .ok (.iconst 0, 1) := by decide +kernel
theorem d_PM_rowOf_1 : decode b_PM_rowOf 1 = .ok (.istore_n 2, 1) := by decide +kernel
theorem d_PM_rowOf_2 : decode b_PM_rowOf 2 = .ok (.iload_n 2, 1) := by decide +kernel
theorem d_PM_rowOf_3 : decode b_PM_rowOf 3 = .ok (.aload_n 0, 1) := by decide +kernel
theorem d_PM_rowOf_4 : decode b_PM_rowOf 4 = .ok (.getfield 18, 3) := by decide +kernel
theorem d_PM_rowOf_7 : decode b_PM_rowOf 7 = .ok (.if_icmp .ge 21, 3) := by decide +kernel
theorem d_PM_rowOf_10 : decode b_PM_rowOf 10 = .ok (.aload_n 0, 1) := by decide +kernel
theorem d_PM_rowOf_11 : decode b_PM_rowOf 11 = .ok (.getfield 9, 3) := by decide +kernel
theorem d_PM_rowOf_14 : decode b_PM_rowOf 14 = .ok (.iload_n 2, 1) := by decide +kernel
theorem d_PM_rowOf_15 : decode b_PM_rowOf 15 = .ok (.iaload, 1) := by decide +kernel
theorem d_PM_rowOf_16 : decode b_PM_rowOf 16 = .ok (.iload_n 1, 1) := by decide +kernel
theorem d_PM_rowOf_17 : decode b_PM_rowOf 17 = .ok (.if_icmp .ne 5, 3) := by decide +kernel
theorem d_PM_rowOf_20 : decode b_PM_rowOf 20 = .ok (.iload_n 2, 1) := by decide +kernel
theorem d_PM_rowOf_21 : decode b_PM_rowOf 21 = .ok (.ireturn, 1) := by decide +kernel
theorem d_PM_rowOf_22 : decode b_PM_rowOf 22 = .ok (.iinc 2 1, 3) := by decide +kernel
theorem d_PM_rowOf_25 : decode b_PM_rowOf 25 = .ok (.goto (-23), 3) := by decide +kernel
theorem d_PM_rowOf_28 : decode b_PM_rowOf 28 = .ok (.iconst (-1), 1) := by decide +kernel
theorem d_PM_rowOf_29 : decode b_PM_rowOf 29 = .ok (.ireturn, 1) := by decide +kernel
theorem d_PM_valueOf_0 : decode b_PM_valueOf 0 = .ok (.aload_n 0, 1) := by decide +kernel
theorem d_PM_valueOf_1 : decode b_PM_valueOf 1 = .ok (.iload_n 1, 1) := by decide +kernel
theorem d_PM_valueOf_2 : decode b_PM_valueOf 2 = .ok (.invokevirtual 22, 3) := by decide +kernel
theorem d_PM_valueOf_5 : decode b_PM_valueOf 5 = .ok (.istore_n 2, 1) := by decide +kernel
theorem d_PM_valueOf_6 : decode b_PM_valueOf 6 = .ok (.iload_n 2, 1) := by decide +kernel
theorem d_PM_valueOf_7 : decode b_PM_valueOf 7 = .ok (.iconst (-1), 1) := by decide +kernel
theorem d_PM_valueOf_8 : decode b_PM_valueOf 8 = .ok (.if_icmp .ne 7, 3) := by decide +kernel
theorem d_PM_valueOf_11 : decode b_PM_valueOf 11 = .ok (.iconst 0, 1) := by decide +kernel
theorem d_PM_valueOf_12 : decode b_PM_valueOf 12 = .ok (.goto 9, 3) := by decide +kernel
theorem d_PM_valueOf_15 : decode b_PM_valueOf 15 = .ok (.aload_n 0, 1) := by decide +kernel
theorem d_PM_valueOf_16 : decode b_PM_valueOf 16 = .ok (.getfield 15, 3) := by decide +kernel
theorem d_PM_valueOf_19 : decode b_PM_valueOf 19 = .ok (.iload_n 2, 1) := by decide +kernel
theorem d_PM_valueOf_20 : decode b_PM_valueOf 20 = .ok (.iaload, 1) := by decide +kernel
theorem d_PM_valueOf_21 : decode b_PM_valueOf 21 = .ok (.ireturn, 1) := by decide +kernel
theorem d_PM_insert_0 : decode b_PM_insert 0 = .ok (.aload_n 0, 1) := by decide +kernel
theorem d_PM_insert_1 : decode b_PM_insert 1 = .ok (.getfield 18, 3) := by decide +kernel
theorem d_PM_insert_4 : decode b_PM_insert 4 = .ok (.bipush 16, 2) := by decide +kernel
theorem d_PM_insert_6 : decode b_PM_insert 6 = .ok (.if_icmp .ne 4, 3) := by decide +kernel
theorem d_PM_insert_9 : decode b_PM_insert 9 = .ok (.return_, 1) := by decide +kernel
theorem d_PM_insert_10 : decode b_PM_insert 10 = .ok (.aload_n 0, 1) := by decide +kernel
theorem d_PM_insert_11 : decode b_PM_insert 11 = .ok (.getfield 18, 3) := by decide +kernel
theorem d_PM_insert_14 : decode b_PM_insert 14 = .ok (.istore_n 3, 1) := by decide +kernel
theorem d_PM_insert_15 : decode b_PM_insert 15 = .ok (.iload_n 3, 1) := by decide +kernel
theorem d_PM_insert_16 : decode b_PM_insert 16 = .ok (.ifCond .le 55, 3) := by decide +kernel
theorem d_PM_insert_19 : decode b_PM_insert 19 = .ok (.aload_n 0, 1) := by decide +kernel
theorem d_PM_insert_20 : decode b_PM_insert 20 = .ok (.getfield 9, 3) := by decide +kernel
theorem d_PM_insert_23 : decode b_PM_insert 23 = .ok (.iload_n 3, 1) := by decide +kernel
theorem d_PM_insert_24 : decode b_PM_insert 24 = .ok (.iconst 1, 1) := by decide +kernel
theorem d_PM_insert_25 : decode b_PM_insert 25 = .ok (.isub, 1) := by decide +kernel
theorem d_PM_insert_26 : decode b_PM_insert 26 = .ok (.iaload, 1) := by decide +kernel
theorem d_PM_insert_27 : decode b_PM_insert 27 = .ok (.invokestatic 26, 3) := by decide +kernel
theorem d_PM_insert_30 : decode b_PM_insert 30 = .ok (.iload_n 1, 1) := by decide +kernel
theorem d_PM_insert_31 : decode b_PM_insert 31 = .ok (.invokestatic 26, 3) := by decide +kernel
theorem d_PM_insert_34 : decode b_PM_insert 34 = .ok (.if_icmp .le 37, 3) := by decide +kernel
theorem d_PM_insert_37 : decode b_PM_insert 37 = .ok (.aload_n 0, 1) := by decide +kernel
theorem d_PM_insert_38 : decode b_PM_insert 38 = .ok (.getfield 9, 3) := by decide +kernel
theorem d_PM_insert_41 : decode b_PM_insert 41 = .ok (.iload_n 3, 1) := by decide +kernel
theorem d_PM_insert_42 : decode b_PM_insert 42 = .ok (.aload_n 0, 1) := by decide +kernel
theorem d_PM_insert_43 : decode b_PM_insert 43 = .ok (.getfield 9, 3) := by decide +kernel
theorem d_PM_insert_46 : decode b_PM_insert 46 = .ok (.iload_n 3, 1) := by decide +kernel
theorem d_PM_insert_47 : decode b_PM_insert 47 = .ok (.iconst 1, 1) := by decide +kernel
theorem d_PM_insert_48 : decode b_PM_insert 48 = .ok (.isub, 1) := by decide +kernel
theorem d_PM_insert_49 : decode b_PM_insert 49 = .ok (.iaload, 1) := by decide +kernel
theorem d_PM_insert_50 : decode b_PM_insert 50 = .ok (.iastore, 1) := by decide +kernel
theorem d_PM_insert_51 : decode b_PM_insert 51 = .ok (.aload_n 0, 1) := by decide +kernel
theorem d_PM_insert_52 : decode b_PM_insert 52 = .ok (.getfield 15, 3) := by decide +kernel
theorem d_PM_insert_55 : decode b_PM_insert 55 = .ok (.iload_n 3, 1) := by decide +kernel
theorem d_PM_insert_56 : decode b_PM_insert 56 = .ok (.aload_n 0, 1) := by decide +kernel
theorem d_PM_insert_57 : decode b_PM_insert 57 = .ok (.getfield 15, 3) := by decide +kernel
theorem d_PM_insert_60 : decode b_PM_insert 60 = .ok (.iload_n 3, 1) := by decide +kernel
theorem d_PM_insert_61 : decode b_PM_insert 61 = .ok (.iconst 1, 1) := by decide +kernel
theorem d_PM_insert_62 : decode b_PM_insert 62 = .ok (.isub, 1) := by decide +kernel
theorem d_PM_insert_63 : decode b_PM_insert 63 = .ok (.iaload, 1) := by decide +kernel
theorem d_PM_insert_64 : decode b_PM_insert 64 = .ok (.iastore, 1) := by decide +kernel
theorem d_PM_insert_65 : decode b_PM_insert 65 = .ok (.iinc 3 (-1), 3) := by decide +kernel
theorem d_PM_insert_68 : decode b_PM_insert 68 = .ok (.goto (-53), 3) := by decide +kernel
theorem d_PM_insert_71 : decode b_PM_insert 71 = .ok (.aload_n 0, 1) := by decide +kernel
theorem d_PM_insert_72 : decode b_PM_insert 72 = .ok (.getfield 9, 3) := by decide +kernel
theorem d_PM_insert_75 : decode b_PM_insert 75 = .ok (.iload_n 3, 1) := by decide +kernel
theorem d_PM_insert_76 : decode b_PM_insert 76 = .ok (.iload_n 1, 1) := by decide +kernel
theorem d_PM_insert_77 : decode b_PM_insert 77 = .ok (.iastore, 1) := by decide +kernel
theorem d_PM_insert_78 : decode b_PM_insert 78 = .ok (.aload_n 0, 1) := by decide +kernel
theorem d_PM_insert_79 : decode b_PM_insert 79 = .ok (.getfield 15, 3) := by decide +kernel
theorem d_PM_insert_82 : decode b_PM_insert 82 = .ok (.iload_n 3, 1) := by decide +kernel
theorem d_PM_insert_83 : decode b_PM_insert 83 = .ok (.iload_n 2, 1) := by decide +kernel
theorem d_PM_insert_84 : decode b_PM_insert 84 = .ok (.iastore, 1) := by decide +kernel
theorem d_PM_insert_85 : decode b_PM_insert 85 = .ok (.aload_n 0, 1) := by decide +kernel
theorem d_PM_insert_86 : decode b_PM_insert 86 = .ok (.dup, 1) := by decide +kernel
theorem d_PM_insert_87 : decode b_PM_insert 87 = .ok (.getfield 18, 3) := by decide +kernel
theorem d_PM_insert_90 : decode b_PM_insert 90 = .ok (.iconst 1, 1) := by decide +kernel
theorem d_PM_insert_91 : decode b_PM_insert 91 = .ok (.iadd, 1) := by decide +kernel
theorem d_PM_insert_92 : decode b_PM_insert 92 = .ok (.putfield 18, 3) := by decide +kernel
theorem d_PM_insert_95 : decode b_PM_insert 95 = .ok (.return_, 1) := by decide +kernel
theorem d_PM_remove_0 : decode b_PM_remove 0 = .ok (.aload_n 0, 1) := by decide +kernel
theorem d_PM_remove_1 : decode b_PM_remove 1 = .ok (.dup, 1) := by decide +kernel
theorem d_PM_remove_2 : decode b_PM_remove 2 = .ok (.getfield 18, 3) := by decide +kernel
theorem d_PM_remove_5 : decode b_PM_remove 5 = .ok (.iconst 1, 1) := by decide +kernel
theorem d_PM_remove_6 : decode b_PM_remove 6 = .ok (.isub, 1) := by decide +kernel
theorem d_PM_remove_7 : decode b_PM_remove 7 = .ok (.putfield 18, 3) := by decide +kernel
theorem d_PM_remove_10 : decode b_PM_remove 10 = .ok (.iload_n 1, 1) := by decide +kernel
theorem d_PM_remove_11 : decode b_PM_remove 11 = .ok (.istore_n 2, 1) := by decide +kernel
theorem d_PM_remove_12 : decode b_PM_remove 12 = .ok (.iload_n 2, 1) := by decide +kernel
theorem d_PM_remove_13 : decode b_PM_remove 13 = .ok (.aload_n 0, 1) := by decide +kernel
theorem d_PM_remove_14 : decode b_PM_remove 14 = .ok (.getfield 18, 3) := by decide +kernel
theorem d_PM_remove_17 : decode b_PM_remove 17 = .ok (.if_icmp .ge 37, 3) := by decide +kernel
theorem d_PM_remove_20 : decode b_PM_remove 20 = .ok (.aload_n 0, 1) := by decide +kernel
theorem d_PM_remove_21 : decode b_PM_remove 21 = .ok (.getfield 9, 3) := by decide +kernel
theorem d_PM_remove_24 : decode b_PM_remove 24 = .ok (.iload_n 2, 1) := by decide +kernel
theorem d_PM_remove_25 : decode b_PM_remove 25 = .ok (.aload_n 0, 1) := by decide +kernel
theorem d_PM_remove_26 : decode b_PM_remove 26 = .ok (.getfield 9, 3) := by decide +kernel
theorem d_PM_remove_29 : decode b_PM_remove 29 = .ok (.iload_n 2, 1) := by decide +kernel
theorem d_PM_remove_30 : decode b_PM_remove 30 = .ok (.iconst 1, 1) := by decide +kernel
theorem d_PM_remove_31 : decode b_PM_remove 31 = .ok (.iadd, 1) := by decide +kernel
theorem d_PM_remove_32 : decode b_PM_remove 32 = .ok (.iaload, 1) := by decide +kernel
theorem d_PM_remove_33 : decode b_PM_remove 33 = .ok (.iastore, 1) := by decide +kernel
theorem d_PM_remove_34 : decode b_PM_remove 34 = .ok (.aload_n 0, 1) := by decide +kernel
theorem d_PM_remove_35 : decode b_PM_remove 35 = .ok (.getfield 15, 3) := by decide +kernel
theorem d_PM_remove_38 : decode b_PM_remove 38 = .ok (.iload_n 2, 1) := by decide +kernel
theorem d_PM_remove_39 : decode b_PM_remove 39 = .ok (.aload_n 0, 1) := by decide +kernel
theorem d_PM_remove_40 : decode b_PM_remove 40 = .ok (.getfield 15, 3) := by decide +kernel
theorem d_PM_remove_43 : decode b_PM_remove 43 = .ok (.iload_n 2, 1) := by decide +kernel
theorem d_PM_remove_44 : decode b_PM_remove 44 = .ok (.iconst 1, 1) := by decide +kernel
theorem d_PM_remove_45 : decode b_PM_remove 45 = .ok (.iadd, 1) := by decide +kernel
theorem d_PM_remove_46 : decode b_PM_remove 46 = .ok (.iaload, 1) := by decide +kernel
theorem d_PM_remove_47 : decode b_PM_remove 47 = .ok (.iastore, 1) := by decide +kernel
theorem d_PM_remove_48 : decode b_PM_remove 48 = .ok (.iinc 2 1, 3) := by decide +kernel
theorem d_PM_remove_51 : decode b_PM_remove 51 = .ok (.goto (-39), 3) := by decide +kernel
theorem d_PM_remove_54 : decode b_PM_remove 54 = .ok (.return_, 1) := by decide +kernel
theorem d_PM_copy_0 : decode b_PM_copy 0 = .ok (.aload_n 0, 1) := by decide +kernel
theorem d_PM_copy_1 : decode b_PM_copy 1 = .ok (.aload_n 1, 1) := by decide +kernel
theorem d_PM_copy_2 : decode b_PM_copy 2 = .ok (.getfield 18, 3) := by decide +kernel
theorem d_PM_copy_5 : decode b_PM_copy 5 = .ok (.putfield 18, 3) := by decide +kernel
theorem d_PM_copy_8 : decode b_PM_copy 8 = .ok (.aload_n 1, 1) := by decide +kernel
theorem d_PM_copy_9 : decode b_PM_copy 9 = .ok (.getfield 9, 3) := by decide +kernel
theorem d_PM_copy_12 : decode b_PM_copy 12 = .ok (.iconst 0, 1) := by decide +kernel
theorem d_PM_copy_13 : decode b_PM_copy 13 = .ok (.aload_n 0, 1) := by decide +kernel
theorem d_PM_copy_14 : decode b_PM_copy 14 = .ok (.getfield 9, 3) := by decide +kernel
theorem d_PM_copy_17 : decode b_PM_copy 17 = .ok (.iconst 0, 1) := by decide +kernel
theorem d_PM_copy_18 : decode b_PM_copy 18 = .ok (.aload_n 0, 1) := by decide +kernel
theorem d_PM_copy_19 : decode b_PM_copy 19 = .ok (.getfield 18, 3) := by decide +kernel
theorem d_PM_copy_22 : decode b_PM_copy 22 = .ok (.invokestatic 31, 3) := by decide +kernel
theorem d_PM_copy_25 : decode b_PM_copy 25 = .ok (.aload_n 1, 1) := by decide +kernel
theorem d_PM_copy_26 : decode b_PM_copy 26 = .ok (.getfield 15, 3) := by decide +kernel
theorem d_PM_copy_29 : decode b_PM_copy 29 = .ok (.iconst 0, 1) := by decide +kernel
theorem d_PM_copy_30 : decode b_PM_copy 30 = .ok (.aload_n 0, 1) := by decide +kernel
theorem d_PM_copy_31 : decode b_PM_copy 31 = .ok (.getfield 15, 3) := by decide +kernel
theorem d_PM_copy_34 : decode b_PM_copy 34 = .ok (.iconst 0, 1) := by decide +kernel
theorem d_PM_copy_35 : decode b_PM_copy 35 = .ok (.aload_n 0, 1) := by decide +kernel
theorem d_PM_copy_36 : decode b_PM_copy 36 = .ok (.getfield 18, 3) := by decide +kernel
theorem d_PM_copy_39 : decode b_PM_copy 39 = .ok (.invokestatic 31, 3) := by decide +kernel
theorem d_PM_copy_42 : decode b_PM_copy 42 = .ok (.return_, 1) := by decide +kernel
theorem d_PM_endsAt_0 : decode b_PM_endsAt 0 = .ok (.aload_n 0, 1) := by decide +kernel
theorem d_PM_endsAt_1 : decode b_PM_endsAt 1 = .ok (.getfield 9, 3) := by decide +kernel
theorem d_PM_endsAt_4 : decode b_PM_endsAt 4 = .ok (.iload_n 1, 1) := by decide +kernel
theorem d_PM_endsAt_5 : decode b_PM_endsAt 5 = .ok (.iaload, 1) := by decide +kernel
theorem d_PM_endsAt_6 : decode b_PM_endsAt 6 = .ok (.invokestatic 37, 3) := by decide +kernel
theorem d_PM_endsAt_9 : decode b_PM_endsAt 9 = .ok (.iload_n 2, 1) := by decide +kernel
theorem d_PM_endsAt_10 : decode b_PM_endsAt 10 = .ok (.if_icmp .ne 7, 3) := by decide +kernel
theorem d_PM_endsAt_13 : decode b_PM_endsAt 13 = .ok (.iconst 1, 1) := by decide +kernel
theorem d_PM_endsAt_14 : decode b_PM_endsAt 14 = .ok (.goto 4, 3) := by decide +kernel
theorem d_PM_endsAt_17 : decode b_PM_endsAt 17 = .ok (.iconst 0, 1) := by decide +kernel
theorem d_PM_endsAt_18 : decode b_PM_endsAt 18 = .ok (.ireturn, 1) := by decide +kernel
theorem d_PM_endOfChild_0 : decode b_PM_endOfChild 0 = .ok (.iload_n 1, 1) := by decide +kernel
theorem d_PM_endOfChild_1 : decode b_PM_endOfChild 1 = .ok (.istore 5, 2) := by decide +kernel
theorem d_PM_endOfChild_3 : decode b_PM_endOfChild 3 = .ok (.iload 5, 2) := by decide +kernel
theorem d_PM_endOfChild_5 : decode b_PM_endOfChild 5 = .ok (.iload_n 2, 1) := by decide +kernel
theorem d_PM_endOfChild_6 : decode b_PM_endOfChild 6 = .ok (.if_icmp .ge 25, 3) := by decide +kernel
theorem d_PM_endOfChild_9 : decode b_PM_endOfChild 9 = .ok (.aload_n 0, 1) := by decide +kernel
theorem d_PM_endOfChild_10 : decode b_PM_endOfChild 10 = .ok (.getfield 9, 3) := by decide +kernel
theorem d_PM_endOfChild_13 : decode b_PM_endOfChild 13 = .ok (.iload 5, 2) := by decide +kernel
theorem d_PM_endOfChild_15 : decode b_PM_endOfChild 15 = .ok (.iaload, 1) := by decide +kernel
theorem d_PM_endOfChild_16 : decode b_PM_endOfChild 16 = .ok (.iload_n 3, 1) := by decide +kernel
theorem d_PM_endOfChild_17 : decode b_PM_endOfChild 17 = .ok (.invokestatic 40, 3) := by decide +kernel
theorem d_PM_endOfChild_20 : decode b_PM_endOfChild 20 = .ok (.iload 4, 2) := by decide +kernel
theorem d_PM_endOfChild_22 : decode b_PM_endOfChild 22 = .ok (.if_icmp .ne 9, 3) := by decide +kernel
theorem d_PM_endOfChild_25 : decode b_PM_endOfChild 25 = .ok (.iinc 5 1, 3) := by decide +kernel
theorem d_PM_endOfChild_28 : decode b_PM_endOfChild 28 = .ok (.goto (-25), 3) := by decide +kernel
theorem d_PM_endOfChild_31 : decode b_PM_endOfChild 31 = .ok (.iload 5, 2) := by decide +kernel
theorem d_PM_endOfChild_33 : decode b_PM_endOfChild 33 = .ok (.ireturn, 1) := by decide +kernel
theorem d_PF_has_0 : decode b_PF_has 0 = .ok (.iload_n 1, 1) := by decide +kernel
theorem d_PF_has_1 : decode b_PF_has 1 = .ok (.ifCond .lt 15, 3) := by decide +kernel
theorem d_PF_has_4 : decode b_PF_has 4 = .ok (.iload_n 1, 1) := by decide +kernel
theorem d_PF_has_5 : decode b_PF_has 5 = .ok (.aload_n 0, 1) := by decide +kernel
theorem d_PF_has_6 : decode b_PF_has 6 = .ok (.getfield 15, 3) := by decide +kernel
theorem d_PF_has_9 : decode b_PF_has 9 = .ok (.if_icmp .ge 7, 3) := by decide +kernel
theorem d_PF_has_12 : decode b_PF_has 12 = .ok (.iconst 1, 1) := by decide +kernel
theorem d_PF_has_13 : decode b_PF_has 13 = .ok (.goto 4, 3) := by decide +kernel
theorem d_PF_has_16 : decode b_PF_has 16 = .ok (.iconst 0, 1) := by decide +kernel
theorem d_PF_has_17 : decode b_PF_has 17 = .ok (.ireturn, 1) := by decide +kernel
theorem d_PF_shows_0 : decode b_PF_shows 0 = .ok (.aload_n 0, 1) := by decide +kernel
theorem d_PF_shows_1 : decode b_PF_shows 1 = .ok (.iconst 0, 1) := by decide +kernel
theorem d_PF_shows_2 : decode b_PF_shows 2 = .ok (.putfield 19, 3) := by decide +kernel
theorem d_PF_shows_5 : decode b_PF_shows 5 = .ok (.aload_n 0, 1) := by decide +kernel
theorem d_PF_shows_6 : decode b_PF_shows 6 = .ok (.iload_n 3, 1) := by decide +kernel
theorem d_PF_shows_7 : decode b_PF_shows 7 = .ok (.putfield 27, 3) := by decide +kernel
theorem d_PF_shows_10 : decode b_PF_shows 10 = .ok (.aload_n 0, 1) := by decide +kernel
theorem d_PF_shows_11 : decode b_PF_shows 11 = .ok (.lload_n 1, 1) := by decide +kernel
theorem d_PF_shows_12 : decode b_PF_shows 12 = .ok (.invokevirtual 40, 3) := by decide +kernel
theorem d_PF_shows_15 : decode b_PF_shows 15 = .ok (.iconst 0, 1) := by decide +kernel
theorem d_PF_shows_16 : decode b_PF_shows 16 = .ok (.istore 6, 2) := by decide +kernel
theorem d_PF_shows_18 : decode b_PF_shows 18 = .ok (.iload 6, 2) := by decide +kernel
theorem d_PF_shows_20 : decode b_PF_shows 20 = .ok (.iconst 5, 1) := by decide +kernel
theorem d_PF_shows_21 : decode b_PF_shows 21 = .ok (.if_icmp .ge 79, 3) := by decide +kernel
theorem d_PF_shows_24 : decode b_PF_shows 24 = .ok (.aload_n 0, 1) := by decide +kernel
theorem d_PF_shows_25 : decode b_PF_shows 25 = .ok (.getfield 19, 3) := by decide +kernel
theorem d_PF_shows_28 : decode b_PF_shows 28 = .ok (.ifCond .ne 72, 3) := by decide +kernel
theorem d_PF_shows_31 : decode b_PF_shows 31 = .ok (.aload_n 0, 1) := by decide +kernel
theorem d_PF_shows_32 : decode b_PF_shows 32 = .ok (.getfield 33, 3) := by decide +kernel
theorem d_PF_shows_35 : decode b_PF_shows 35 = .ok (.ifCond .ne 11, 3) := by decide +kernel
theorem d_PF_shows_38 : decode b_PF_shows 38 = .ok (.aload_n 0, 1) := by decide +kernel
theorem d_PF_shows_39 : decode b_PF_shows 39 = .ok (.lconst 0, 1) := by decide +kernel
theorem d_PF_shows_40 : decode b_PF_shows 40 = .ok (.invokevirtual 44, 3) := by decide +kernel
theorem d_PF_shows_43 : decode b_PF_shows 43 = .ok (.goto 51, 3) := by decide +kernel
theorem d_PF_shows_46 : decode b_PF_shows 46 = .ok (.aload_n 0, 1) := by decide +kernel
theorem d_PF_shows_47 : decode b_PF_shows 47 = .ok (.getfield 33, 3) := by decide +kernel
theorem d_PF_shows_50 : decode b_PF_shows 50 = .ok (.iconst 1, 1) := by decide +kernel
theorem d_PF_shows_51 : decode b_PF_shows 51 = .ok (.if_icmp .ne 19, 3) := by decide +kernel
theorem d_PF_shows_54 : decode b_PF_shows 54 = .ok (.aload_n 0, 1) := by decide +kernel
theorem d_PF_shows_55 : decode b_PF_shows 55 = .ok (.aload_n 0, 1) := by decide +kernel
theorem d_PF_shows_56 : decode b_PF_shows 56 = .ok (.getfield 9, 3) := by decide +kernel
theorem d_PF_shows_59 : decode b_PF_shows 59 = .ok (.aload_n 0, 1) := by decide +kernel
theorem d_PF_shows_60 : decode b_PF_shows 60 = .ok (.getfield 30, 3) := by decide +kernel
theorem d_PF_shows_63 : decode b_PF_shows 63 = .ok (.laload, 1) := by decide +kernel
theorem d_PF_shows_64 : decode b_PF_shows 64 = .ok (.invokevirtual 47, 3) := by decide +kernel
theorem d_PF_shows_67 : decode b_PF_shows 67 = .ok (.goto 27, 3) := by decide +kernel
theorem d_PF_shows_70 : decode b_PF_shows 70 = .ok (.aload_n 0, 1) := by decide +kernel
theorem d_PF_shows_71 : decode b_PF_shows 71 = .ok (.aload_n 0, 1) := by decide +kernel
theorem d_PF_shows_72 : decode b_PF_shows 72 = .ok (.getfield 9, 3) := by decide +kernel
theorem d_PF_shows_75 : decode b_PF_shows 75 = .ok (.aload_n 0, 1) := by decide +kernel
theorem d_PF_shows_76 : decode b_PF_shows 76 = .ok (.getfield 30, 3) := by decide +kernel
theorem d_PF_shows_79 : decode b_PF_shows 79 = .ok (.laload, 1) := by decide +kernel
theorem d_PF_shows_80 : decode b_PF_shows 80 = .ok (.aload_n 0, 1) := by decide +kernel
theorem d_PF_shows_81 : decode b_PF_shows 81 = .ok (.getfield 9, 3) := by decide +kernel
theorem d_PF_shows_84 : decode b_PF_shows 84 = .ok (.aload_n 0, 1) := by decide +kernel
theorem d_PF_shows_85 : decode b_PF_shows 85 = .ok (.getfield 30, 3) := by decide +kernel
theorem d_PF_shows_88 : decode b_PF_shows 88 = .ok (.iconst 1, 1) := by decide +kernel
theorem d_PF_shows_89 : decode b_PF_shows 89 = .ok (.iadd, 1) := by decide +kernel
theorem d_PF_shows_90 : decode b_PF_shows 90 = .ok (.laload, 1) := by decide +kernel
theorem d_PF_shows_91 : decode b_PF_shows 91 = .ok (.invokevirtual 50, 3) := by decide +kernel
theorem d_PF_shows_94 : decode b_PF_shows 94 = .ok (.iinc 6 1, 3) := by decide +kernel
theorem d_PF_shows_97 : decode b_PF_shows 97 = .ok (.goto (-79), 3) := by decide +kernel
theorem d_PF_shows_100 : decode b_PF_shows 100 = .ok (.aload_n 0, 1) := by decide +kernel
theorem d_PF_shows_101 : decode b_PF_shows 101 = .ok (.getfield 19, 3) := by decide +kernel
theorem d_PF_shows_104 : decode b_PF_shows 104 = .ok (.iconst 1, 1) := by decide +kernel
theorem d_PF_shows_105 : decode b_PF_shows 105 = .ok (.if_icmp .ne 28, 3) := by decide +kernel
theorem d_PF_shows_108 : decode b_PF_shows 108 = .ok (.aload_n 0, 1) := by decide +kernel
