theorem d_NT_put_0 : decode b_NT_put 0 = .ok (.iload_n 1, 1) := by decide +kernel
theorem d_NT_put_1 : decode b_NT_put 1 = .ok (.i2l, 1) := by decide +kernel
theorem d_NT_put_2 : decode b_NT_put 2 = .ok (.invokestatic 40, 3) := by decide +kernel
theorem d_NT_put_5 : decode b_NT_put 5 = .ok (.ifCond .ne 5, 3) := by decide +kernel
theorem d_NT_put_8 : decode b_NT_put 8 = .ok (.iconst 0, 1) := by decide +kernel
theorem d_NT_put_9 : decode b_NT_put 9 = .ok (.ireturn, 1) := by decide +kernel
theorem d_NT_put_10 : decode b_NT_put 10 = .ok (.aload_n 0, 1) := by decide +kernel
theorem d_NT_put_11 : decode b_NT_put 11 = .ok (.getfield 12, 3) := by decide +kernel
theorem d_NT_put_14 : decode b_NT_put 14 = .ok (.iload_n 1, 1) := by decide +kernel
theorem d_NT_put_15 : decode b_NT_put 15 = .ok (.iload_n 2, 1) := by decide +kernel
theorem d_NT_put_16 : decode b_NT_put 16 = .ok (.invokevirtual 46, 3) := by decide +kernel
theorem d_NT_put_19 : decode b_NT_put 19 = .ok (.ireturn, 1) := by decide +kernel
theorem d_NT_get_0 : decode b_NT_get 0 = .ok (.aload_n 0, 1) := by decide +kernel
theorem d_NT_get_1 : decode b_NT_get 1 = .ok (.getfield 12, 3) := by decide +kernel
theorem d_NT_get_4 : decode b_NT_get 4 = .ok (.getfield 49, 3) := by decide +kernel
theorem d_NT_get_7 : decode b_NT_get 7 = .ok (.iload_n 1, 1) := by decide +kernel
theorem d_NT_get_8 : decode b_NT_get 8 = .ok (.invokevirtual 53, 3) := by decide +kernel
theorem d_NT_get_11 : decode b_NT_get 11 = .ok (.ireturn, 1) := by decide +kernel
theorem d_NT_size_0 : decode b_NT_size 0 = .ok (.aload_n 0, 1) := by decide +kernel
theorem d_NT_size_1 : decode b_NT_size 1 = .ok (.getfield 12, 3) := by decide +kernel
theorem d_NT_size_4 : decode b_NT_size 4 = .ok (.getfield 49, 3) := by decide +kernel
theorem d_NT_size_7 : decode b_NT_size 7 = .ok (.getfield 59, 3) := by decide +kernel
theorem d_NT_size_10 : decode b_NT_size 10 = .ok (.ireturn, 1) := by decide +kernel
theorem d_NT_root_0 : decode b_NT_root 0 = .ok (.aload_n 0, 1) := by decide +kernel
theorem d_NT_root_1 : decode b_NT_root 1 = .ok (.getfield 12, 3) := by decide +kernel
theorem d_NT_root_4 : decode b_NT_root 4 = .ok (.invokevirtual 62, 3) := by decide +kernel
theorem d_NT_root_7 : decode b_NT_root 7 = .ok (.lreturn, 1) := by decide +kernel
theorem d_NT_count_0 : decode b_NT_count 0 = .ok (.iload_n 1, 1) := by decide +kernel
theorem d_NT_count_1 : decode b_NT_count 1 = .ok (.tableswitch 51 0 2 #[27, 35, 43], 27) := by decide +kernel
theorem d_NT_count_28 : decode b_NT_count 28 = .ok (.aload_n 0, 1) := by decide +kernel
theorem d_NT_count_29 : decode b_NT_count 29 = .ok (.getfield 12, 3) := by decide +kernel
theorem d_NT_count_32 : decode b_NT_count 32 = .ok (.getfield 66, 3) := by decide +kernel
theorem d_NT_count_35 : decode b_NT_count 35 = .ok (.ireturn, 1) := by decide +kernel
theorem d_NT_count_36 : decode b_NT_count 36 = .ok (.aload_n 0, 1) := by decide +kernel
theorem d_NT_count_37 : decode b_NT_count 37 = .ok (.getfield 12, 3) := by decide +kernel
theorem d_NT_count_40 : decode b_NT_count 40 = .ok (.getfield 69, 3) := by decide +kernel
theorem d_NT_count_43 : decode b_NT_count 43 = .ok (.ireturn, 1) := by decide +kernel
theorem d_NT_count_44 : decode b_NT_count 44 = .ok (.aload_n 0, 1) := by decide +kernel
theorem d_NT_count_45 : decode b_NT_count 45 = .ok (.getfield 12, 3) := by decide +kernel
theorem d_NT_count_48 : decode b_NT_count 48 = .ok (.getfield 72, 3) := by decide +kernel
theorem d_NT_count_51 : decode b_NT_count 51 = .ok (.ireturn, 1) := by decide +kernel
theorem d_NT_count_52 : decode b_NT_count 52 = .ok (.iconst (-1), 1) := by decide +kernel
theorem d_NT_count_53 : decode b_NT_count 53 = .ok (.ireturn, 1) := by decide +kernel
theorem d_NT_commit_0 : decode b_NT_commit 0 = .ok (.aload_n 0, 1) := by decide +kernel
theorem d_NT_commit_1 : decode b_NT_commit 1 = .ok (.invokevirtual 75, 3) := by decide +kernel
theorem d_NT_commit_4 : decode b_NT_commit 4 = .ok (.istore_n 2, 1) := by decide +kernel
theorem d_NT_commit_5 : decode b_NT_commit 5 = .ok (.iload_n 1, 1) := by decide +kernel
theorem d_NT_commit_6 : decode b_NT_commit 6 = .ok (.iload_n 2, 1) := by decide +kernel
theorem d_NT_commit_7 : decode b_NT_commit 7 = .ok (.iconst 1, 1) := by decide +kernel
theorem d_NT_commit_8 : decode b_NT_commit 8 = .ok (.iadd, 1) := by decide +kernel
theorem d_NT_commit_9 : decode b_NT_commit 9 = .ok (.if_icmp .ge 9, 3) := by decide +kernel
theorem d_NT_commit_12 : decode b_NT_commit 12 = .ok (.aload_n 0, 1) := by decide +kernel
theorem d_NT_commit_13 : decode b_NT_commit 13 = .ok (.invokevirtual 79, 3) := by decide +kernel
theorem d_NT_commit_16 : decode b_NT_commit 16 = .ok (.iconst (-1), 1) := by decide +kernel
theorem d_NT_commit_17 : decode b_NT_commit 17 = .ok (.ireturn, 1) := by decide +kernel
theorem d_NT_commit_18 : decode b_NT_commit 18 = .ok (.aload_n 0, 1) := by decide +kernel
theorem d_NT_commit_19 : decode b_NT_commit 19 = .ok (.invokevirtual 82, 3) := by decide +kernel
theorem d_NT_commit_22 : decode b_NT_commit 22 = .ok (.iload_n 2, 1) := by decide +kernel
theorem d_NT_commit_23 : decode b_NT_commit 23 = .ok (.ireturn, 1) := by decide +kernel
theorem d_NT_crash_0 : decode b_NT_crash 0 = .ok (.aload_n 0, 1) := by decide +kernel
theorem d_NT_crash_1 : decode b_NT_crash 1 = .ok (.invokevirtual 79, 3) := by decide +kernel
theorem d_NT_crash_4 : decode b_NT_crash 4 = .ok (.aload_n 0, 1) := by decide +kernel
theorem d_NT_crash_5 : decode b_NT_crash 5 = .ok (.getfield 12, 3) := by decide +kernel
theorem d_NT_crash_8 : decode b_NT_crash 8 = .ok (.getfield 49, 3) := by decide +kernel
theorem d_NT_crash_11 : decode b_NT_crash 11 = .ok (.getfield 59, 3) := by decide +kernel
theorem d_NT_crash_14 : decode b_NT_crash 14 = .ok (.ireturn, 1) := by decide +kernel
theorem d_NT_versions_0 : decode b_NT_versions 0 = .ok (.aload_n 0, 1) := by decide +kernel
theorem d_NT_versions_1 : decode b_NT_versions 1 = .ok (.getfield 16, 3) := by decide +kernel
theorem d_NT_versions_4 : decode b_NT_versions 4 = .ok (.ireturn, 1) := by decide +kernel
theorem d_NT_at_0 : decode b_NT_at 0 = .ok (.aload_n 0, 1) := by decide +kernel
theorem d_NT_at_1 : decode b_NT_at 1 = .ok (.iload_n 1, 1) := by decide +kernel
theorem d_NT_at_2 : decode b_NT_at 2 = .ok (.invokevirtual 85, 3) := by decide +kernel
theorem d_NT_at_5 : decode b_NT_at 5 = .ok (.ifCond .eq 19, 3) := by decide +kernel
theorem d_NT_at_8 : decode b_NT_at 8 = .ok (.aload_n 0, 1) := by decide +kernel
theorem d_NT_at_9 : decode b_NT_at 9 = .ok (.getfield 36, 3) := by decide +kernel
theorem d_NT_at_12 : decode b_NT_at 12 = .ok (.iload_n 1, 1) := by decide +kernel
theorem d_NT_at_13 : decode b_NT_at 13 = .ok (.aaload, 1) := by decide +kernel
theorem d_NT_at_14 : decode b_NT_at 14 = .ok (.getfield 49, 3) := by decide +kernel
theorem d_NT_at_17 : decode b_NT_at 17 = .ok (.iload_n 2, 1) := by decide +kernel
theorem d_NT_at_18 : decode b_NT_at 18 = .ok (.invokevirtual 53, 3) := by decide +kernel
theorem d_NT_at_21 : decode b_NT_at 21 = .ok (.goto 4, 3) := by decide +kernel
theorem d_NT_at_24 : decode b_NT_at 24 = .ok (.iconst 0, 1) := by decide +kernel
theorem d_NT_at_25 : decode b_NT_at 25 = .ok (.ireturn, 1) := by decide +kernel
theorem d_NT_rootAt_0 : decode b_NT_rootAt 0 = .ok (.aload_n 0, 1) := by decide +kernel
theorem d_NT_rootAt_1 : decode b_NT_rootAt 1 = .ok (.iload_n 1, 1) := by decide +kernel
theorem d_NT_rootAt_2 : decode b_NT_rootAt 2 = .ok (.invokevirtual 85, 3) := by decide +kernel
theorem d_NT_rootAt_5 : decode b_NT_rootAt 5 = .ok (.ifCond .eq 15, 3) := by decide +kernel
theorem d_NT_rootAt_8 : decode b_NT_rootAt 8 = .ok (.aload_n 0, 1) := by decide +kernel
theorem d_NT_rootAt_9 : decode b_NT_rootAt 9 = .ok (.getfield 36, 3) := by decide +kernel
theorem d_NT_rootAt_12 : decode b_NT_rootAt 12 = .ok (.iload_n 1, 1) := by decide +kernel
theorem d_NT_rootAt_13 : decode b_NT_rootAt 13 = .ok (.aaload, 1) := by decide +kernel
theorem d_NT_rootAt_14 : decode b_NT_rootAt 14 = .ok (.invokevirtual 62, 3) := by decide +kernel
theorem d_NT_rootAt_17 : decode b_NT_rootAt 17 = .ok (.goto 4, 3) := by decide +kernel
theorem d_NT_rootAt_20 : decode b_NT_rootAt 20 = .ok (.lconst 0, 1) := by decide +kernel
theorem d_NT_rootAt_21 : decode b_NT_rootAt 21 = .ok (.lreturn, 1) := by decide +kernel
theorem d_NT_stored_0 : decode b_NT_stored 0 = .ok (.iconst 0, 1) := by decide +kernel
theorem d_NT_stored_1 : decode b_NT_stored 1 = .ok (.istore_n 1, 1) := by decide +kernel
theorem d_NT_stored_2 : decode b_NT_stored 2 = .ok (.iconst 0, 1) := by decide +kernel
theorem d_NT_stored_3 : decode b_NT_stored 3 = .ok (.istore_n 2, 1) := by decide +kernel
theorem d_NT_stored_4 : decode b_NT_stored 4 = .ok (.iload_n 2, 1) := by decide +kernel
theorem d_NT_stored_5 : decode b_NT_stored 5 = .ok (.aload_n 0, 1) := by decide +kernel
theorem d_NT_stored_6 : decode b_NT_stored 6 = .ok (.getfield 16, 3) := by decide +kernel
theorem d_NT_stored_9 : decode b_NT_stored 9 = .ok (.if_icmp .ge 42, 3) := by decide +kernel
theorem d_NT_stored_12 : decode b_NT_stored 12 = .ok (.iconst 0, 1) := by decide +kernel
theorem d_NT_stored_13 : decode b_NT_stored 13 = .ok (.istore_n 3, 1) := by decide +kernel
theorem d_NT_stored_14 : decode b_NT_stored 14 = .ok (.iload_n 3, 1) := by decide +kernel
theorem d_NT_stored_15 : decode b_NT_stored 15 = .ok (.aload_n 0, 1) := by decide +kernel
theorem d_NT_stored_16 : decode b_NT_stored 16 = .ok (.getfield 36, 3) := by decide +kernel
theorem d_NT_stored_19 : decode b_NT_stored 19 = .ok (.iload_n 2, 1) := by decide +kernel
theorem d_NT_stored_20 : decode b_NT_stored 20 = .ok (.aaload, 1) := by decide +kernel
theorem d_NT_stored_21 : decode b_NT_stored 21 = .ok (.getfield 72, 3) := by decide +kernel
theorem d_NT_stored_24 : decode b_NT_stored 24 = .ok (.if_icmp .ge 21, 3) := by decide +kernel
theorem d_NT_stored_27 : decode b_NT_stored 27 = .ok (.aload_n 0, 1) := by decide +kernel
theorem d_NT_stored_28 : decode b_NT_stored 28 = .ok (.iload_n 2, 1) := by decide +kernel
theorem d_NT_stored_29 : decode b_NT_stored 29 = .ok (.iload_n 3, 1) := by decide +kernel
theorem d_NT_stored_30 : decode b_NT_stored 30 = .ok (.invokevirtual 89, 3) := by decide +kernel
theorem d_NT_stored_33 : decode b_NT_stored 33 = .ok (.ifCond .eq 6, 3) := by decide +kernel
theorem d_NT_stored_36 : decode b_NT_stored 36 = .ok (.iinc 1 1, 3) := by decide +kernel
theorem d_NT_stored_39 : decode b_NT_stored 39 = .ok (.iinc 3 1, 3) := by decide +kernel
theorem d_NT_stored_42 : decode b_NT_stored 42 = .ok (.goto (-28), 3) := by decide +kernel
theorem d_NT_stored_45 : decode b_NT_stored 45 = .ok (.iinc 2 1, 3) := by decide +kernel
theorem d_NT_stored_48 : decode b_NT_stored 48 = .ok (.goto (-44), 3) := by decide +kernel
theorem d_NT_stored_51 : decode b_NT_stored 51 = .ok (.iload_n 1, 1) := by decide +kernel
theorem d_NT_stored_52 : decode b_NT_stored 52 = .ok (.ireturn, 1) := by decide +kernel
theorem d_NT_uses_0 : decode b_NT_uses 0 = .ok (.iconst 0, 1) := by decide +kernel
theorem d_NT_uses_1 : decode b_NT_uses 1 = .ok (.istore_n 3, 1) := by decide +kernel
theorem d_NT_uses_2 : decode b_NT_uses 2 = .ok (.iconst 0, 1) := by decide +kernel
theorem d_NT_uses_3 : decode b_NT_uses 3 = .ok (.istore 4, 2) := by decide +kernel
theorem d_NT_uses_5 : decode b_NT_uses 5 = .ok (.iload 4, 2) := by decide +kernel
theorem d_NT_uses_7 : decode b_NT_uses 7 = .ok (.aload_n 0, 1) := by decide +kernel
theorem d_NT_uses_8 : decode b_NT_uses 8 = .ok (.getfield 16, 3) := by decide +kernel
theorem d_NT_uses_11 : decode b_NT_uses 11 = .ok (.if_icmp .ge 64, 3) := by decide +kernel
theorem d_NT_uses_14 : decode b_NT_uses 14 = .ok (.iconst 0, 1) := by decide +kernel
theorem d_NT_uses_15 : decode b_NT_uses 15 = .ok (.istore 5, 2) := by decide +kernel
theorem d_NT_uses_17 : decode b_NT_uses 17 = .ok (.iload 5, 2) := by decide +kernel
theorem d_NT_uses_19 : decode b_NT_uses 19 = .ok (.aload_n 0, 1) := by decide +kernel
theorem d_NT_uses_20 : decode b_NT_uses 20 = .ok (.getfield 36, 3) := by decide +kernel
theorem d_NT_uses_23 : decode b_NT_uses 23 = .ok (.iload 4, 2) := by decide +kernel
theorem d_NT_uses_25 : decode b_NT_uses 25 = .ok (.aaload, 1) := by decide +kernel
theorem d_NT_uses_26 : decode b_NT_uses 26 = .ok (.getfield 72, 3) := by decide +kernel
theorem d_NT_uses_29 : decode b_NT_uses 29 = .ok (.if_icmp .ge 40, 3) := by decide +kernel
theorem d_NT_uses_32 : decode b_NT_uses 32 = .ok (.aload_n 0, 1) := by decide +kernel
theorem d_NT_uses_33 : decode b_NT_uses 33 = .ok (.iload 4, 2) := by decide +kernel
theorem d_NT_uses_35 : decode b_NT_uses 35 = .ok (.iload 5, 2) := by decide +kernel
theorem d_NT_uses_37 : decode b_NT_uses 37 = .ok (.invokevirtual 93, 3) := by decide +kernel
theorem d_NT_uses_40 : decode b_NT_uses 40 = .ok (.ifCond .eq 23, 3) := by decide +kernel
theorem d_NT_uses_43 : decode b_NT_uses 43 = .ok (.aload_n 0, 1) := by decide +kernel
theorem d_NT_uses_44 : decode b_NT_uses 44 = .ok (.getfield 36, 3) := by decide +kernel
theorem d_NT_uses_47 : decode b_NT_uses 47 = .ok (.iload 4, 2) := by decide +kernel
theorem d_NT_uses_49 : decode b_NT_uses 49 = .ok (.aaload, 1) := by decide +kernel
theorem d_NT_uses_50 : decode b_NT_uses 50 = .ok (.iload 5, 2) := by decide +kernel
theorem d_NT_uses_52 : decode b_NT_uses 52 = .ok (.invokevirtual 96, 3) := by decide +kernel
theorem d_NT_uses_55 : decode b_NT_uses 55 = .ok (.lload_n 1, 1) := by decide +kernel
theorem d_NT_uses_56 : decode b_NT_uses 56 = .ok (.lcmp, 1) := by decide +kernel
theorem d_NT_uses_57 : decode b_NT_uses 57 = .ok (.ifCond .ne 6, 3) := by decide +kernel
theorem d_NT_uses_60 : decode b_NT_uses 60 = .ok (.iinc 3 1, 3) := by decide +kernel
theorem d_NT_uses_63 : decode b_NT_uses 63 = .ok (.iinc 5 1, 3) := by decide +kernel
theorem d_NT_uses_66 : decode b_NT_uses 66 = .ok (.goto (-49), 3) := by decide +kernel
theorem d_NT_uses_69 : decode b_NT_uses 69 = .ok (.iinc 4 1, 3) := by decide +kernel
theorem d_NT_uses_72 : decode b_NT_uses 72 = .ok (.goto (-67), 3) := by decide +kernel
theorem d_NT_uses_75 : decode b_NT_uses 75 = .ok (.iload_n 3, 1) := by decide +kernel
theorem d_NT_uses_76 : decode b_NT_uses 76 = .ok (.ireturn, 1) := by decide +kernel
theorem d_NT_prove_0 : decode b_NT_prove 0 = .ok (.aload_n 0, 1) := by decide +kernel
theorem d_NT_prove_1 : decode b_NT_prove 1 = .ok (.iload_n 1, 1) := by decide +kernel
theorem d_NT_prove_2 : decode b_NT_prove 2 = .ok (.invokevirtual 85, 3) := by decide +kernel
theorem d_NT_prove_5 : decode b_NT_prove 5 = .ok (.ifCond .eq 11, 3) := by decide +kernel
theorem d_NT_prove_8 : decode b_NT_prove 8 = .ok (.iload_n 2, 1) := by decide +kernel
theorem d_NT_prove_9 : decode b_NT_prove 9 = .ok (.i2l, 1) := by decide +kernel
theorem d_NT_prove_10 : decode b_NT_prove 10 = .ok (.invokestatic 40, 3) := by decide +kernel
theorem d_NT_prove_13 : decode b_NT_prove 13 = .ok (.ifCond .ne 5, 3) := by decide +kernel
theorem d_NT_prove_16 : decode b_NT_prove 16 = .ok (.iconst (-1), 1) := by decide +kernel
theorem d_NT_prove_17 : decode b_NT_prove 17 = .ok (.ireturn, 1) := by decide +kernel
theorem d_NT_prove_18 : decode b_NT_prove 18 = .ok (.aload_n 0, 1) := by decide +kernel
theorem d_NT_prove_19 : decode b_NT_prove 19 = .ok (.getfield 23, 3) := by decide +kernel
theorem d_NT_prove_22 : decode b_NT_prove 22 = .ok (.aload_n 0, 1) := by decide +kernel
theorem d_NT_prove_23 : decode b_NT_prove 23 = .ok (.getfield 36, 3) := by decide +kernel
theorem d_NT_prove_26 : decode b_NT_prove 26 = .ok (.iload_n 1, 1) := by decide +kernel
theorem d_NT_prove_27 : decode b_NT_prove 27 = .ok (.aaload, 1) := by decide +kernel
theorem d_NT_prove_28 : decode b_NT_prove 28 = .ok (.iload_n 2, 1) := by decide +kernel
theorem d_NT_prove_29 : decode b_NT_prove 29 = .ok (.aload_n 0, 1) := by decide +kernel
theorem d_NT_prove_30 : decode b_NT_prove 30 = .ok (.getfield 23, 3) := by decide +kernel
theorem d_NT_prove_33 : decode b_NT_prove 33 = .ok (.getfield 100, 3) := by decide +kernel
theorem d_NT_prove_36 : decode b_NT_prove 36 = .ok (.invokevirtual 104, 3) := by decide +kernel
theorem d_NT_prove_39 : decode b_NT_prove 39 = .ok (.putfield 108, 3) := by decide +kernel
theorem d_NT_prove_42 : decode b_NT_prove 42 = .ok (.aload_n 0, 1) := by decide +kernel
theorem d_NT_prove_43 : decode b_NT_prove 43 = .ok (.getfield 23, 3) := by decide +kernel
theorem d_NT_prove_46 : decode b_NT_prove 46 = .ok (.getfield 108, 3) := by decide +kernel
theorem d_NT_prove_49 : decode b_NT_prove 49 = .ok (.ireturn, 1) := by decide +kernel
theorem d_NT_word_0 : decode b_NT_word 0 = .ok (.aload_n 0, 1) := by decide +kernel
theorem d_NT_word_1 : decode b_NT_word 1 = .ok (.getfield 23, 3) := by decide +kernel
theorem d_NT_word_4 : decode b_NT_word 4 = .ok (.iload_n 1, 1) := by decide +kernel
theorem d_NT_word_5 : decode b_NT_word 5 = .ok (.invokevirtual 111, 3) := by decide +kernel
theorem d_NT_word_8 : decode b_NT_word 8 = .ok (.ifCond .eq 15, 3) := by decide +kernel
theorem d_NT_word_11 : decode b_NT_word 11 = .ok (.aload_n 0, 1) := by decide +kernel
theorem d_NT_word_12 : decode b_NT_word 12 = .ok (.getfield 23, 3) := by decide +kernel
theorem d_NT_word_15 : decode b_NT_word 15 = .ok (.getfield 100, 3) := by decide +kernel
theorem d_NT_word_18 : decode b_NT_word 18 = .ok (.iload_n 1, 1) := by decide +kernel
theorem d_NT_word_19 : decode b_NT_word 19 = .ok (.laload, 1) := by decide +kernel
theorem d_NT_word_20 : decode b_NT_word 20 = .ok (.goto 4, 3) := by decide +kernel
theorem d_NT_word_23 : decode b_NT_word 23 = .ok (.lconst 0, 1) := by decide +kernel
theorem d_NT_word_24 : decode b_NT_word 24 = .ok (.lreturn, 1) := by decide +kernel
theorem d_NT_alter_0 : decode b_NT_alter 0 = .ok (.aload_n 0, 1) := by decide +kernel
theorem d_NT_alter_1 : decode b_NT_alter 1 = .ok (.getfield 23, 3) := by decide +kernel
theorem d_NT_alter_4 : decode b_NT_alter 4 = .ok (.iload_n 1, 1) := by decide +kernel
theorem d_NT_alter_5 : decode b_NT_alter 5 = .ok (.invokevirtual 111, 3) := by decide +kernel
theorem d_NT_alter_8 : decode b_NT_alter 8 = .ok (.ifCond .ne 5, 3) := by decide +kernel
theorem d_NT_alter_11 : decode b_NT_alter 11 = .ok (.iconst 0, 1) := by decide +kernel
theorem d_NT_alter_12 : decode b_NT_alter 12 = .ok (.ireturn, 1) := by decide +kernel
theorem d_NT_alter_13 : decode b_NT_alter 13 = .ok (.aload_n 0, 1) := by decide +kernel
theorem d_NT_alter_14 : decode b_NT_alter 14 = .ok (.getfield 23, 3) := by decide +kernel
theorem d_NT_alter_17 : decode b_NT_alter 17 = .ok (.getfield 100, 3) := by decide +kernel
theorem d_NT_alter_20 : decode b_NT_alter 20 = .ok (.iload_n 1, 1) := by decide +kernel
theorem d_NT_alter_21 : decode b_NT_alter 21 = .ok (.lload_n 2, 1) := by decide +kernel
theorem d_NT_alter_22 : decode b_NT_alter 22 = .ok (.lastore, 1) := by decide +kernel
theorem d_NT_alter_23 : decode b_NT_alter 23 = .ok (.iconst 1, 1) := by decide +kernel
theorem d_NT_alter_24 : decode b_NT_alter 24 = .ok (.ireturn, 1) := by decide +kernel
theorem d_NT_cut_0 : decode b_NT_cut 0 = .ok (.aload_n 0, 1) := by decide +kernel
theorem d_NT_cut_1 : decode b_NT_cut 1 = .ok (.getfield 23, 3) := by decide +kernel
theorem d_NT_cut_4 : decode b_NT_cut 4 = .ok (.getfield 108, 3) := by decide +kernel
theorem d_NT_cut_7 : decode b_NT_cut 7 = .ok (.ifCond .le 16, 3) := by decide +kernel
theorem d_NT_cut_10 : decode b_NT_cut 10 = .ok (.aload_n 0, 1) := by decide +kernel
theorem d_NT_cut_11 : decode b_NT_cut 11 = .ok (.getfield 23, 3) := by decide +kernel
theorem d_NT_cut_14 : decode b_NT_cut 14 = .ok (.dup, 1) := by decide +kernel
theorem d_NT_cut_15 : decode b_NT_cut 15 = .ok (.getfield 108, 3) := by decide +kernel
theorem d_NT_cut_18 : decode b_NT_cut 18 = .ok (.iconst 1, 1) := by decide +kernel
theorem d_NT_cut_19 : decode b_NT_cut 19 = .ok (.isub, 1) := by decide +kernel
theorem d_NT_cut_20 : decode b_NT_cut 20 = .ok (.putfield 108, 3) := by decide +kernel
theorem d_NT_cut_23 : decode b_NT_cut 23 = .ok (.aload_n 0, 1) := by decide +kernel
theorem d_NT_cut_24 : decode b_NT_cut 24 = .ok (.getfield 23, 3) := by decide +kernel
theorem d_NT_cut_27 : decode b_NT_cut 27 = .ok (.getfield 108, 3) := by decide +kernel
theorem d_NT_cut_30 : decode b_NT_cut 30 = .ok (.ireturn, 1) := by decide +kernel
theorem d_NT_verify_0 : decode b_NT_verify 0 = .ok (.iload_n 3, 1) := by decide +kernel
theorem d_NT_verify_1 : decode b_NT_verify 1 = .ok (.i2l, 1) := by decide +kernel
theorem d_NT_verify_2 : decode b_NT_verify 2 = .ok (.invokestatic 40, 3) := by decide +kernel
theorem d_NT_verify_5 : decode b_NT_verify 5 = .ok (.ifCond .eq 22, 3) := by decide +kernel
theorem d_NT_verify_8 : decode b_NT_verify 8 = .ok (.aload_n 0, 1) := by decide +kernel
theorem d_NT_verify_9 : decode b_NT_verify 9 = .ok (.getfield 23, 3) := by decide +kernel
theorem d_NT_verify_12 : decode b_NT_verify 12 = .ok (.lload_n 1, 1) := by decide +kernel
theorem d_NT_verify_13 : decode b_NT_verify 13 = .ok (.iload_n 3, 1) := by decide +kernel
theorem d_NT_verify_14 : decode b_NT_verify 14 = .ok (.iload 4, 2) := by decide +kernel
theorem d_NT_verify_16 : decode b_NT_verify 16 = .ok (.i2l, 1) := by decide +kernel
theorem d_NT_verify_17 : decode b_NT_verify 17 = .ok (.invokevirtual 114, 3) := by decide +kernel
theorem d_NT_verify_20 : decode b_NT_verify 20 = .ok (.ifCond .eq 7, 3) := by decide +kernel
theorem d_NT_verify_23 : decode b_NT_verify 23 = .ok (.iconst 1, 1) := by decide +kernel
theorem d_NT_verify_24 : decode b_NT_verify 24 = .ok (.goto 4, 3) := by decide +kernel
theorem d_NT_verify_27 : decode b_NT_verify 27 = .ok (.iconst 0, 1) := by decide +kernel
theorem d_NT_verify_28 : decode b_NT_verify 28 = .ok (.ireturn, 1) := by decide +kernel
theorem d_NT_isKept_0 : decode b_NT_isKept 0 = .ok (.iload_n 1, 1) := by decide +kernel
theorem d_NT_isKept_1 : decode b_NT_isKept 1 = .ok (.ifCond .lt 15, 3) := by decide +kernel
theorem d_NT_isKept_4 : decode b_NT_isKept 4 = .ok (.iload_n 1, 1) := by decide +kernel
theorem d_NT_isKept_5 : decode b_NT_isKept 5 = .ok (.aload_n 0, 1) := by decide +kernel
theorem d_NT_isKept_6 : decode b_NT_isKept 6 = .ok (.getfield 16, 3) := by decide +kernel
theorem d_NT_isKept_9 : decode b_NT_isKept 9 = .ok (.if_icmp .ge 7, 3) := by decide +kernel
theorem d_NT_isKept_12 : decode b_NT_isKept 12 = .ok (.iconst 1, 1) := by decide +kernel
theorem d_NT_isKept_13 : decode b_NT_isKept 13 = .ok (.goto 4, 3) := by decide +kernel
theorem d_NT_isKept_16 : decode b_NT_isKept 16 = .ok (.iconst 0, 1) := by decide +kernel
theorem d_NT_isKept_17 : decode b_NT_isKept 17 = .ok (.ireturn, 1) := by decide +kernel
theorem d_NT_branchesToWrite_0 : decode b_NT_branchesToWrite 0 = .ok (.iconst 0, 1) := by decide +kernel
theorem d_NT_branchesToWrite_1 : decode b_NT_branchesToWrite 1 = .ok (.istore_n 1, 1) := by decide +kernel
theorem d_NT_branchesToWrite_2 : decode b_NT_branchesToWrite 2 = .ok (.iconst 0, 1) := by decide +kernel
theorem d_NT_branchesToWrite_3 : decode b_NT_branchesToWrite 3 = .ok (.istore_n 2, 1) := by decide +kernel
theorem d_NT_branchesToWrite_4 : decode b_NT_branchesToWrite 4 = .ok (.iload_n 2, 1) := by decide +kernel
theorem d_NT_branchesToWrite_5 : decode b_NT_branchesToWrite 5 = .ok (.aload_n 0, 1) := by decide +kernel
theorem d_NT_branchesToWrite_6 : decode b_NT_branchesToWrite 6 = .ok (.getfield 12, 3) := by decide +kernel
theorem d_NT_branchesToWrite_9 : decode b_NT_branchesToWrite 9 = .ok (.getfield 72, 3) := by decide +kernel
theorem d_NT_branchesToWrite_12 : decode b_NT_branchesToWrite 12 = .ok (.if_icmp .ge 46, 3) := by decide +kernel
theorem d_NT_branchesToWrite_15 : decode b_NT_branchesToWrite 15 = .ok (.aload_n 0, 1) := by decide +kernel
theorem d_NT_branchesToWrite_16 : decode b_NT_branchesToWrite 16 = .ok (.getfield 12, 3) := by decide +kernel
theorem d_NT_branchesToWrite_19 : decode b_NT_branchesToWrite 19 = .ok (.iload_n 2, 1) := by decide +kernel
theorem d_NT_branchesToWrite_20 : decode b_NT_branchesToWrite 20 = .ok (.aload_n 0, 1) := by decide +kernel
theorem d_NT_branchesToWrite_21 : decode b_NT_branchesToWrite 21 = .ok (.getfield 12, 3) := by decide +kernel
theorem d_NT_branchesToWrite_24 : decode b_NT_branchesToWrite 24 = .ok (.iload_n 2, 1) := by decide +kernel
theorem d_NT_branchesToWrite_25 : decode b_NT_branchesToWrite 25 = .ok (.invokevirtual 118, 3) := by decide +kernel
theorem d_NT_branchesToWrite_28 : decode b_NT_branchesToWrite 28 = .ok (.istore_n 3, 1) := by decide +kernel
theorem d_NT_branchesToWrite_29 : decode b_NT_branchesToWrite 29 = .ok (.iload_n 3, 1) := by decide +kernel
theorem d_NT_branchesToWrite_30 : decode b_NT_branchesToWrite 30 = .ok (.ifCond .ne 22, 3) := by decide +kernel
theorem d_NT_branchesToWrite_33 : decode b_NT_branchesToWrite 33 = .ok (.aload_n 0, 1) := by decide +kernel
theorem d_NT_branchesToWrite_34 : decode b_NT_branchesToWrite 34 = .ok (.aload_n 0, 1) := by decide +kernel
theorem d_NT_branchesToWrite_35 : decode b_NT_branchesToWrite 35 = .ok (.getfield 16, 3) := by decide +kernel
theorem d_NT_branchesToWrite_38 : decode b_NT_branchesToWrite 38 = .ok (.aload_n 0, 1) := by decide +kernel
theorem d_NT_branchesToWrite_39 : decode b_NT_branchesToWrite 39 = .ok (.getfield 12, 3) := by decide +kernel
theorem d_NT_branchesToWrite_42 : decode b_NT_branchesToWrite 42 = .ok (.iload_n 2, 1) := by decide +kernel
theorem d_NT_branchesToWrite_43 : decode b_NT_branchesToWrite 43 = .ok (.invokevirtual 122, 3) := by decide +kernel
theorem d_NT_branchesToWrite_46 : decode b_NT_branchesToWrite 46 = .ok (.ifCond .ne 6, 3) := by decide +kernel
theorem d_NT_branchesToWrite_49 : decode b_NT_branchesToWrite 49 = .ok (.iinc 1 1, 3) := by decide +kernel
theorem d_NT_branchesToWrite_52 : decode b_NT_branchesToWrite 52 = .ok (.iinc 2 1, 3) := by decide +kernel
theorem d_NT_branchesToWrite_55 : decode b_NT_branchesToWrite 55 = .ok (.goto (-51), 3) := by decide +kernel
theorem d_NT_branchesToWrite_58 : decode b_NT_branchesToWrite 58 = .ok (.iload_n 1, 1) := by decide +kernel
theorem d_NT_branchesToWrite_59 : decode b_NT_branchesToWrite 59 = .ok (.ireturn, 1) := by decide +kernel
theorem d_NT_isAmongVersions_0 : decode b_NT_isAmongVersions 0 = .ok (.iconst 0, 1) := by decide +kernel
theorem d_NT_isAmongVersions_1 : decode b_NT_isAmongVersions 1 = .ok (.istore 4, 2) := by decide +kernel
theorem d_NT_isAmongVersions_3 : decode b_NT_isAmongVersions 3 = .ok (.iload 4, 2) := by decide +kernel
theorem d_NT_isAmongVersions_5 : decode b_NT_isAmongVersions 5 = .ok (.iload_n 1, 1) := by decide +kernel
theorem d_NT_isAmongVersions_6 : decode b_NT_isAmongVersions 6 = .ok (.if_icmp .ge 36, 3) := by decide +kernel
theorem d_NT_isAmongVersions_9 : decode b_NT_isAmongVersions 9 = .ok (.aload_n 0, 1) := by decide +kernel
theorem d_NT_isAmongVersions_10 : decode b_NT_isAmongVersions 10 = .ok (.getfield 36, 3) := by decide +kernel
theorem d_NT_isAmongVersions_13 : decode b_NT_isAmongVersions 13 = .ok (.iload 4, 2) := by decide +kernel
theorem d_NT_isAmongVersions_15 : decode b_NT_isAmongVersions 15 = .ok (.aaload, 1) := by decide +kernel
theorem d_NT_isAmongVersions_16 : decode b_NT_isAmongVersions 16 = .ok (.aload_n 0, 1) := by decide +kernel
theorem d_NT_isAmongVersions_17 : decode b_NT_isAmongVersions 17 = .ok (.getfield 36, 3) := by decide +kernel
theorem d_NT_isAmongVersions_20 : decode b_NT_isAmongVersions 20 = .ok (.iload 4, 2) := by decide +kernel
theorem d_NT_isAmongVersions_22 : decode b_NT_isAmongVersions 22 = .ok (.aaload, 1) := by decide +kernel
theorem d_NT_isAmongVersions_23 : decode b_NT_isAmongVersions 23 = .ok (.getfield 72, 3) := by decide +kernel
theorem d_NT_isAmongVersions_26 : decode b_NT_isAmongVersions 26 = .ok (.aload_n 2, 1) := by decide +kernel
theorem d_NT_isAmongVersions_27 : decode b_NT_isAmongVersions 27 = .ok (.iload_n 3, 1) := by decide +kernel
theorem d_NT_isAmongVersions_28 : decode b_NT_isAmongVersions 28 = .ok (.invokevirtual 118, 3) := by decide +kernel
theorem d_NT_isAmongVersions_31 : decode b_NT_isAmongVersions 31 = .ok (.ifCond .eq 5, 3) := by decide +kernel
theorem d_NT_isAmongVersions_34 : decode b_NT_isAmongVersions 34 = .ok (.iconst 1, 1) := by decide +kernel
theorem d_NT_isAmongVersions_35 : decode b_NT_isAmongVersions 35 = .ok (.ireturn, 1) := by decide +kernel
theorem d_NT_isAmongVersions_36 : decode b_NT_isAmongVersions 36 = .ok (.iinc 4 1, 3) := by decide +kernel
theorem d_NT_isAmongVersions_39 : decode b_NT_isAmongVersions 39 = .ok (.goto (-36), 3) := by decide +kernel
theorem d_NT_isAmongVersions_42 : decode b_NT_isAmongVersions 42 = .ok (.iconst 0, 1) := by decide +kernel
theorem d_NT_isAmongVersions_43 : decode b_NT_isAmongVersions 43 = .ok (.ireturn, 1) := by decide +kernel
theorem d_NT_isFirstOfItsKind_0 : decode b_NT_isFirstOfItsKind 0 = .ok (.aload_n 0, 1) := by decide +kernel
theorem d_NT_isFirstOfItsKind_1 : decode b_NT_isFirstOfItsKind 1 = .ok (.iload_n 1, 1) := by decide +kernel
theorem d_NT_isFirstOfItsKind_2 : decode b_NT_isFirstOfItsKind 2 = .ok (.aload_n 0, 1) := by decide +kernel
theorem d_NT_isFirstOfItsKind_3 : decode b_NT_isFirstOfItsKind 3 = .ok (.getfield 36, 3) := by decide +kernel
theorem d_NT_isFirstOfItsKind_6 : decode b_NT_isFirstOfItsKind 6 = .ok (.iload_n 1, 1) := by decide +kernel
theorem d_NT_isFirstOfItsKind_7 : decode b_NT_isFirstOfItsKind 7 = .ok (.aaload, 1) := by decide +kernel
theorem d_NT_isFirstOfItsKind_8 : decode b_NT_isFirstOfItsKind 8 = .ok (.iload_n 2, 1) := by decide +kernel
theorem d_NT_isFirstOfItsKind_9 : decode b_NT_isFirstOfItsKind 9 = .ok (.invokevirtual 122, 3) := by decide +kernel
theorem d_NT_isFirstOfItsKind_12 : decode b_NT_isFirstOfItsKind 12 = .ok (.ifCond .ne 27, 3) := by decide +kernel
theorem d_NT_isFirstOfItsKind_15 : decode b_NT_isFirstOfItsKind 15 = .ok (.aload_n 0, 1) := by decide +kernel
theorem d_NT_isFirstOfItsKind_16 : decode b_NT_isFirstOfItsKind 16 = .ok (.getfield 36, 3) := by decide +kernel
theorem d_NT_isFirstOfItsKind_19 : decode b_NT_isFirstOfItsKind 19 = .ok (.iload_n 1, 1) := by decide +kernel
theorem d_NT_isFirstOfItsKind_20 : decode b_NT_isFirstOfItsKind 20 = .ok (.aaload, 1) := by decide +kernel
theorem d_NT_isFirstOfItsKind_21 : decode b_NT_isFirstOfItsKind 21 = .ok (.iload_n 2, 1) := by decide +kernel
theorem d_NT_isFirstOfItsKind_22 : decode b_NT_isFirstOfItsKind 22 = .ok (.aload_n 0, 1) := by decide +kernel
theorem d_NT_isFirstOfItsKind_23 : decode b_NT_isFirstOfItsKind 23 = .ok (.getfield 36, 3) := by decide +kernel
theorem d_NT_isFirstOfItsKind_26 : decode b_NT_isFirstOfItsKind 26 = .ok (.iload_n 1, 1) := by decide +kernel
theorem d_NT_isFirstOfItsKind_27 : decode b_NT_isFirstOfItsKind 27 = .ok (.aaload, 1) := by decide +kernel
theorem d_NT_isFirstOfItsKind_28 : decode b_NT_isFirstOfItsKind 28 = .ok (.iload_n 2, 1) := by decide +kernel
theorem d_NT_isFirstOfItsKind_29 : decode b_NT_isFirstOfItsKind 29 = .ok (.invokevirtual 118, 3) := by decide +kernel
theorem d_NT_isFirstOfItsKind_32 : decode b_NT_isFirstOfItsKind 32 = .ok (.ifCond .ne 7, 3) := by decide +kernel
theorem d_NT_isFirstOfItsKind_35 : decode b_NT_isFirstOfItsKind 35 = .ok (.iconst 1, 1) := by decide +kernel
theorem d_NT_isFirstOfItsKind_36 : decode b_NT_isFirstOfItsKind 36 = .ok (.goto 4, 3) := by decide +kernel
theorem d_NT_isFirstOfItsKind_39 : decode b_NT_isFirstOfItsKind 39 = .ok (.iconst 0, 1) := by decide +kernel
theorem d_NT_isFirstOfItsKind_40 : decode b_NT_isFirstOfItsKind 40 = .ok (.ireturn, 1) := by decide +kernel
theorem d_NT_isUse_0 : decode b_NT_isUse 0 = .ok (.aload_n 0, 1) := by decide +kernel
theorem d_NT_isUse_1 : decode b_NT_isUse 1 = .ok (.getfield 36, 3) := by decide +kernel
theorem d_NT_isUse_4 : decode b_NT_isUse 4 = .ok (.iload_n 1, 1) := by decide +kernel
theorem d_NT_isUse_5 : decode b_NT_isUse 5 = .ok (.aaload, 1) := by decide +kernel
theorem d_NT_isUse_6 : decode b_NT_isUse 6 = .ok (.getfield 125, 3) := by decide +kernel
theorem d_NT_isUse_9 : decode b_NT_isUse 9 = .ok (.iload_n 2, 1) := by decide +kernel
theorem d_NT_isUse_10 : decode b_NT_isUse 10 = .ok (.iaload, 1) := by decide +kernel
theorem d_NT_isUse_11 : decode b_NT_isUse 11 = .ok (.istore_n 3, 1) := by decide +kernel
theorem d_NT_isUse_12 : decode b_NT_isUse 12 = .ok (.iload_n 3, 1) := by decide +kernel
theorem d_NT_isUse_13 : decode b_NT_isUse 13 = .ok (.iconst (-1), 1) := by decide +kernel
theorem d_NT_isUse_14 : decode b_NT_isUse 14 = .ok (.if_icmp .eq 12, 3) := by decide +kernel
theorem d_NT_isUse_17 : decode b_NT_isUse 17 = .ok (.aload_n 0, 1) := by decide +kernel
theorem d_NT_isUse_18 : decode b_NT_isUse 18 = .ok (.iload_n 1, 1) := by decide +kernel
theorem d_NT_isUse_19 : decode b_NT_isUse 19 = .ok (.iload_n 3, 1) := by decide +kernel
theorem d_NT_isUse_20 : decode b_NT_isUse 20 = .ok (.invokevirtual 89, 3) := by decide +kernel
theorem d_NT_isUse_23 : decode b_NT_isUse 23 = .ok (.ifCond .eq 7, 3) := by decide +kernel
theorem d_NT_isUse_26 : decode b_NT_isUse 26 = .ok (.iconst 1, 1) := by decide +kernel
theorem d_NT_isUse_27 : decode b_NT_isUse 27 = .ok (.goto 4, 3) := by decide +kernel
theorem d_NT_isUse_30 : decode b_NT_isUse 30 = .ok (.iconst 0, 1) := by decide +kernel
theorem d_NT_isUse_31 : decode b_NT_isUse 31 = .ok (.ireturn, 1) := by decide +kernel
theorem d_NT_keepWorking_0 : decode b_NT_keepWorking 0 = .ok (.aload_n 0, 1) := by decide +kernel
theorem d_NT_keepWorking_1 : decode b_NT_keepWorking 1 = .ok (.getfield 36, 3) := by decide +kernel
theorem d_NT_keepWorking_4 : decode b_NT_keepWorking 4 = .ok (.arraylength, 1) := by decide +kernel
theorem d_NT_keepWorking_5 : decode b_NT_keepWorking 5 = .ok (.iconst 1, 1) := by decide +kernel
theorem d_NT_keepWorking_6 : decode b_NT_keepWorking 6 = .ok (.isub, 1) := by decide +kernel
theorem d_NT_keepWorking_7 : decode b_NT_keepWorking 7 = .ok (.istore_n 1, 1) := by decide +kernel
theorem d_NT_keepWorking_8 : decode b_NT_keepWorking 8 = .ok (.aload_n 0, 1) := by decide +kernel
theorem d_NT_keepWorking_9 : decode b_NT_keepWorking 9 = .ok (.getfield 36, 3) := by decide +kernel
theorem d_NT_keepWorking_12 : decode b_NT_keepWorking 12 = .ok (.iload_n 1, 1) := by decide +kernel
theorem d_NT_keepWorking_13 : decode b_NT_keepWorking 13 = .ok (.aaload, 1) := by decide +kernel
theorem d_NT_keepWorking_14 : decode b_NT_keepWorking 14 = .ok (.astore_n 2, 1) := by decide +kernel
theorem d_NT_keepWorking_15 : decode b_NT_keepWorking 15 = .ok (.iload_n 1, 1) := by decide +kernel
theorem d_NT_keepWorking_16 : decode b_NT_keepWorking 16 = .ok (.istore_n 3, 1) := by decide +kernel
theorem d_NT_keepWorking_17 : decode b_NT_keepWorking 17 = .ok (.iload_n 3, 1) := by decide +kernel
theorem d_NT_keepWorking_18 : decode b_NT_keepWorking 18 = .ok (.ifCond .le 23, 3) := by decide +kernel
theorem d_NT_keepWorking_21 : decode b_NT_keepWorking 21 = .ok (.aload_n 0, 1) := by decide +kernel
theorem d_NT_keepWorking_22 : decode b_NT_keepWorking 22 = .ok (.getfield 36, 3) := by decide +kernel
theorem d_NT_keepWorking_25 : decode b_NT_keepWorking 25 = .ok (.iload_n 3, 1) := by decide +kernel
theorem d_NT_keepWorking_26 : decode b_NT_keepWorking 26 = .ok (.aload_n 0, 1) := by decide +kernel
theorem d_NT_keepWorking_27 : decode b_NT_keepWorking 27 = .ok (.getfield 36, 3) := by decide +kernel
theorem d_NT_keepWorking_30 : decode b_NT_keepWorking 30 = .ok (.iload_n 3, 1) := by decide +kernel
theorem d_NT_keepWorking_31 : decode b_NT_keepWorking 31 = .ok (.iconst 1, 1) := by decide +kernel
theorem d_NT_keepWorking_32 : decode b_NT_keepWorking 32 = .ok (.isub, 1) := by decide +kernel
theorem d_NT_keepWorking_33 : decode b_NT_keepWorking 33 = .ok (.aaload, 1) := by decide +kernel
theorem d_NT_keepWorking_34 : decode b_NT_keepWorking 34 = .ok (.aastore, 1) := by decide +kernel
theorem d_NT_keepWorking_35 : decode b_NT_keepWorking 35 = .ok (.iinc 3 (-1), 3) := by decide +kernel
theorem d_NT_keepWorking_38 : decode b_NT_keepWorking 38 = .ok (.goto (-21), 3) := by decide +kernel
theorem d_NT_keepWorking_41 : decode b_NT_keepWorking 41 = .ok (.aload_n 0, 1) := by decide +kernel
theorem d_NT_keepWorking_42 : decode b_NT_keepWorking 42 = .ok (.getfield 36, 3) := by decide +kernel
theorem d_NT_keepWorking_45 : decode b_NT_keepWorking 45 = .ok (.iconst 0, 1) := by decide +kernel
theorem d_NT_keepWorking_46 : decode b_NT_keepWorking 46 = .ok (.aload_n 2, 1) := by decide +kernel
theorem d_NT_keepWorking_47 : decode b_NT_keepWorking 47 = .ok (.aastore, 1) := by decide +kernel
theorem d_NT_keepWorking_48 : decode b_NT_keepWorking 48 = .ok (.aload_n 2, 1) := by decide +kernel
theorem d_NT_keepWorking_49 : decode b_NT_keepWorking 49 = .ok (.aload_n 0, 1) := by decide +kernel
theorem d_NT_keepWorking_50 : decode b_NT_keepWorking 50 = .ok (.getfield 12, 3) := by decide +kernel
theorem d_NT_keepWorking_53 : decode b_NT_keepWorking 53 = .ok (.invokevirtual 129, 3) := by decide +kernel
theorem d_NT_keepWorking_56 : decode b_NT_keepWorking 56 = .ok (.aload_n 0, 1) := by decide +kernel
theorem d_NT_keepWorking_57 : decode b_NT_keepWorking 57 = .ok (.aload_n 0, 1) := by decide +kernel
theorem d_NT_keepWorking_58 : decode b_NT_keepWorking 58 = .ok (.getfield 16, 3) := by decide +kernel
theorem d_NT_keepWorking_61 : decode b_NT_keepWorking 61 = .ok (.iconst 1, 1) := by decide +kernel
theorem d_NT_keepWorking_62 : decode b_NT_keepWorking 62 = .ok (.iadd, 1) := by decide +kernel
theorem d_NT_keepWorking_63 : decode b_NT_keepWorking 63 = .ok (.aload_n 0, 1) := by decide +kernel
theorem d_NT_keepWorking_64 : decode b_NT_keepWorking 64 = .ok (.getfield 36, 3) := by decide +kernel
theorem d_NT_keepWorking_67 : decode b_NT_keepWorking 67 = .ok (.arraylength, 1) := by decide +kernel
theorem d_NT_keepWorking_68 : decode b_NT_keepWorking 68 = .ok (.invokestatic 27, 3) := by decide +kernel
theorem d_NT_keepWorking_71 : decode b_NT_keepWorking 71 = .ok (.putfield 16, 3) := by decide +kernel
theorem d_NT_keepWorking_74 : decode b_NT_keepWorking 74 = .ok (.return_, 1) := by decide +kernel
theorem d_NT_goDown_0 : decode b_NT_goDown 0 = .ok (.aload_n 0, 1) := by decide +kernel
theorem d_NT_goDown_1 : decode b_NT_goDown 1 = .ok (.getfield 12, 3) := by decide +kernel
theorem d_NT_goDown_4 : decode b_NT_goDown 4 = .ok (.aload_n 0, 1) := by decide +kernel
theorem d_NT_goDown_5 : decode b_NT_goDown 5 = .ok (.getfield 36, 3) := by decide +kernel
theorem d_NT_goDown_8 : decode b_NT_goDown 8 = .ok (.iconst 0, 1) := by decide +kernel
theorem d_NT_goDown_9 : decode b_NT_goDown 9 = .ok (.aaload, 1) := by decide +kernel
theorem d_NT_goDown_10 : decode b_NT_goDown 10 = .ok (.invokevirtual 129, 3) := by decide +kernel
theorem d_NT_goDown_13 : decode b_NT_goDown 13 = .ok (.return_, 1) := by decide +kernel
theorem d_NT_digest_0 : decode b_NT_digest 0 = .ok (.iload_n 2, 1) := by decide +kernel
theorem d_NT_digest_1 : decode b_NT_digest 1 = .ok (.i2l, 1) := by decide +kernel
theorem d_NT_digest_2 : decode b_NT_digest 2 = .ok (.lstore_n 3, 1) := by decide +kernel
theorem d_NT_digest_3 : decode b_NT_digest 3 = .ok (.iload_n 1, 1) := by decide +kernel
theorem d_NT_digest_4 : decode b_NT_digest 4 = .ok (.istore 5, 2) := by decide +kernel
theorem d_NT_digest_6 : decode b_NT_digest 6 = .ok (.iload 5, 2) := by decide +kernel
theorem d_NT_digest_8 : decode b_NT_digest 8 = .ok (.iload_n 1, 1) := by decide +kernel
theorem d_NT_digest_9 : decode b_NT_digest 9 = .ok (.iload_n 2, 1) := by decide +kernel
theorem d_NT_digest_10 : decode b_NT_digest 10 = .ok (.iadd, 1) := by decide +kernel
theorem d_NT_digest_11 : decode b_NT_digest 11 = .ok (.if_icmp .ge 27, 3) := by decide +kernel
theorem d_NT_digest_14 : decode b_NT_digest 14 = .ok (.lload_n 3, 1) := by decide +kernel
theorem d_NT_digest_15 : decode b_NT_digest 15 = .ok (.aload_n 0, 1) := by decide +kernel
theorem d_NT_digest_16 : decode b_NT_digest 16 = .ok (.iload 5, 2) := by decide +kernel
theorem d_NT_digest_18 : decode b_NT_digest 18 = .ok (.laload, 1) := by decide +kernel
theorem d_NT_digest_19 : decode b_NT_digest 19 = .ok (.lxor, 1) := by decide +kernel
theorem d_NT_digest_20 : decode b_NT_digest 20 = .ok (.ldc2_w 133, 3) := by decide +kernel
theorem d_NT_digest_23 : decode b_NT_digest 23 = .ok (.lmul, 1) := by decide +kernel
theorem d_NT_digest_24 : decode b_NT_digest 24 = .ok (.lstore_n 3, 1) := by decide +kernel
theorem d_NT_digest_25 : decode b_NT_digest 25 = .ok (.lload_n 3, 1) := by decide +kernel
theorem d_NT_digest_26 : decode b_NT_digest 26 = .ok (.lload_n 3, 1) := by decide +kernel
theorem d_NT_digest_27 : decode b_NT_digest 27 = .ok (.bipush 29, 2) := by decide +kernel
theorem d_NT_digest_29 : decode b_NT_digest 29 = .ok (.lushr, 1) := by decide +kernel
theorem d_NT_digest_30 : decode b_NT_digest 30 = .ok (.lxor, 1) := by decide +kernel
theorem d_NT_digest_31 : decode b_NT_digest 31 = .ok (.lstore_n 3, 1) := by decide +kernel
theorem d_NT_digest_32 : decode b_NT_digest 32 = .ok (.iinc 5 1, 3) := by decide +kernel
theorem d_NT_digest_35 : decode b_NT_digest 35 = .ok (.goto (-29), 3) := by decide +kernel
theorem d_NT_digest_38 : decode b_NT_digest 38 = .ok (.lload_n 3, 1) := by decide +kernel
theorem d_NT_digest_39 : decode b_NT_digest 39 = .ok (.lreturn, 1) := by decide +kernel
theorem d_MO_nibbles_0 : decode b_MO_nibbles 0 = .ok (.iload_n 0, 1) := by decide +kernel
theorem d_MO_nibbles_1 : decode b_MO_nibbles 1 = .ok (.iconst 1, 1) := by decide +kernel
theorem d_MO_nibbles_2 : decode b_MO_nibbles 2 = .ok (.if_icmp .ne 7, 3) := by decide +kernel
theorem d_MO_nibbles_5 : decode b_MO_nibbles 5 = .ok (.iconst 0, 1) := by decide +kernel
theorem d_MO_nibbles_6 : decode b_MO_nibbles 6 = .ok (.goto 72, 3) := by decide +kernel
theorem d_MO_nibbles_9 : decode b_MO_nibbles 9 = .ok (.iload_n 0, 1) := by decide +kernel
theorem d_MO_nibbles_10 : decode b_MO_nibbles 10 = .ok (.bipush 16, 2) := by decide +kernel
theorem d_MO_nibbles_12 : decode b_MO_nibbles 12 = .ok (.if_icmp .lt 13, 3) := by decide +kernel
theorem d_MO_nibbles_15 : decode b_MO_nibbles 15 = .ok (.iload_n 0, 1) := by decide +kernel
theorem d_MO_nibbles_16 : decode b_MO_nibbles 16 = .ok (.bipush 32, 2) := by decide +kernel
theorem d_MO_nibbles_18 : decode b_MO_nibbles 18 = .ok (.if_icmp .ge 7, 3) := by decide +kernel
theorem d_MO_nibbles_21 : decode b_MO_nibbles 21 = .ok (.iconst 1, 1) := by decide +kernel
theorem d_MO_nibbles_22 : decode b_MO_nibbles 22 = .ok (.goto 56, 3) := by decide +kernel
theorem d_MO_nibbles_25 : decode b_MO_nibbles 25 = .ok (.iload_n 0, 1) := by decide +kernel
theorem d_MO_nibbles_26 : decode b_MO_nibbles 26 = .ok (.sipush 256, 3) := by decide +kernel
theorem d_MO_nibbles_29 : decode b_MO_nibbles 29 = .ok (.if_icmp .lt 14, 3) := by decide +kernel
theorem d_MO_nibbles_32 : decode b_MO_nibbles 32 = .ok (.iload_n 0, 1) := by decide +kernel
theorem d_MO_nibbles_33 : decode b_MO_nibbles 33 = .ok (.sipush 512, 3) := by decide +kernel
theorem d_MO_nibbles_36 : decode b_MO_nibbles 36 = .ok (.if_icmp .ge 7, 3) := by decide +kernel
theorem d_MO_nibbles_39 : decode b_MO_nibbles 39 = .ok (.iconst 2, 1) := by decide +kernel
theorem d_MO_nibbles_40 : decode b_MO_nibbles 40 = .ok (.goto 38, 3) := by decide +kernel
theorem d_MO_nibbles_43 : decode b_MO_nibbles 43 = .ok (.iload_n 0, 1) := by decide +kernel
theorem d_MO_nibbles_44 : decode b_MO_nibbles 44 = .ok (.sipush 4096, 3) := by decide +kernel
theorem d_MO_nibbles_47 : decode b_MO_nibbles 47 = .ok (.if_icmp .lt 14, 3) := by decide +kernel
theorem d_MO_nibbles_50 : decode b_MO_nibbles 50 = .ok (.iload_n 0, 1) := by decide +kernel
theorem d_MO_nibbles_51 : decode b_MO_nibbles 51 = .ok (.sipush 8192, 3) := by decide +kernel
theorem d_MO_nibbles_54 : decode b_MO_nibbles 54 = .ok (.if_icmp .ge 7, 3) := by decide +kernel
theorem d_MO_nibbles_57 : decode b_MO_nibbles 57 = .ok (.iconst 3, 1) := by decide +kernel
theorem d_MO_nibbles_58 : decode b_MO_nibbles 58 = .ok (.goto 20, 3) := by decide +kernel
theorem d_MO_nibbles_61 : decode b_MO_nibbles 61 = .ok (.iload_n 0, 1) := by decide +kernel
theorem d_MO_nibbles_62 : decode b_MO_nibbles 62 = .ok (.ldc 39, 2) := by decide +kernel
theorem d_MO_nibbles_64 : decode b_MO_nibbles 64 = .ok (.if_icmp .lt 13, 3) := by decide +kernel
theorem d_MO_nibbles_67 : decode b_MO_nibbles 67 = .ok (.iload_n 0, 1) := by decide +kernel
theorem d_MO_nibbles_68 : decode b_MO_nibbles 68 = .ok (.ldc 40, 2) := by decide +kernel
theorem d_MO_nibbles_70 : decode b_MO_nibbles 70 = .ok (.if_icmp .ge 7, 3) := by decide +kernel
theorem d_MO_nibbles_73 : decode b_MO_nibbles 73 = .ok (.iconst 4, 1) := by decide +kernel
theorem d_MO_nibbles_74 : decode b_MO_nibbles 74 = .ok (.goto 4, 3) := by decide +kernel
theorem d_MO_nibbles_77 : decode b_MO_nibbles 77 = .ok (.iconst (-1), 1) := by decide +kernel
theorem d_MO_nibbles_78 : decode b_MO_nibbles 78 = .ok (.ireturn, 1) := by decide +kernel
theorem d_MO_begins_0 : decode b_MO_begins 0 = .ok (.iload_n 0, 1) := by decide +kernel
theorem d_MO_begins_1 : decode b_MO_begins 1 = .ok (.invokestatic 41, 3) := by decide +kernel
theorem d_MO_begins_4 : decode b_MO_begins 4 = .ok (.iload_n 1, 1) := by decide +kernel
theorem d_MO_begins_5 : decode b_MO_begins 5 = .ok (.invokestatic 41, 3) := by decide +kernel
theorem d_MO_begins_8 : decode b_MO_begins 8 = .ok (.isub, 1) := by decide +kernel
theorem d_MO_begins_9 : decode b_MO_begins 9 = .ok (.istore_n 2, 1) := by decide +kernel
theorem d_MO_begins_10 : decode b_MO_begins 10 = .ok (.iload_n 2, 1) := by decide +kernel
theorem d_MO_begins_11 : decode b_MO_begins 11 = .ok (.ifCond .lt 16, 3) := by decide +kernel
theorem d_MO_begins_14 : decode b_MO_begins 14 = .ok (.iload_n 0, 1) := by decide +kernel
theorem d_MO_begins_15 : decode b_MO_begins 15 = .ok (.iconst 4, 1) := by decide +kernel
theorem d_MO_begins_16 : decode b_MO_begins 16 = .ok (.iload_n 2, 1) := by decide +kernel
theorem d_MO_begins_17 : decode b_MO_begins 17 = .ok (.imul, 1) := by decide +kernel
theorem d_MO_begins_18 : decode b_MO_begins 18 = .ok (.ishr, 1) := by decide +kernel
theorem d_MO_begins_19 : decode b_MO_begins 19 = .ok (.iload_n 1, 1) := by decide +kernel
theorem d_MO_begins_20 : decode b_MO_begins 20 = .ok (.if_icmp .ne 7, 3) := by decide +kernel
theorem d_MO_begins_23 : decode b_MO_begins 23 = .ok (.iconst 1, 1) := by decide +kernel
theorem d_MO_begins_24 : decode b_MO_begins 24 = .ok (.goto 4, 3) := by decide +kernel
theorem d_MO_begins_27 : decode b_MO_begins 27 = .ok (.iconst 0, 1) := by decide +kernel
theorem d_MO_begins_28 : decode b_MO_begins 28 = .ok (.ireturn, 1) := by decide +kernel
theorem d_MO_behind_0 : decode b_MO_behind 0 = .ok (.iconst 4, 1) := by decide +kernel
theorem d_MO_behind_1 : decode b_MO_behind 1 = .ok (.iload_n 0, 1) := by decide +kernel
theorem d_MO_behind_2 : decode b_MO_behind 2 = .ok (.invokestatic 41, 3) := by decide +kernel
theorem d_MO_behind_5 : decode b_MO_behind 5 = .ok (.iload_n 1, 1) := by decide +kernel
theorem d_MO_behind_6 : decode b_MO_behind 6 = .ok (.invokestatic 41, 3) := by decide +kernel
theorem d_MO_behind_9 : decode b_MO_behind 9 = .ok (.isub, 1) := by decide +kernel
theorem d_MO_behind_10 : decode b_MO_behind 10 = .ok (.imul, 1) := by decide +kernel
theorem d_MO_behind_11 : decode b_MO_behind 11 = .ok (.istore_n 2, 1) := by decide +kernel
theorem d_MO_behind_12 : decode b_MO_behind 12 = .ok (.iload_n 0, 1) := by decide +kernel
theorem d_MO_behind_13 : decode b_MO_behind 13 = .ok (.iload_n 1, 1) := by decide +kernel
theorem d_MO_behind_14 : decode b_MO_behind 14 = .ok (.iload_n 2, 1) := by decide +kernel
theorem d_MO_behind_15 : decode b_MO_behind 15 = .ok (.ishl, 1) := by decide +kernel
theorem d_MO_behind_16 : decode b_MO_behind 16 = .ok (.isub, 1) := by decide +kernel
theorem d_MO_behind_17 : decode b_MO_behind 17 = .ok (.iconst 1, 1) := by decide +kernel
theorem d_MO_behind_18 : decode b_MO_behind 18 = .ok (.iload_n 2, 1) := by decide +kernel
theorem d_MO_behind_19 : decode b_MO_behind 19 = .ok (.ishl, 1) := by decide +kernel
theorem d_MO_behind_20 : decode b_MO_behind 20 = .ok (.iadd, 1) := by decide +kernel
theorem d_MO_behind_21 : decode b_MO_behind 21 = .ok (.ireturn, 1) := by decide +kernel
theorem d_MO_find_0 : decode b_MO_find 0 = .ok (.iconst 0, 1) := by decide +kernel
theorem d_MO_find_1 : decode b_MO_find 1 = .ok (.istore_n 3, 1) := by decide +kernel
theorem d_MO_find_2 : decode b_MO_find 2 = .ok (.iload_n 3, 1) := by decide +kernel
theorem d_MO_find_3 : decode b_MO_find 3 = .ok (.aload_n 0, 1) := by decide +kernel
theorem d_MO_find_4 : decode b_MO_find 4 = .ok (.getfield 16, 3) := by decide +kernel
theorem d_MO_find_7 : decode b_MO_find 7 = .ok (.iload_n 1, 1) := by decide +kernel
theorem d_MO_find_8 : decode b_MO_find 8 = .ok (.iaload, 1) := by decide +kernel
theorem d_MO_find_9 : decode b_MO_find 9 = .ok (.if_icmp .ge 31, 3) := by decide +kernel
theorem d_MO_find_12 : decode b_MO_find 12 = .ok (.aload_n 0, 1) := by decide +kernel
theorem d_MO_find_13 : decode b_MO_find 13 = .ok (.getfield 7, 3) := by decide +kernel
theorem d_MO_find_16 : decode b_MO_find 16 = .ok (.bipush 16, 2) := by decide +kernel
theorem d_MO_find_18 : decode b_MO_find 18 = .ok (.iload_n 1, 1) := by decide +kernel
theorem d_MO_find_19 : decode b_MO_find 19 = .ok (.imul, 1) := by decide +kernel
theorem d_MO_find_20 : decode b_MO_find 20 = .ok (.iload_n 3, 1) := by decide +kernel
theorem d_MO_find_21 : decode b_MO_find 21 = .ok (.iadd, 1) := by decide +kernel
theorem d_MO_find_22 : decode b_MO_find 22 = .ok (.iaload, 1) := by decide +kernel
theorem d_MO_find_23 : decode b_MO_find 23 = .ok (.iload_n 2, 1) := by decide +kernel
theorem d_MO_find_24 : decode b_MO_find 24 = .ok (.if_icmp .ne 10, 3) := by decide +kernel
theorem d_MO_find_27 : decode b_MO_find 27 = .ok (.bipush 16, 2) := by decide +kernel
theorem d_MO_find_29 : decode b_MO_find 29 = .ok (.iload_n 1, 1) := by decide +kernel
theorem d_MO_find_30 : decode b_MO_find 30 = .ok (.imul, 1) := by decide +kernel
theorem d_MO_find_31 : decode b_MO_find 31 = .ok (.iload_n 3, 1) := by decide +kernel
theorem d_MO_find_32 : decode b_MO_find 32 = .ok (.iadd, 1) := by decide +kernel
theorem d_MO_find_33 : decode b_MO_find 33 = .ok (.ireturn, 1) := by decide +kernel
theorem d_MO_find_34 : decode b_MO_find 34 = .ok (.iinc 3 1, 3) := by decide +kernel
theorem d_MO_find_37 : decode b_MO_find 37 = .ok (.goto (-35), 3) := by decide +kernel
theorem d_MO_find_40 : decode b_MO_find 40 = .ok (.iconst (-1), 1) := by decide +kernel
theorem d_MO_find_41 : decode b_MO_find 41 = .ok (.ireturn, 1) := by decide +kernel
theorem d_MO_copy_0 : decode b_MO_copy 0 = .ok (.aload_n 0, 1) := by decide +kernel
theorem d_MO_copy_1 : decode b_MO_copy 1 = .ok (.getfield 16, 3) := by decide +kernel
theorem d_MO_copy_4 : decode b_MO_copy 4 = .ok (.iload_n 2, 1) := by decide +kernel
theorem d_MO_copy_5 : decode b_MO_copy 5 = .ok (.aload_n 0, 1) := by decide +kernel
theorem d_MO_copy_6 : decode b_MO_copy 6 = .ok (.getfield 16, 3) := by decide +kernel
theorem d_MO_copy_9 : decode b_MO_copy 9 = .ok (.iload_n 1, 1) := by decide +kernel
theorem d_MO_copy_10 : decode b_MO_copy 10 = .ok (.iaload, 1) := by decide +kernel
theorem d_MO_copy_11 : decode b_MO_copy 11 = .ok (.iastore, 1) := by decide +kernel
theorem d_MO_copy_12 : decode b_MO_copy 12 = .ok (.aload_n 0, 1) := by decide +kernel
theorem d_MO_copy_13 : decode b_MO_copy 13 = .ok (.getfield 26, 3) := by decide +kernel
theorem d_MO_copy_16 : decode b_MO_copy 16 = .ok (.iload_n 2, 1) := by decide +kernel
theorem d_MO_copy_17 : decode b_MO_copy 17 = .ok (.aload_n 0, 1) := by decide +kernel
theorem d_MO_copy_18 : decode b_MO_copy 18 = .ok (.getfield 26, 3) := by decide +kernel
theorem d_MO_copy_21 : decode b_MO_copy 21 = .ok (.iload_n 1, 1) := by decide +kernel
theorem d_MO_copy_22 : decode b_MO_copy 22 = .ok (.iaload, 1) := by decide +kernel
theorem d_MO_copy_23 : decode b_MO_copy 23 = .ok (.iastore, 1) := by decide +kernel
theorem d_MO_copy_24 : decode b_MO_copy 24 = .ok (.iconst 0, 1) := by decide +kernel
theorem d_MO_copy_25 : decode b_MO_copy 25 = .ok (.istore_n 3, 1) := by decide +kernel
theorem d_MO_copy_26 : decode b_MO_copy 26 = .ok (.iload_n 3, 1) := by decide +kernel
theorem d_MO_copy_27 : decode b_MO_copy 27 = .ok (.bipush 16, 2) := by decide +kernel
theorem d_MO_copy_29 : decode b_MO_copy 29 = .ok (.if_icmp .ge 97, 3) := by decide +kernel
theorem d_MO_copy_32 : decode b_MO_copy 32 = .ok (.aload_n 0, 1) := by decide +kernel
theorem d_MO_copy_33 : decode b_MO_copy 33 = .ok (.getfield 7, 3) := by decide +kernel
theorem d_MO_copy_36 : decode b_MO_copy 36 = .ok (.bipush 16, 2) := by decide +kernel
theorem d_MO_copy_38 : decode b_MO_copy 38 = .ok (.iload_n 2, 1) := by decide +kernel
theorem d_MO_copy_39 : decode b_MO_copy 39 = .ok (.imul, 1) := by decide +kernel
theorem d_MO_copy_40 : decode b_MO_copy 40 = .ok (.iload_n 3, 1) := by decide +kernel
theorem d_MO_copy_41 : decode b_MO_copy 41 = .ok (.iadd, 1) := by decide +kernel
theorem d_MO_copy_42 : decode b_MO_copy 42 = .ok (.aload_n 0, 1) := by decide +kernel
theorem d_MO_copy_43 : decode b_MO_copy 43 = .ok (.getfield 7, 3) := by decide +kernel
theorem d_MO_copy_46 : decode b_MO_copy 46 = .ok (.bipush 16, 2) := by decide +kernel
theorem d_MO_copy_48 : decode b_MO_copy 48 = .ok (.iload_n 1, 1) := by decide +kernel
theorem d_MO_copy_49 : decode b_MO_copy 49 = .ok (.imul, 1) := by decide +kernel
theorem d_MO_copy_50 : decode b_MO_copy 50 = .ok (.iload_n 3, 1) := by decide +kernel
theorem d_MO_copy_51 : decode b_MO_copy 51 = .ok (.iadd, 1) := by decide +kernel
theorem d_MO_copy_52 : decode b_MO_copy 52 = .ok (.iaload, 1) := by decide +kernel
theorem d_MO_copy_53 : decode b_MO_copy 53 = .ok (.iastore, 1) := by decide +kernel
theorem d_MO_copy_54 : decode b_MO_copy 54 = .ok (.aload_n 0, 1) := by decide +kernel
theorem d_MO_copy_55 : decode b_MO_copy 55 = .ok (.getfield 13, 3) := by decide +kernel
theorem d_MO_copy_58 : decode b_MO_copy 58 = .ok (.bipush 16, 2) := by decide +kernel
theorem d_MO_copy_60 : decode b_MO_copy 60 = .ok (.iload_n 2, 1) := by decide +kernel
theorem d_MO_copy_61 : decode b_MO_copy 61 = .ok (.imul, 1) := by decide +kernel
theorem d_MO_copy_62 : decode b_MO_copy 62 = .ok (.iload_n 3, 1) := by decide +kernel
theorem d_MO_copy_63 : decode b_MO_copy 63 = .ok (.iadd, 1) := by decide +kernel
theorem d_MO_copy_64 : decode b_MO_copy 64 = .ok (.aload_n 0, 1) := by decide +kernel
theorem d_MO_copy_65 : decode b_MO_copy 65 = .ok (.getfield 13, 3) := by decide +kernel
theorem d_MO_copy_68 : decode b_MO_copy 68 = .ok (.bipush 16, 2) := by decide +kernel
theorem d_MO_copy_70 : decode b_MO_copy 70 = .ok (.iload_n 1, 1) := by decide +kernel
theorem d_MO_copy_71 : decode b_MO_copy 71 = .ok (.imul, 1) := by decide +kernel
theorem d_MO_copy_72 : decode b_MO_copy 72 = .ok (.iload_n 3, 1) := by decide +kernel
theorem d_MO_copy_73 : decode b_MO_copy 73 = .ok (.iadd, 1) := by decide +kernel
theorem d_MO_copy_74 : decode b_MO_copy 74 = .ok (.iaload, 1) := by decide +kernel
theorem d_MO_copy_75 : decode b_MO_copy 75 = .ok (.iastore, 1) := by decide +kernel
theorem d_MO_copy_76 : decode b_MO_copy 76 = .ok (.aload_n 0, 1) := by decide +kernel
theorem d_MO_copy_77 : decode b_MO_copy 77 = .ok (.getfield 19, 3) := by decide +kernel
theorem d_MO_copy_80 : decode b_MO_copy 80 = .ok (.bipush 16, 2) := by decide +kernel
theorem d_MO_copy_82 : decode b_MO_copy 82 = .ok (.iload_n 2, 1) := by decide +kernel
theorem d_MO_copy_83 : decode b_MO_copy 83 = .ok (.imul, 1) := by decide +kernel
theorem d_MO_copy_84 : decode b_MO_copy 84 = .ok (.iload_n 3, 1) := by decide +kernel
theorem d_MO_copy_85 : decode b_MO_copy 85 = .ok (.iadd, 1) := by decide +kernel
theorem d_MO_copy_86 : decode b_MO_copy 86 = .ok (.aload_n 0, 1) := by decide +kernel
theorem d_MO_copy_87 : decode b_MO_copy 87 = .ok (.getfield 19, 3) := by decide +kernel
theorem d_MO_copy_90 : decode b_MO_copy 90 = .ok (.bipush 16, 2) := by decide +kernel
theorem d_MO_copy_92 : decode b_MO_copy 92 = .ok (.iload_n 1, 1) := by decide +kernel
theorem d_MO_copy_93 : decode b_MO_copy 93 = .ok (.imul, 1) := by decide +kernel
theorem d_MO_copy_94 : decode b_MO_copy 94 = .ok (.iload_n 3, 1) := by decide +kernel
theorem d_MO_copy_95 : decode b_MO_copy 95 = .ok (.iadd, 1) := by decide +kernel
theorem d_MO_copy_96 : decode b_MO_copy 96 = .ok (.iaload, 1) := by decide +kernel
theorem d_MO_copy_97 : decode b_MO_copy 97 = .ok (.iastore, 1) := by decide +kernel
theorem d_MO_copy_98 : decode b_MO_copy 98 = .ok (.aload_n 0, 1) := by decide +kernel
theorem d_MO_copy_99 : decode b_MO_copy 99 = .ok (.getfield 22, 3) := by decide +kernel
theorem d_MO_copy_102 : decode b_MO_copy 102 = .ok (.bipush 16, 2) := by decide +kernel
theorem d_MO_copy_104 : decode b_MO_copy 104 = .ok (.iload_n 2, 1) := by decide +kernel
theorem d_MO_copy_105 : decode b_MO_copy 105 = .ok (.imul, 1) := by decide +kernel
theorem d_MO_copy_106 : decode b_MO_copy 106 = .ok (.iload_n 3, 1) := by decide +kernel
theorem d_MO_copy_107 : decode b_MO_copy 107 = .ok (.iadd, 1) := by decide +kernel
theorem d_MO_copy_108 : decode b_MO_copy 108 = .ok (.aload_n 0, 1) := by decide +kernel
theorem d_MO_copy_109 : decode b_MO_copy 109 = .ok (.getfield 22, 3) := by decide +kernel
theorem d_MO_copy_112 : decode b_MO_copy 112 = .ok (.bipush 16, 2) := by decide +kernel
theorem d_MO_copy_114 : decode b_MO_copy 114 = .ok (.iload_n 1, 1) := by decide +kernel
theorem d_MO_copy_115 : decode b_MO_copy 115 = .ok (.imul, 1) := by decide +kernel
theorem d_MO_copy_116 : decode b_MO_copy 116 = .ok (.iload_n 3, 1) := by decide +kernel
theorem d_MO_copy_117 : decode b_MO_copy 117 = .ok (.iadd, 1) := by decide +kernel
theorem d_MO_copy_118 : decode b_MO_copy 118 = .ok (.laload, 1) := by decide +kernel
theorem d_MO_copy_119 : decode b_MO_copy 119 = .ok (.lastore, 1) := by decide +kernel
theorem d_MO_copy_120 : decode b_MO_copy 120 = .ok (.iinc 3 1, 3) := by decide +kernel
theorem d_MO_copy_123 : decode b_MO_copy 123 = .ok (.goto (-97), 3) := by decide +kernel
theorem d_MO_copy_126 : decode b_MO_copy 126 = .ok (.return_, 1) := by decide +kernel
theorem d_MO_put_0 : decode b_MO_put 0 = .ok (.iload_n 1, 1) := by decide +kernel
theorem d_MO_put_1 : decode b_MO_put 1 = .ok (.invokestatic 41, 3) := by decide +kernel
theorem d_MO_put_4 : decode b_MO_put 4 = .ok (.ifCond .ge 5, 3) := by decide +kernel
theorem d_MO_put_7 : decode b_MO_put 7 = .ok (.iconst 0, 1) := by decide +kernel
theorem d_MO_put_8 : decode b_MO_put 8 = .ok (.ireturn, 1) := by decide +kernel
theorem d_MO_put_9 : decode b_MO_put 9 = .ok (.aload_n 0, 1) := by decide +kernel
theorem d_MO_put_10 : decode b_MO_put 10 = .ok (.iconst 0, 1) := by decide +kernel
theorem d_MO_put_11 : decode b_MO_put 11 = .ok (.iload_n 1, 1) := by decide +kernel
theorem d_MO_put_12 : decode b_MO_put 12 = .ok (.invokevirtual 45, 3) := by decide +kernel
theorem d_MO_put_15 : decode b_MO_put 15 = .ok (.istore_n 3, 1) := by decide +kernel
theorem d_MO_put_16 : decode b_MO_put 16 = .ok (.iload_n 3, 1) := by decide +kernel
theorem d_MO_put_17 : decode b_MO_put 17 = .ok (.ifCond .ge 7, 3) := by decide +kernel
theorem d_MO_put_20 : decode b_MO_put 20 = .ok (.iconst 0, 1) := by decide +kernel
theorem d_MO_put_21 : decode b_MO_put 21 = .ok (.goto 9, 3) := by decide +kernel
theorem d_MO_put_24 : decode b_MO_put 24 = .ok (.aload_n 0, 1) := by decide +kernel
theorem d_MO_put_25 : decode b_MO_put 25 = .ok (.getfield 13, 3) := by decide +kernel
theorem d_MO_put_28 : decode b_MO_put 28 = .ok (.iload_n 3, 1) := by decide +kernel
theorem d_MO_put_29 : decode b_MO_put 29 = .ok (.iaload, 1) := by decide +kernel
theorem d_MO_put_30 : decode b_MO_put 30 = .ok (.istore 4, 2) := by decide +kernel
theorem d_MO_put_32 : decode b_MO_put 32 = .ok (.iload_n 3, 1) := by decide +kernel
theorem d_MO_put_33 : decode b_MO_put 33 = .ok (.ifCond .lt 54, 3) := by decide +kernel
theorem d_MO_put_36 : decode b_MO_put 36 = .ok (.iload_n 2, 1) := by decide +kernel
theorem d_MO_put_37 : decode b_MO_put 37 = .ok (.ifCond .ne 50, 3) := by decide +kernel
theorem d_MO_put_40 : decode b_MO_put 40 = .ok (.aload_n 0, 1) := by decide +kernel
theorem d_MO_put_41 : decode b_MO_put 41 = .ok (.getfield 16, 3) := by decide +kernel
theorem d_MO_put_44 : decode b_MO_put 44 = .ok (.iconst 0, 1) := by decide +kernel
theorem d_MO_put_45 : decode b_MO_put 45 = .ok (.dup2, 1) := by decide +kernel
theorem d_MO_put_46 : decode b_MO_put 46 = .ok (.iaload, 1) := by decide +kernel
theorem d_MO_put_47 : decode b_MO_put 47 = .ok (.iconst 1, 1) := by decide +kernel
theorem d_MO_put_48 : decode b_MO_put 48 = .ok (.isub, 1) := by decide +kernel
theorem d_MO_put_49 : decode b_MO_put 49 = .ok (.iastore, 1) := by decide +kernel
theorem d_MO_put_50 : decode b_MO_put 50 = .ok (.aload_n 0, 1) := by decide +kernel
theorem d_MO_put_51 : decode b_MO_put 51 = .ok (.getfield 7, 3) := by decide +kernel
theorem d_MO_put_54 : decode b_MO_put 54 = .ok (.iload_n 3, 1) := by decide +kernel
theorem d_MO_put_55 : decode b_MO_put 55 = .ok (.aload_n 0, 1) := by decide +kernel
theorem d_MO_put_56 : decode b_MO_put 56 = .ok (.getfield 7, 3) := by decide +kernel
theorem d_MO_put_59 : decode b_MO_put 59 = .ok (.aload_n 0, 1) := by decide +kernel
theorem d_MO_put_60 : decode b_MO_put 60 = .ok (.getfield 16, 3) := by decide +kernel
theorem d_MO_put_63 : decode b_MO_put 63 = .ok (.iconst 0, 1) := by decide +kernel
theorem d_MO_put_64 : decode b_MO_put 64 = .ok (.iaload, 1) := by decide +kernel
theorem d_MO_put_65 : decode b_MO_put 65 = .ok (.iaload, 1) := by decide +kernel
theorem d_MO_put_66 : decode b_MO_put 66 = .ok (.iastore, 1) := by decide +kernel
theorem d_MO_put_67 : decode b_MO_put 67 = .ok (.aload_n 0, 1) := by decide +kernel
theorem d_MO_put_68 : decode b_MO_put 68 = .ok (.getfield 13, 3) := by decide +kernel
theorem d_MO_put_71 : decode b_MO_put 71 = .ok (.iload_n 3, 1) := by decide +kernel
theorem d_MO_put_72 : decode b_MO_put 72 = .ok (.aload_n 0, 1) := by decide +kernel
theorem d_MO_put_73 : decode b_MO_put 73 = .ok (.getfield 13, 3) := by decide +kernel
theorem d_MO_put_76 : decode b_MO_put 76 = .ok (.aload_n 0, 1) := by decide +kernel
theorem d_MO_put_77 : decode b_MO_put 77 = .ok (.getfield 16, 3) := by decide +kernel
theorem d_MO_put_80 : decode b_MO_put 80 = .ok (.iconst 0, 1) := by decide +kernel
theorem d_MO_put_81 : decode b_MO_put 81 = .ok (.iaload, 1) := by decide +kernel
theorem d_MO_put_82 : decode b_MO_put 82 = .ok (.iaload, 1) := by decide +kernel
theorem d_MO_put_83 : decode b_MO_put 83 = .ok (.iastore, 1) := by decide +kernel
theorem d_MO_put_84 : decode b_MO_put 84 = .ok (.goto 66, 3) := by decide +kernel
theorem d_MO_put_87 : decode b_MO_put 87 = .ok (.iload_n 3, 1) := by decide +kernel
theorem d_MO_put_88 : decode b_MO_put 88 = .ok (.ifCond .lt 13, 3) := by decide +kernel
theorem d_MO_put_91 : decode b_MO_put 91 = .ok (.aload_n 0, 1) := by decide +kernel
theorem d_MO_put_92 : decode b_MO_put 92 = .ok (.getfield 13, 3) := by decide +kernel
theorem d_MO_put_95 : decode b_MO_put 95 = .ok (.iload_n 3, 1) := by decide +kernel
theorem d_MO_put_96 : decode b_MO_put 96 = .ok (.iload_n 2, 1) := by decide +kernel
theorem d_MO_put_97 : decode b_MO_put 97 = .ok (.iastore, 1) := by decide +kernel
theorem d_MO_put_98 : decode b_MO_put 98 = .ok (.goto 52, 3) := by decide +kernel
theorem d_MO_put_101 : decode b_MO_put 101 = .ok (.iload_n 2, 1) := by decide +kernel
theorem d_MO_put_102 : decode b_MO_put 102 = .ok (.ifCond .eq 48, 3) := by decide +kernel
theorem d_MO_put_105 : decode b_MO_put 105 = .ok (.aload_n 0, 1) := by decide +kernel
theorem d_MO_put_106 : decode b_MO_put 106 = .ok (.getfield 16, 3) := by decide +kernel
theorem d_MO_put_109 : decode b_MO_put 109 = .ok (.iconst 0, 1) := by decide +kernel
theorem d_MO_put_110 : decode b_MO_put 110 = .ok (.iaload, 1) := by decide +kernel
theorem d_MO_put_111 : decode b_MO_put 111 = .ok (.bipush 16, 2) := by decide +kernel
theorem d_MO_put_113 : decode b_MO_put 113 = .ok (.if_icmp .ge 37, 3) := by decide +kernel
theorem d_MO_put_116 : decode b_MO_put 116 = .ok (.aload_n 0, 1) := by decide +kernel
theorem d_MO_put_117 : decode b_MO_put 117 = .ok (.getfield 7, 3) := by decide +kernel
theorem d_MO_put_120 : decode b_MO_put 120 = .ok (.aload_n 0, 1) := by decide +kernel
theorem d_MO_put_121 : decode b_MO_put 121 = .ok (.getfield 16, 3) := by decide +kernel
theorem d_MO_put_124 : decode b_MO_put 124 = .ok (.iconst 0, 1) := by decide +kernel
theorem d_MO_put_125 : decode b_MO_put 125 = .ok (.iaload, 1) := by decide +kernel
theorem d_MO_put_126 : decode b_MO_put 126 = .ok (.iload_n 1, 1) := by decide +kernel
theorem d_MO_put_127 : decode b_MO_put 127 = .ok (.iastore, 1) := by decide +kernel
theorem d_MO_put_128 : decode b_MO_put 128 = .ok (.aload_n 0, 1) := by decide +kernel
theorem d_MO_put_129 : decode b_MO_put 129 = .ok (.getfield 13, 3) := by decide +kernel
theorem d_MO_put_132 : decode b_MO_put 132 = .ok (.aload_n 0, 1) := by decide +kernel
theorem d_MO_put_133 : decode b_MO_put 133 = .ok (.getfield 16, 3) := by decide +kernel
theorem d_MO_put_136 : decode b_MO_put 136 = .ok (.iconst 0, 1) := by decide +kernel
theorem d_MO_put_137 : decode b_MO_put 137 = .ok (.iaload, 1) := by decide +kernel
theorem d_MO_put_138 : decode b_MO_put 138 = .ok (.iload_n 2, 1) := by decide +kernel
theorem d_MO_put_139 : decode b_MO_put 139 = .ok (.iastore, 1) := by decide +kernel
theorem d_MO_put_140 : decode b_MO_put 140 = .ok (.aload_n 0, 1) := by decide +kernel
theorem d_MO_put_141 : decode b_MO_put 141 = .ok (.getfield 16, 3) := by decide +kernel
theorem d_MO_put_144 : decode b_MO_put 144 = .ok (.iconst 0, 1) := by decide +kernel
theorem d_MO_put_145 : decode b_MO_put 145 = .ok (.dup2, 1) := by decide +kernel
theorem d_MO_put_146 : decode b_MO_put 146 = .ok (.iaload, 1) := by decide +kernel
theorem d_MO_put_147 : decode b_MO_put 147 = .ok (.iconst 1, 1) := by decide +kernel
theorem d_MO_put_148 : decode b_MO_put 148 = .ok (.iadd, 1) := by decide +kernel
theorem d_MO_put_149 : decode b_MO_put 149 = .ok (.iastore, 1) := by decide +kernel
theorem d_MO_put_150 : decode b_MO_put 150 = .ok (.iload 4, 2) := by decide +kernel
theorem d_MO_put_152 : decode b_MO_put 152 = .ok (.ireturn, 1) := by decide +kernel
theorem d_MO_valueIn_0 : decode b_MO_valueIn 0 = .ok (.aload_n 0, 1) := by decide +kernel
theorem d_MO_valueIn_1 : decode b_MO_valueIn 1 = .ok (.iload_n 1, 1) := by decide +kernel
theorem d_MO_valueIn_2 : decode b_MO_valueIn 2 = .ok (.iload_n 2, 1) := by decide +kernel
theorem d_MO_valueIn_3 : decode b_MO_valueIn 3 = .ok (.invokevirtual 45, 3) := by decide +kernel
theorem d_MO_valueIn_6 : decode b_MO_valueIn 6 = .ok (.istore_n 3, 1) := by decide +kernel
theorem d_MO_valueIn_7 : decode b_MO_valueIn 7 = .ok (.iload_n 3, 1) := by decide +kernel
theorem d_MO_valueIn_8 : decode b_MO_valueIn 8 = .ok (.ifCond .ge 7, 3) := by decide +kernel
theorem d_MO_valueIn_11 : decode b_MO_valueIn 11 = .ok (.iconst 0, 1) := by decide +kernel
theorem d_MO_valueIn_12 : decode b_MO_valueIn 12 = .ok (.goto 9, 3) := by decide +kernel
theorem d_MO_valueIn_15 : decode b_MO_valueIn 15 = .ok (.aload_n 0, 1) := by decide +kernel
theorem d_MO_valueIn_16 : decode b_MO_valueIn 16 = .ok (.getfield 13, 3) := by decide +kernel
theorem d_MO_valueIn_19 : decode b_MO_valueIn 19 = .ok (.iload_n 3, 1) := by decide +kernel
theorem d_MO_valueIn_20 : decode b_MO_valueIn 20 = .ok (.iaload, 1) := by decide +kernel
theorem d_MO_valueIn_21 : decode b_MO_valueIn 21 = .ok (.ireturn, 1) := by decide +kernel
theorem d_MO_get_0 : decode b_MO_get 0 = .ok (.aload_n 0, 1) := by decide +kernel
theorem d_MO_get_1 : decode b_MO_get 1 = .ok (.iconst 0, 1) := by decide +kernel
theorem d_MO_get_2 : decode b_MO_get 2 = .ok (.iload_n 1, 1) := by decide +kernel
theorem d_MO_get_3 : decode b_MO_get 3 = .ok (.invokevirtual 49, 3) := by decide +kernel
theorem d_MO_get_6 : decode b_MO_get 6 = .ok (.ireturn, 1) := by decide +kernel
theorem d_MO_size_0 : decode b_MO_size 0 = .ok (.aload_n 0, 1) := by decide +kernel
theorem d_MO_size_1 : decode b_MO_size 1 = .ok (.getfield 16, 3) := by decide +kernel
theorem d_MO_size_4 : decode b_MO_size 4 = .ok (.iconst 0, 1) := by decide +kernel
theorem d_MO_size_5 : decode b_MO_size 5 = .ok (.iaload, 1) := by decide +kernel
theorem d_MO_size_6 : decode b_MO_size 6 = .ok (.ireturn, 1) := by decide +kernel
theorem d_MO_members_0 : decode b_MO_members 0 = .ok (.iconst 0, 1) := by decide +kernel
theorem d_MO_members_1 : decode b_MO_members 1 = .ok (.istore_n 3, 1) := by decide +kernel
theorem d_MO_members_2 : decode b_MO_members 2 = .ok (.bipush 16, 2) := by decide +kernel
theorem d_MO_members_4 : decode b_MO_members 4 = .ok (.iload_n 1, 1) := by decide +kernel
theorem d_MO_members_5 : decode b_MO_members 5 = .ok (.imul, 1) := by decide +kernel
theorem d_MO_members_6 : decode b_MO_members 6 = .ok (.istore 4, 2) := by decide +kernel
theorem d_MO_members_8 : decode b_MO_members 8 = .ok (.iload 4, 2) := by decide +kernel
theorem d_MO_members_10 : decode b_MO_members 10 = .ok (.bipush 16, 2) := by decide +kernel
theorem d_MO_members_12 : decode b_MO_members 12 = .ok (.iload_n 1, 1) := by decide +kernel
theorem d_MO_members_13 : decode b_MO_members 13 = .ok (.imul, 1) := by decide +kernel
theorem d_MO_members_14 : decode b_MO_members 14 = .ok (.aload_n 0, 1) := by decide +kernel
theorem d_MO_members_15 : decode b_MO_members 15 = .ok (.getfield 16, 3) := by decide +kernel
theorem d_MO_members_18 : decode b_MO_members 18 = .ok (.iload_n 1, 1) := by decide +kernel
theorem d_MO_members_19 : decode b_MO_members 19 = .ok (.iaload, 1) := by decide +kernel
theorem d_MO_members_20 : decode b_MO_members 20 = .ok (.iadd, 1) := by decide +kernel
theorem d_MO_members_21 : decode b_MO_members 21 = .ok (.if_icmp .ge 31, 3) := by decide +kernel
theorem d_MO_members_24 : decode b_MO_members 24 = .ok (.aload_n 0, 1) := by decide +kernel
theorem d_MO_members_25 : decode b_MO_members 25 = .ok (.getfield 7, 3) := by decide +kernel
theorem d_MO_members_28 : decode b_MO_members 28 = .ok (.iload 4, 2) := by decide +kernel
theorem d_MO_members_30 : decode b_MO_members 30 = .ok (.iaload, 1) := by decide +kernel
theorem d_MO_members_31 : decode b_MO_members 31 = .ok (.iload_n 2, 1) := by decide +kernel
theorem d_MO_members_32 : decode b_MO_members 32 = .ok (.invokestatic 52, 3) := by decide +kernel
theorem d_MO_members_35 : decode b_MO_members 35 = .ok (.ifCond .eq 9, 3) := by decide +kernel
theorem d_MO_members_38 : decode b_MO_members 38 = .ok (.iload_n 3, 1) := by decide +kernel
theorem d_MO_members_39 : decode b_MO_members 39 = .ok (.iconst 1, 1) := by decide +kernel
theorem d_MO_members_40 : decode b_MO_members 40 = .ok (.iadd, 1) := by decide +kernel
theorem d_MO_members_41 : decode b_MO_members 41 = .ok (.goto 4, 3) := by decide +kernel
theorem d_MO_members_44 : decode b_MO_members 44 = .ok (.iload_n 3, 1) := by decide +kernel
theorem d_MO_members_45 : decode b_MO_members 45 = .ok (.istore_n 3, 1) := by decide +kernel
theorem d_MO_members_46 : decode b_MO_members 46 = .ok (.iinc 4 1, 3) := by decide +kernel
theorem d_MO_members_49 : decode b_MO_members 49 = .ok (.goto (-41), 3) := by decide +kernel
theorem d_MO_members_52 : decode b_MO_members 52 = .ok (.iload_n 3, 1) := by decide +kernel
theorem d_MO_members_53 : decode b_MO_members 53 = .ok (.ireturn, 1) := by decide +kernel
theorem d_MO_member_0 : decode b_MO_member 0 = .ok (.bipush 16, 2) := by decide +kernel
theorem d_MO_member_2 : decode b_MO_member 2 = .ok (.iload_n 1, 1) := by decide +kernel
theorem d_MO_member_3 : decode b_MO_member 3 = .ok (.imul, 1) := by decide +kernel
theorem d_MO_member_4 : decode b_MO_member 4 = .ok (.istore_n 3, 1) := by decide +kernel
theorem d_MO_member_5 : decode b_MO_member 5 = .ok (.iload_n 3, 1) := by decide +kernel
theorem d_MO_member_6 : decode b_MO_member 6 = .ok (.bipush 16, 2) := by decide +kernel
theorem d_MO_member_8 : decode b_MO_member 8 = .ok (.iload_n 1, 1) := by decide +kernel
theorem d_MO_member_9 : decode b_MO_member 9 = .ok (.imul, 1) := by decide +kernel
theorem d_MO_member_10 : decode b_MO_member 10 = .ok (.aload_n 0, 1) := by decide +kernel
theorem d_MO_member_11 : decode b_MO_member 11 = .ok (.getfield 16, 3) := by decide +kernel
theorem d_MO_member_14 : decode b_MO_member 14 = .ok (.iload_n 1, 1) := by decide +kernel
theorem d_MO_member_15 : decode b_MO_member 15 = .ok (.iaload, 1) := by decide +kernel
theorem d_MO_member_16 : decode b_MO_member 16 = .ok (.iadd, 1) := by decide +kernel
theorem d_MO_member_17 : decode b_MO_member 17 = .ok (.if_icmp .ge 24, 3) := by decide +kernel
theorem d_MO_member_20 : decode b_MO_member 20 = .ok (.aload_n 0, 1) := by decide +kernel
theorem d_MO_member_21 : decode b_MO_member 21 = .ok (.getfield 7, 3) := by decide +kernel
theorem d_MO_member_24 : decode b_MO_member 24 = .ok (.iload_n 3, 1) := by decide +kernel
theorem d_MO_member_25 : decode b_MO_member 25 = .ok (.iaload, 1) := by decide +kernel
theorem d_MO_member_26 : decode b_MO_member 26 = .ok (.iload_n 2, 1) := by decide +kernel
theorem d_MO_member_27 : decode b_MO_member 27 = .ok (.invokestatic 52, 3) := by decide +kernel
theorem d_MO_member_30 : decode b_MO_member 30 = .ok (.ifCond .eq 5, 3) := by decide +kernel
theorem d_MO_member_33 : decode b_MO_member 33 = .ok (.iload_n 3, 1) := by decide +kernel
theorem d_MO_member_34 : decode b_MO_member 34 = .ok (.ireturn, 1) := by decide +kernel
theorem d_MO_member_35 : decode b_MO_member 35 = .ok (.iinc 3 1, 3) := by decide +kernel
theorem d_MO_member_38 : decode b_MO_member 38 = .ok (.goto (-33), 3) := by decide +kernel
theorem d_MO_member_41 : decode b_MO_member 41 = .ok (.iconst (-1), 1) := by decide +kernel
theorem d_MO_member_42 : decode b_MO_member 42 = .ok (.ireturn, 1) := by decide +kernel
theorem d_MO_common_0 : decode b_MO_common 0 = .ok (.aload_n 0, 1) := by decide +kernel
theorem d_MO_common_1 : decode b_MO_common 1 = .ok (.iload_n 1, 1) := by decide +kernel
theorem d_MO_common_2 : decode b_MO_common 2 = .ok (.iload_n 2, 1) := by decide +kernel
theorem d_MO_common_3 : decode b_MO_common 3 = .ok (.invokevirtual 56, 3) := by decide +kernel
theorem d_MO_common_6 : decode b_MO_common 6 = .ok (.istore_n 3, 1) := by decide +kernel
theorem d_MO_common_7 : decode b_MO_common 7 = .ok (.aload_n 0, 1) := by decide +kernel
theorem d_MO_common_8 : decode b_MO_common 8 = .ok (.getfield 7, 3) := by decide +kernel
theorem d_MO_common_11 : decode b_MO_common 11 = .ok (.aload_n 0, 1) := by decide +kernel
theorem d_MO_common_12 : decode b_MO_common 12 = .ok (.iload_n 1, 1) := by decide +kernel
theorem d_MO_common_13 : decode b_MO_common 13 = .ok (.iload_n 2, 1) := by decide +kernel
theorem d_MO_common_14 : decode b_MO_common 14 = .ok (.invokevirtual 59, 3) := by decide +kernel
theorem d_MO_common_17 : decode b_MO_common 17 = .ok (.iaload, 1) := by decide +kernel
theorem d_MO_common_18 : decode b_MO_common 18 = .ok (.istore 4, 2) := by decide +kernel
theorem d_MO_common_20 : decode b_MO_common 20 = .ok (.iload_n 2, 1) := by decide +kernel
theorem d_MO_common_21 : decode b_MO_common 21 = .ok (.istore 5, 2) := by decide +kernel
theorem d_MO_common_23 : decode b_MO_common 23 = .ok (.iload 4, 2) := by decide +kernel
theorem d_MO_common_25 : decode b_MO_common 25 = .ok (.invokestatic 41, 3) := by decide +kernel
theorem d_MO_common_28 : decode b_MO_common 28 = .ok (.iload_n 2, 1) := by decide +kernel
theorem d_MO_common_29 : decode b_MO_common 29 = .ok (.invokestatic 41, 3) := by decide +kernel
theorem d_MO_common_32 : decode b_MO_common 32 = .ok (.isub, 1) := by decide +kernel
theorem d_MO_common_33 : decode b_MO_common 33 = .ok (.istore 6, 2) := by decide +kernel
theorem d_MO_common_35 : decode b_MO_common 35 = .ok (.iload 6, 2) := by decide +kernel
theorem d_MO_common_37 : decode b_MO_common 37 = .ok (.ifCond .lt 42, 3) := by decide +kernel
theorem d_MO_common_40 : decode b_MO_common 40 = .ok (.iload 4, 2) := by decide +kernel
theorem d_MO_common_42 : decode b_MO_common 42 = .ok (.iconst 4, 1) := by decide +kernel
theorem d_MO_common_43 : decode b_MO_common 43 = .ok (.iload 6, 2) := by decide +kernel
theorem d_MO_common_45 : decode b_MO_common 45 = .ok (.imul, 1) := by decide +kernel
theorem d_MO_common_46 : decode b_MO_common 46 = .ok (.ishr, 1) := by decide +kernel
theorem d_MO_common_47 : decode b_MO_common 47 = .ok (.istore 7, 2) := by decide +kernel
theorem d_MO_common_49 : decode b_MO_common 49 = .ok (.aload_n 0, 1) := by decide +kernel
theorem d_MO_common_50 : decode b_MO_common 50 = .ok (.iload_n 1, 1) := by decide +kernel
theorem d_MO_common_51 : decode b_MO_common 51 = .ok (.iload 7, 2) := by decide +kernel
theorem d_MO_common_53 : decode b_MO_common 53 = .ok (.invokevirtual 56, 3) := by decide +kernel
theorem d_MO_common_56 : decode b_MO_common 56 = .ok (.istore 8, 2) := by decide +kernel
theorem d_MO_common_58 : decode b_MO_common 58 = .ok (.iload 8, 2) := by decide +kernel
theorem d_MO_common_60 : decode b_MO_common 60 = .ok (.iload_n 3, 1) := by decide +kernel
theorem d_MO_common_61 : decode b_MO_common 61 = .ok (.if_icmp .ne 8, 3) := by decide +kernel
theorem d_MO_common_64 : decode b_MO_common 64 = .ok (.iload 7, 2) := by decide +kernel
theorem d_MO_common_66 : decode b_MO_common 66 = .ok (.goto 5, 3) := by decide +kernel
theorem d_MO_common_69 : decode b_MO_common 69 = .ok (.iload 5, 2) := by decide +kernel
theorem d_MO_common_71 : decode b_MO_common 71 = .ok (.istore 5, 2) := by decide +kernel
theorem d_MO_common_73 : decode b_MO_common 73 = .ok (.iinc 6 (-1), 3) := by decide +kernel
theorem d_MO_common_76 : decode b_MO_common 76 = .ok (.goto (-41), 3) := by decide +kernel
theorem d_MO_common_79 : decode b_MO_common 79 = .ok (.iload 5, 2) := by decide +kernel
theorem d_MO_common_81 : decode b_MO_common 81 = .ok (.ireturn, 1) := by decide +kernel
theorem d_MO_isBranch_0 : decode b_MO_isBranch 0 = .ok (.aload_n 0, 1) := by decide +kernel
theorem d_MO_isBranch_1 : decode b_MO_isBranch 1 = .ok (.iload_n 1, 1) := by decide +kernel
theorem d_MO_isBranch_2 : decode b_MO_isBranch 2 = .ok (.iload_n 2, 1) := by decide +kernel
theorem d_MO_isBranch_3 : decode b_MO_isBranch 3 = .ok (.invokevirtual 56, 3) := by decide +kernel
theorem d_MO_isBranch_6 : decode b_MO_isBranch 6 = .ok (.istore_n 3, 1) := by decide +kernel
theorem d_MO_isBranch_7 : decode b_MO_isBranch 7 = .ok (.iload_n 3, 1) := by decide +kernel
theorem d_MO_isBranch_8 : decode b_MO_isBranch 8 = .ok (.iconst 1, 1) := by decide +kernel
theorem d_MO_isBranch_9 : decode b_MO_isBranch 9 = .ok (.if_icmp .le 17, 3) := by decide +kernel
theorem d_MO_isBranch_12 : decode b_MO_isBranch 12 = .ok (.aload_n 0, 1) := by decide +kernel
theorem d_MO_isBranch_13 : decode b_MO_isBranch 13 = .ok (.iload_n 1, 1) := by decide +kernel
theorem d_MO_isBranch_14 : decode b_MO_isBranch 14 = .ok (.iload_n 2, 1) := by decide +kernel
theorem d_MO_isBranch_15 : decode b_MO_isBranch 15 = .ok (.invokevirtual 62, 3) := by decide +kernel
theorem d_MO_isBranch_18 : decode b_MO_isBranch 18 = .ok (.iload_n 2, 1) := by decide +kernel
theorem d_MO_isBranch_19 : decode b_MO_isBranch 19 = .ok (.if_icmp .ne 7, 3) := by decide +kernel
theorem d_MO_isBranch_22 : decode b_MO_isBranch 22 = .ok (.iconst 1, 1) := by decide +kernel
theorem d_MO_isBranch_23 : decode b_MO_isBranch 23 = .ok (.goto 4, 3) := by decide +kernel
theorem d_MO_isBranch_26 : decode b_MO_isBranch 26 = .ok (.iconst 0, 1) := by decide +kernel
theorem d_MO_isBranch_27 : decode b_MO_isBranch 27 = .ok (.ireturn, 1) := by decide +kernel
theorem d_MO_place_0 : decode b_MO_place 0 = .ok (.bipush 16, 2) := by decide +kernel
theorem d_MO_place_2 : decode b_MO_place 2 = .ok (.iload_n 1, 1) := by decide +kernel
theorem d_MO_place_3 : decode b_MO_place 3 = .ok (.imul, 1) := by decide +kernel
theorem d_MO_place_4 : decode b_MO_place 4 = .ok (.istore_n 3, 1) := by decide +kernel
