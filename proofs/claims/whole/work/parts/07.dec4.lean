theorem dX9_knocker_26 : decode cX9_knocker 26 = .ok (.if_icmp .ge 23, 3) := by decide +kernel
theorem dX9_knocker_29 : decode cX9_knocker 29 = .ok (.iload_n 2, 1) := by decide +kernel
theorem dX9_knocker_30 : decode cX9_knocker 30 = .ok (.ifCond .ne 12, 3) := by decide +kernel
theorem dX9_knocker_33 : decode cX9_knocker 33 = .ok (.aload_n 0, 1) := by decide +kernel
theorem dX9_knocker_34 : decode cX9_knocker 34 = .ok (.getfield 13, 3) := by decide +kernel
theorem dX9_knocker_37 : decode cX9_knocker 37 = .ok (.iload_n 1, 1) := by decide +kernel
theorem dX9_knocker_38 : decode cX9_knocker 38 = .ok (.iaload, 1) := by decide +kernel
theorem dX9_knocker_39 : decode cX9_knocker 39 = .ok (.goto 9, 3) := by decide +kernel
theorem dX9_knocker_42 : decode cX9_knocker 42 = .ok (.aload_n 0, 1) := by decide +kernel
theorem dX9_knocker_43 : decode cX9_knocker 43 = .ok (.getfield 25, 3) := by decide +kernel
theorem dX9_knocker_46 : decode cX9_knocker 46 = .ok (.iload_n 1, 1) := by decide +kernel
theorem dX9_knocker_47 : decode cX9_knocker 47 = .ok (.iaload, 1) := by decide +kernel
theorem dX9_knocker_48 : decode cX9_knocker 48 = .ok (.ireturn, 1) := by decide +kernel
theorem dX9_knocker_49 : decode cX9_knocker 49 = .ok (.iload_n 2, 1) := by decide +kernel
theorem dX9_knocker_50 : decode cX9_knocker 50 = .ok (.iconst 2, 1) := by decide +kernel
theorem dX9_knocker_51 : decode cX9_knocker 51 = .ok (.if_icmp .ne 14, 3) := by decide +kernel
theorem dX9_knocker_54 : decode cX9_knocker 54 = .ok (.aload_n 0, 1) := by decide +kernel
theorem dX9_knocker_55 : decode cX9_knocker 55 = .ok (.getfield 25, 3) := by decide +kernel
theorem dX9_knocker_58 : decode cX9_knocker 58 = .ok (.iconst 5, 1) := by decide +kernel
theorem dX9_knocker_59 : decode cX9_knocker 59 = .ok (.iload_n 1, 1) := by decide +kernel
theorem dX9_knocker_60 : decode cX9_knocker 60 = .ok (.iadd, 1) := by decide +kernel
theorem dX9_knocker_61 : decode cX9_knocker 61 = .ok (.iaload, 1) := by decide +kernel
theorem dX9_knocker_62 : decode cX9_knocker 62 = .ok (.goto 21, 3) := by decide +kernel
theorem dX9_knocker_65 : decode cX9_knocker 65 = .ok (.aload_n 0, 1) := by decide +kernel
theorem dX9_knocker_66 : decode cX9_knocker 66 = .ok (.aload_n 0, 1) := by decide +kernel
theorem dX9_knocker_67 : decode cX9_knocker 67 = .ok (.getfield 25, 3) := by decide +kernel
theorem dX9_knocker_70 : decode cX9_knocker 70 = .ok (.iload_n 1, 1) := by decide +kernel
theorem dX9_knocker_71 : decode cX9_knocker 71 = .ok (.iaload, 1) := by decide +kernel
theorem dX9_knocker_72 : decode cX9_knocker 72 = .ok (.invokevirtual 157, 3) := by decide +kernel
theorem dX9_knocker_75 : decode cX9_knocker 75 = .ok (.ifCond .eq 7, 3) := by decide +kernel
theorem dX9_knocker_78 : decode cX9_knocker 78 = .ok (.iconst 1, 1) := by decide +kernel
theorem dX9_knocker_79 : decode cX9_knocker 79 = .ok (.goto 4, 3) := by decide +kernel
theorem dX9_knocker_82 : decode cX9_knocker 82 = .ok (.iconst 0, 1) := by decide +kernel
theorem dX9_knocker_83 : decode cX9_knocker 83 = .ok (.ireturn, 1) := by decide +kernel
theorem dX9_errand_0 : decode cX9_errand 0 = .ok (.aload_n 0, 1) := by decide +kernel
theorem dX9_errand_1 : decode cX9_errand 1 = .ok (.iconst 0, 1) := by decide +kernel
theorem dX9_errand_2 : decode cX9_errand 2 = .ok (.putfield 44, 3) := by decide +kernel
theorem dX9_errand_5 : decode cX9_errand 5 = .ok (.aload_n 0, 1) := by decide +kernel
theorem dX9_errand_6 : decode cX9_errand 6 = .ok (.iload_n 1, 1) := by decide +kernel
theorem dX9_errand_7 : decode cX9_errand 7 = .ok (.invokevirtual 160, 3) := by decide +kernel
theorem dX9_errand_10 : decode cX9_errand 10 = .ok (.ifCond .eq 25, 3) := by decide +kernel
theorem dX9_errand_13 : decode cX9_errand 13 = .ok (.iload_n 2, 1) := by decide +kernel
theorem dX9_errand_14 : decode cX9_errand 14 = .ok (.iconst 0, 1) := by decide +kernel
theorem dX9_errand_15 : decode cX9_errand 15 = .ok (.iconst 2, 1) := by decide +kernel
theorem dX9_errand_16 : decode cX9_errand 16 = .ok (.invokestatic 48, 3) := by decide +kernel
theorem dX9_errand_19 : decode cX9_errand 19 = .ok (.ifCond .eq 16, 3) := by decide +kernel
theorem dX9_errand_22 : decode cX9_errand 22 = .ok (.aload_n 0, 1) := by decide +kernel
theorem dX9_errand_23 : decode cX9_errand 23 = .ok (.getfield 19, 3) := by decide +kernel
theorem dX9_errand_26 : decode cX9_errand 26 = .ok (.iconst 3, 1) := by decide +kernel
theorem dX9_errand_27 : decode cX9_errand 27 = .ok (.iload_n 1, 1) := by decide +kernel
theorem dX9_errand_28 : decode cX9_errand 28 = .ok (.imul, 1) := by decide +kernel
theorem dX9_errand_29 : decode cX9_errand 29 = .ok (.iload_n 2, 1) := by decide +kernel
theorem dX9_errand_30 : decode cX9_errand 30 = .ok (.iadd, 1) := by decide +kernel
theorem dX9_errand_31 : decode cX9_errand 31 = .ok (.iaload, 1) := by decide +kernel
theorem dX9_errand_32 : decode cX9_errand 32 = .ok (.goto 4, 3) := by decide +kernel
theorem dX9_errand_35 : decode cX9_errand 35 = .ok (.iconst (-1), 1) := by decide +kernel
theorem dX9_errand_36 : decode cX9_errand 36 = .ok (.ireturn, 1) := by decide +kernel
theorem dX9_rule_0 : decode cX9_rule 0 = .ok (.aload_n 0, 1) := by decide +kernel
theorem dX9_rule_1 : decode cX9_rule 1 = .ok (.iconst 0, 1) := by decide +kernel
theorem dX9_rule_2 : decode cX9_rule 2 = .ok (.putfield 44, 3) := by decide +kernel
theorem dX9_rule_5 : decode cX9_rule 5 = .ok (.aload_n 0, 1) := by decide +kernel
theorem dX9_rule_6 : decode cX9_rule 6 = .ok (.iload_n 1, 1) := by decide +kernel
theorem dX9_rule_7 : decode cX9_rule 7 = .ok (.invokevirtual 163, 3) := by decide +kernel
theorem dX9_rule_10 : decode cX9_rule 10 = .ok (.ifCond .eq 40, 3) := by decide +kernel
theorem dX9_rule_13 : decode cX9_rule 13 = .ok (.iload_n 2, 1) := by decide +kernel
theorem dX9_rule_14 : decode cX9_rule 14 = .ok (.iconst 0, 1) := by decide +kernel
theorem dX9_rule_15 : decode cX9_rule 15 = .ok (.iconst 1, 1) := by decide +kernel
theorem dX9_rule_16 : decode cX9_rule 16 = .ok (.invokestatic 48, 3) := by decide +kernel
theorem dX9_rule_19 : decode cX9_rule 19 = .ok (.ifCond .eq 31, 3) := by decide +kernel
theorem dX9_rule_22 : decode cX9_rule 22 = .ok (.iload_n 2, 1) := by decide +kernel
theorem dX9_rule_23 : decode cX9_rule 23 = .ok (.ifCond .ne 15, 3) := by decide +kernel
theorem dX9_rule_26 : decode cX9_rule 26 = .ok (.aload_n 0, 1) := by decide +kernel
theorem dX9_rule_27 : decode cX9_rule 27 = .ok (.getfield 25, 3) := by decide +kernel
theorem dX9_rule_30 : decode cX9_rule 30 = .ok (.bipush 10, 2) := by decide +kernel
theorem dX9_rule_32 : decode cX9_rule 32 = .ok (.iload_n 1, 1) := by decide +kernel
theorem dX9_rule_33 : decode cX9_rule 33 = .ok (.iadd, 1) := by decide +kernel
theorem dX9_rule_34 : decode cX9_rule 34 = .ok (.iaload, 1) := by decide +kernel
theorem dX9_rule_35 : decode cX9_rule 35 = .ok (.goto 16, 3) := by decide +kernel
theorem dX9_rule_38 : decode cX9_rule 38 = .ok (.aload_n 0, 1) := by decide +kernel
theorem dX9_rule_39 : decode cX9_rule 39 = .ok (.getfield 25, 3) := by decide +kernel
theorem dX9_rule_42 : decode cX9_rule 42 = .ok (.bipush 14, 2) := by decide +kernel
theorem dX9_rule_44 : decode cX9_rule 44 = .ok (.iload_n 1, 1) := by decide +kernel
theorem dX9_rule_45 : decode cX9_rule 45 = .ok (.iadd, 1) := by decide +kernel
theorem dX9_rule_46 : decode cX9_rule 46 = .ok (.iaload, 1) := by decide +kernel
theorem dX9_rule_47 : decode cX9_rule 47 = .ok (.goto 4, 3) := by decide +kernel
theorem dX9_rule_50 : decode cX9_rule 50 = .ok (.iconst (-1), 1) := by decide +kernel
theorem dX9_rule_51 : decode cX9_rule 51 = .ok (.ireturn, 1) := by decide +kernel
theorem dX9_notes_0 : decode cX9_notes 0 = .ok (.aload_n 0, 1) := by decide +kernel
theorem dX9_notes_1 : decode cX9_notes 1 = .ok (.getfield 143, 3) := by decide +kernel
theorem dX9_notes_4 : decode cX9_notes 4 = .ok (.bipush 10, 2) := by decide +kernel
theorem dX9_notes_6 : decode cX9_notes 6 = .ok (.if_icmp .ne 41, 3) := by decide +kernel
theorem dX9_notes_9 : decode cX9_notes 9 = .ok (.iconst 0, 1) := by decide +kernel
theorem dX9_notes_10 : decode cX9_notes 10 = .ok (.istore 5, 2) := by decide +kernel
theorem dX9_notes_12 : decode cX9_notes 12 = .ok (.iload 5, 2) := by decide +kernel
theorem dX9_notes_14 : decode cX9_notes 14 = .ok (.bipush 36, 2) := by decide +kernel
theorem dX9_notes_16 : decode cX9_notes 16 = .ok (.if_icmp .ge 25, 3) := by decide +kernel
theorem dX9_notes_19 : decode cX9_notes 19 = .ok (.aload_n 0, 1) := by decide +kernel
theorem dX9_notes_20 : decode cX9_notes 20 = .ok (.getfield 35, 3) := by decide +kernel
theorem dX9_notes_23 : decode cX9_notes 23 = .ok (.iload 5, 2) := by decide +kernel
theorem dX9_notes_25 : decode cX9_notes 25 = .ok (.aload_n 0, 1) := by decide +kernel
theorem dX9_notes_26 : decode cX9_notes 26 = .ok (.getfield 35, 3) := by decide +kernel
theorem dX9_notes_29 : decode cX9_notes 29 = .ok (.iload 5, 2) := by decide +kernel
theorem dX9_notes_31 : decode cX9_notes 31 = .ok (.iconst 4, 1) := by decide +kernel
theorem dX9_notes_32 : decode cX9_notes 32 = .ok (.iadd, 1) := by decide +kernel
theorem dX9_notes_33 : decode cX9_notes 33 = .ok (.iaload, 1) := by decide +kernel
theorem dX9_notes_34 : decode cX9_notes 34 = .ok (.iastore, 1) := by decide +kernel
theorem dX9_notes_35 : decode cX9_notes 35 = .ok (.iinc 5 1, 3) := by decide +kernel
theorem dX9_notes_38 : decode cX9_notes 38 = .ok (.goto (-26), 3) := by decide +kernel
theorem dX9_notes_41 : decode cX9_notes 41 = .ok (.aload_n 0, 1) := by decide +kernel
theorem dX9_notes_42 : decode cX9_notes 42 = .ok (.bipush 9, 2) := by decide +kernel
theorem dX9_notes_44 : decode cX9_notes 44 = .ok (.putfield 143, 3) := by decide +kernel
theorem dX9_notes_47 : decode cX9_notes 47 = .ok (.iconst 4, 1) := by decide +kernel
theorem dX9_notes_48 : decode cX9_notes 48 = .ok (.aload_n 0, 1) := by decide +kernel
theorem dX9_notes_49 : decode cX9_notes 49 = .ok (.getfield 143, 3) := by decide +kernel
theorem dX9_notes_52 : decode cX9_notes 52 = .ok (.imul, 1) := by decide +kernel
theorem dX9_notes_53 : decode cX9_notes 53 = .ok (.istore 5, 2) := by decide +kernel
theorem dX9_notes_55 : decode cX9_notes 55 = .ok (.aload_n 0, 1) := by decide +kernel
theorem dX9_notes_56 : decode cX9_notes 56 = .ok (.getfield 35, 3) := by decide +kernel
theorem dX9_notes_59 : decode cX9_notes 59 = .ok (.iload 5, 2) := by decide +kernel
theorem dX9_notes_61 : decode cX9_notes 61 = .ok (.iload_n 1, 1) := by decide +kernel
theorem dX9_notes_62 : decode cX9_notes 62 = .ok (.iastore, 1) := by decide +kernel
theorem dX9_notes_63 : decode cX9_notes 63 = .ok (.aload_n 0, 1) := by decide +kernel
theorem dX9_notes_64 : decode cX9_notes 64 = .ok (.getfield 35, 3) := by decide +kernel
theorem dX9_notes_67 : decode cX9_notes 67 = .ok (.iload 5, 2) := by decide +kernel
theorem dX9_notes_69 : decode cX9_notes 69 = .ok (.iconst 1, 1) := by decide +kernel
theorem dX9_notes_70 : decode cX9_notes 70 = .ok (.iadd, 1) := by decide +kernel
theorem dX9_notes_71 : decode cX9_notes 71 = .ok (.iload_n 2, 1) := by decide +kernel
theorem dX9_notes_72 : decode cX9_notes 72 = .ok (.iastore, 1) := by decide +kernel
theorem dX9_notes_73 : decode cX9_notes 73 = .ok (.aload_n 0, 1) := by decide +kernel
theorem dX9_notes_74 : decode cX9_notes 74 = .ok (.getfield 35, 3) := by decide +kernel
theorem dX9_notes_77 : decode cX9_notes 77 = .ok (.iload 5, 2) := by decide +kernel
theorem dX9_notes_79 : decode cX9_notes 79 = .ok (.iconst 2, 1) := by decide +kernel
theorem dX9_notes_80 : decode cX9_notes 80 = .ok (.iadd, 1) := by decide +kernel
theorem dX9_notes_81 : decode cX9_notes 81 = .ok (.iload_n 3, 1) := by decide +kernel
theorem dX9_notes_82 : decode cX9_notes 82 = .ok (.iastore, 1) := by decide +kernel
theorem dX9_notes_83 : decode cX9_notes 83 = .ok (.aload_n 0, 1) := by decide +kernel
theorem dX9_notes_84 : decode cX9_notes 84 = .ok (.getfield 35, 3) := by decide +kernel
theorem dX9_notes_87 : decode cX9_notes 87 = .ok (.iload 5, 2) := by decide +kernel
theorem dX9_notes_89 : decode cX9_notes 89 = .ok (.iconst 3, 1) := by decide +kernel
theorem dX9_notes_90 : decode cX9_notes 90 = .ok (.iadd, 1) := by decide +kernel
theorem dX9_notes_91 : decode cX9_notes 91 = .ok (.iload 4, 2) := by decide +kernel
theorem dX9_notes_93 : decode cX9_notes 93 = .ok (.iastore, 1) := by decide +kernel
theorem dX9_notes_94 : decode cX9_notes 94 = .ok (.aload_n 0, 1) := by decide +kernel
theorem dX9_notes_95 : decode cX9_notes 95 = .ok (.dup, 1) := by decide +kernel
theorem dX9_notes_96 : decode cX9_notes 96 = .ok (.getfield 143, 3) := by decide +kernel
theorem dX9_notes_99 : decode cX9_notes 99 = .ok (.iconst 1, 1) := by decide +kernel
theorem dX9_notes_100 : decode cX9_notes 100 = .ok (.iadd, 1) := by decide +kernel
theorem dX9_notes_101 : decode cX9_notes 101 = .ok (.putfield 143, 3) := by decide +kernel
theorem dX9_notes_104 : decode cX9_notes 104 = .ok (.return_, 1) := by decide +kernel
theorem dX9_canRun_0 : decode cX9_canRun 0 = .ok (.aload_n 0, 1) := by decide +kernel
theorem dX9_canRun_1 : decode cX9_canRun 1 = .ok (.getfield 19, 3) := by decide +kernel
theorem dX9_canRun_4 : decode cX9_canRun 4 = .ok (.iconst 3, 1) := by decide +kernel
theorem dX9_canRun_5 : decode cX9_canRun 5 = .ok (.iload_n 2, 1) := by decide +kernel
theorem dX9_canRun_6 : decode cX9_canRun 6 = .ok (.imul, 1) := by decide +kernel
theorem dX9_canRun_7 : decode cX9_canRun 7 = .ok (.iconst 2, 1) := by decide +kernel
theorem dX9_canRun_8 : decode cX9_canRun 8 = .ok (.iadd, 1) := by decide +kernel
theorem dX9_canRun_9 : decode cX9_canRun 9 = .ok (.iaload, 1) := by decide +kernel
theorem dX9_canRun_10 : decode cX9_canRun 10 = .ok (.istore_n 3, 1) := by decide +kernel
theorem dX9_canRun_11 : decode cX9_canRun 11 = .ok (.iload_n 1, 1) := by decide +kernel
theorem dX9_canRun_12 : decode cX9_canRun 12 = .ok (.aload_n 0, 1) := by decide +kernel
theorem dX9_canRun_13 : decode cX9_canRun 13 = .ok (.getfield 19, 3) := by decide +kernel
theorem dX9_canRun_16 : decode cX9_canRun 16 = .ok (.iconst 3, 1) := by decide +kernel
theorem dX9_canRun_17 : decode cX9_canRun 17 = .ok (.iload_n 2, 1) := by decide +kernel
theorem dX9_canRun_18 : decode cX9_canRun 18 = .ok (.imul, 1) := by decide +kernel
theorem dX9_canRun_19 : decode cX9_canRun 19 = .ok (.iaload, 1) := by decide +kernel
theorem dX9_canRun_20 : decode cX9_canRun 20 = .ok (.ishr, 1) := by decide +kernel
theorem dX9_canRun_21 : decode cX9_canRun 21 = .ok (.iconst 1, 1) := by decide +kernel
theorem dX9_canRun_22 : decode cX9_canRun 22 = .ok (.iand, 1) := by decide +kernel
theorem dX9_canRun_23 : decode cX9_canRun 23 = .ok (.ifCond .ne 22, 3) := by decide +kernel
theorem dX9_canRun_26 : decode cX9_canRun 26 = .ok (.iload_n 3, 1) := by decide +kernel
theorem dX9_canRun_27 : decode cX9_canRun 27 = .ok (.bipush 9, 2) := by decide +kernel
theorem dX9_canRun_29 : decode cX9_canRun 29 = .ok (.if_icmp .eq 12, 3) := by decide +kernel
theorem dX9_canRun_32 : decode cX9_canRun 32 = .ok (.iload_n 1, 1) := by decide +kernel
theorem dX9_canRun_33 : decode cX9_canRun 33 = .ok (.iload_n 3, 1) := by decide +kernel
theorem dX9_canRun_34 : decode cX9_canRun 34 = .ok (.ishr, 1) := by decide +kernel
theorem dX9_canRun_35 : decode cX9_canRun 35 = .ok (.iconst 1, 1) := by decide +kernel
theorem dX9_canRun_36 : decode cX9_canRun 36 = .ok (.iand, 1) := by decide +kernel
theorem dX9_canRun_37 : decode cX9_canRun 37 = .ok (.iconst 1, 1) := by decide +kernel
theorem dX9_canRun_38 : decode cX9_canRun 38 = .ok (.if_icmp .ne 7, 3) := by decide +kernel
theorem dX9_canRun_41 : decode cX9_canRun 41 = .ok (.iconst 1, 1) := by decide +kernel
theorem dX9_canRun_42 : decode cX9_canRun 42 = .ok (.goto 4, 3) := by decide +kernel
theorem dX9_canRun_45 : decode cX9_canRun 45 = .ok (.iconst 0, 1) := by decide +kernel
theorem dX9_canRun_46 : decode cX9_canRun 46 = .ok (.ireturn, 1) := by decide +kernel
theorem dX9_runs_0 : decode cX9_runs 0 = .ok (.aload_n 0, 1) := by decide +kernel
theorem dX9_runs_1 : decode cX9_runs 1 = .ok (.iconst 0, 1) := by decide +kernel
theorem dX9_runs_2 : decode cX9_runs 2 = .ok (.putfield 44, 3) := by decide +kernel
theorem dX9_runs_5 : decode cX9_runs 5 = .ok (.aload_n 0, 1) := by decide +kernel
theorem dX9_runs_6 : decode cX9_runs 6 = .ok (.iload_n 1, 1) := by decide +kernel
theorem dX9_runs_7 : decode cX9_runs 7 = .ok (.invokevirtual 153, 3) := by decide +kernel
theorem dX9_runs_10 : decode cX9_runs 10 = .ok (.ifCond .eq 11, 3) := by decide +kernel
theorem dX9_runs_13 : decode cX9_runs 13 = .ok (.aload_n 0, 1) := by decide +kernel
theorem dX9_runs_14 : decode cX9_runs 14 = .ok (.iload_n 2, 1) := by decide +kernel
theorem dX9_runs_15 : decode cX9_runs 15 = .ok (.invokevirtual 160, 3) := by decide +kernel
theorem dX9_runs_18 : decode cX9_runs 18 = .ok (.ifCond .ne 5, 3) := by decide +kernel
theorem dX9_runs_21 : decode cX9_runs 21 = .ok (.iconst (-1), 1) := by decide +kernel
theorem dX9_runs_22 : decode cX9_runs 22 = .ok (.ireturn, 1) := by decide +kernel
theorem dX9_runs_23 : decode cX9_runs 23 = .ok (.aload_n 0, 1) := by decide +kernel
theorem dX9_runs_24 : decode cX9_runs 24 = .ok (.aload_n 0, 1) := by decide +kernel
theorem dX9_runs_25 : decode cX9_runs 25 = .ok (.getfield 25, 3) := by decide +kernel
theorem dX9_runs_28 : decode cX9_runs 28 = .ok (.iload_n 1, 1) := by decide +kernel
theorem dX9_runs_29 : decode cX9_runs 29 = .ok (.iaload, 1) := by decide +kernel
theorem dX9_runs_30 : decode cX9_runs 30 = .ok (.iload_n 2, 1) := by decide +kernel
theorem dX9_runs_31 : decode cX9_runs 31 = .ok (.invokevirtual 166, 3) := by decide +kernel
theorem dX9_runs_34 : decode cX9_runs 34 = .ok (.ifCond .eq 27, 3) := by decide +kernel
theorem dX9_runs_37 : decode cX9_runs 37 = .ok (.aload_n 0, 1) := by decide +kernel
theorem dX9_runs_38 : decode cX9_runs 38 = .ok (.getfield 25, 3) := by decide +kernel
theorem dX9_runs_41 : decode cX9_runs 41 = .ok (.iconst 5, 1) := by decide +kernel
theorem dX9_runs_42 : decode cX9_runs 42 = .ok (.iload_n 1, 1) := by decide +kernel
theorem dX9_runs_43 : decode cX9_runs 43 = .ok (.iadd, 1) := by decide +kernel
theorem dX9_runs_44 : decode cX9_runs 44 = .ok (.iaload, 1) := by decide +kernel
theorem dX9_runs_45 : decode cX9_runs 45 = .ok (.aload_n 0, 1) := by decide +kernel
theorem dX9_runs_46 : decode cX9_runs 46 = .ok (.getfield 19, 3) := by decide +kernel
theorem dX9_runs_49 : decode cX9_runs 49 = .ok (.iconst 3, 1) := by decide +kernel
theorem dX9_runs_50 : decode cX9_runs 50 = .ok (.iload_n 2, 1) := by decide +kernel
theorem dX9_runs_51 : decode cX9_runs 51 = .ok (.imul, 1) := by decide +kernel
theorem dX9_runs_52 : decode cX9_runs 52 = .ok (.iconst 1, 1) := by decide +kernel
theorem dX9_runs_53 : decode cX9_runs 53 = .ok (.iadd, 1) := by decide +kernel
theorem dX9_runs_54 : decode cX9_runs 54 = .ok (.iaload, 1) := by decide +kernel
theorem dX9_runs_55 : decode cX9_runs 55 = .ok (.iadd, 1) := by decide +kernel
theorem dX9_runs_56 : decode cX9_runs 56 = .ok (.bipush 99, 2) := by decide +kernel
theorem dX9_runs_58 : decode cX9_runs 58 = .ok (.if_icmp .le 6, 3) := by decide +kernel
theorem dX9_runs_61 : decode cX9_runs 61 = .ok (.bipush (-2), 2) := by decide +kernel
theorem dX9_runs_63 : decode cX9_runs 63 = .ok (.ireturn, 1) := by decide +kernel
theorem dX9_runs_64 : decode cX9_runs 64 = .ok (.aload_n 0, 1) := by decide +kernel
theorem dX9_runs_65 : decode cX9_runs 65 = .ok (.iconst 0, 1) := by decide +kernel
theorem dX9_runs_66 : decode cX9_runs 66 = .ok (.iload_n 1, 1) := by decide +kernel
theorem dX9_runs_67 : decode cX9_runs 67 = .ok (.aload_n 0, 1) := by decide +kernel
theorem dX9_runs_68 : decode cX9_runs 68 = .ok (.getfield 25, 3) := by decide +kernel
theorem dX9_runs_71 : decode cX9_runs 71 = .ok (.iload_n 1, 1) := by decide +kernel
theorem dX9_runs_72 : decode cX9_runs 72 = .ok (.iaload, 1) := by decide +kernel
theorem dX9_runs_73 : decode cX9_runs 73 = .ok (.aload_n 0, 1) := by decide +kernel
theorem dX9_runs_74 : decode cX9_runs 74 = .ok (.getfield 25, 3) := by decide +kernel
theorem dX9_runs_77 : decode cX9_runs 77 = .ok (.iconst 5, 1) := by decide +kernel
theorem dX9_runs_78 : decode cX9_runs 78 = .ok (.iload_n 1, 1) := by decide +kernel
theorem dX9_runs_79 : decode cX9_runs 79 = .ok (.iadd, 1) := by decide +kernel
theorem dX9_runs_80 : decode cX9_runs 80 = .ok (.iaload, 1) := by decide +kernel
theorem dX9_runs_81 : decode cX9_runs 81 = .ok (.invokevirtual 169, 3) := by decide +kernel
theorem dX9_runs_84 : decode cX9_runs 84 = .ok (.aload_n 0, 1) := by decide +kernel
theorem dX9_runs_85 : decode cX9_runs 85 = .ok (.getfield 25, 3) := by decide +kernel
theorem dX9_runs_88 : decode cX9_runs 88 = .ok (.iload_n 1, 1) := by decide +kernel
theorem dX9_runs_89 : decode cX9_runs 89 = .ok (.dup2, 1) := by decide +kernel
theorem dX9_runs_90 : decode cX9_runs 90 = .ok (.iaload, 1) := by decide +kernel
theorem dX9_runs_91 : decode cX9_runs 91 = .ok (.iconst 1, 1) := by decide +kernel
theorem dX9_runs_92 : decode cX9_runs 92 = .ok (.aload_n 0, 1) := by decide +kernel
theorem dX9_runs_93 : decode cX9_runs 93 = .ok (.getfield 19, 3) := by decide +kernel
theorem dX9_runs_96 : decode cX9_runs 96 = .ok (.iconst 3, 1) := by decide +kernel
theorem dX9_runs_97 : decode cX9_runs 97 = .ok (.iload_n 2, 1) := by decide +kernel
theorem dX9_runs_98 : decode cX9_runs 98 = .ok (.imul, 1) := by decide +kernel
theorem dX9_runs_99 : decode cX9_runs 99 = .ok (.iaload, 1) := by decide +kernel
theorem dX9_runs_100 : decode cX9_runs 100 = .ok (.ishl, 1) := by decide +kernel
theorem dX9_runs_101 : decode cX9_runs 101 = .ok (.ior, 1) := by decide +kernel
theorem dX9_runs_102 : decode cX9_runs 102 = .ok (.iastore, 1) := by decide +kernel
theorem dX9_runs_103 : decode cX9_runs 103 = .ok (.aload_n 0, 1) := by decide +kernel
theorem dX9_runs_104 : decode cX9_runs 104 = .ok (.getfield 25, 3) := by decide +kernel
theorem dX9_runs_107 : decode cX9_runs 107 = .ok (.iconst 5, 1) := by decide +kernel
theorem dX9_runs_108 : decode cX9_runs 108 = .ok (.iload_n 1, 1) := by decide +kernel
theorem dX9_runs_109 : decode cX9_runs 109 = .ok (.iadd, 1) := by decide +kernel
theorem dX9_runs_110 : decode cX9_runs 110 = .ok (.dup2, 1) := by decide +kernel
theorem dX9_runs_111 : decode cX9_runs 111 = .ok (.iaload, 1) := by decide +kernel
theorem dX9_runs_112 : decode cX9_runs 112 = .ok (.aload_n 0, 1) := by decide +kernel
theorem dX9_runs_113 : decode cX9_runs 113 = .ok (.getfield 19, 3) := by decide +kernel
theorem dX9_runs_116 : decode cX9_runs 116 = .ok (.iconst 3, 1) := by decide +kernel
theorem dX9_runs_117 : decode cX9_runs 117 = .ok (.iload_n 2, 1) := by decide +kernel
theorem dX9_runs_118 : decode cX9_runs 118 = .ok (.imul, 1) := by decide +kernel
theorem dX9_runs_119 : decode cX9_runs 119 = .ok (.iconst 1, 1) := by decide +kernel
theorem dX9_runs_120 : decode cX9_runs 120 = .ok (.iadd, 1) := by decide +kernel
theorem dX9_runs_121 : decode cX9_runs 121 = .ok (.iaload, 1) := by decide +kernel
theorem dX9_runs_122 : decode cX9_runs 122 = .ok (.iadd, 1) := by decide +kernel
theorem dX9_runs_123 : decode cX9_runs 123 = .ok (.iastore, 1) := by decide +kernel
theorem dX9_runs_124 : decode cX9_runs 124 = .ok (.aload_n 0, 1) := by decide +kernel
theorem dX9_runs_125 : decode cX9_runs 125 = .ok (.getfield 25, 3) := by decide +kernel
theorem dX9_runs_128 : decode cX9_runs 128 = .ok (.iconst 5, 1) := by decide +kernel
theorem dX9_runs_129 : decode cX9_runs 129 = .ok (.iload_n 1, 1) := by decide +kernel
theorem dX9_runs_130 : decode cX9_runs 130 = .ok (.iadd, 1) := by decide +kernel
theorem dX9_runs_131 : decode cX9_runs 131 = .ok (.iaload, 1) := by decide +kernel
theorem dX9_runs_132 : decode cX9_runs 132 = .ok (.ireturn, 1) := by decide +kernel
theorem dX9_knocks_0 : decode cX9_knocks 0 = .ok (.aload_n 0, 1) := by decide +kernel
theorem dX9_knocks_1 : decode cX9_knocks 1 = .ok (.iconst 0, 1) := by decide +kernel
theorem dX9_knocks_2 : decode cX9_knocks 2 = .ok (.putfield 44, 3) := by decide +kernel
theorem dX9_knocks_5 : decode cX9_knocks 5 = .ok (.aload_n 0, 1) := by decide +kernel
theorem dX9_knocks_6 : decode cX9_knocks 6 = .ok (.iload_n 1, 1) := by decide +kernel
theorem dX9_knocks_7 : decode cX9_knocks 7 = .ok (.invokevirtual 153, 3) := by decide +kernel
theorem dX9_knocks_10 : decode cX9_knocks 10 = .ok (.ifCond .eq 22, 3) := by decide +kernel
theorem dX9_knocks_13 : decode cX9_knocks 13 = .ok (.iload_n 2, 1) := by decide +kernel
theorem dX9_knocks_14 : decode cX9_knocks 14 = .ok (.bipush (-9), 2) := by decide +kernel
theorem dX9_knocks_16 : decode cX9_knocks 16 = .ok (.if_icmp .eq 11, 3) := by decide +kernel
theorem dX9_knocks_19 : decode cX9_knocks 19 = .ok (.aload_n 0, 1) := by decide +kernel
theorem dX9_knocks_20 : decode cX9_knocks 20 = .ok (.iload_n 2, 1) := by decide +kernel
theorem dX9_knocks_21 : decode cX9_knocks 21 = .ok (.invokevirtual 153, 3) := by decide +kernel
theorem dX9_knocks_24 : decode cX9_knocks 24 = .ok (.ifCond .eq 8, 3) := by decide +kernel
theorem dX9_knocks_27 : decode cX9_knocks 27 = .ok (.iload_n 1, 1) := by decide +kernel
theorem dX9_knocks_28 : decode cX9_knocks 28 = .ok (.iload_n 2, 1) := by decide +kernel
theorem dX9_knocks_29 : decode cX9_knocks 29 = .ok (.if_icmp .ne 5, 3) := by decide +kernel
theorem dX9_knocks_32 : decode cX9_knocks 32 = .ok (.iconst (-1), 1) := by decide +kernel
theorem dX9_knocks_33 : decode cX9_knocks 33 = .ok (.ireturn, 1) := by decide +kernel
theorem dX9_knocks_34 : decode cX9_knocks 34 = .ok (.iload_n 2, 1) := by decide +kernel
theorem dX9_knocks_35 : decode cX9_knocks 35 = .ok (.bipush (-9), 2) := by decide +kernel
theorem dX9_knocks_37 : decode cX9_knocks 37 = .ok (.if_icmp .ne 14, 3) := by decide +kernel
theorem dX9_knocks_40 : decode cX9_knocks 40 = .ok (.aload_n 0, 1) := by decide +kernel
theorem dX9_knocks_41 : decode cX9_knocks 41 = .ok (.iconst 2, 1) := by decide +kernel
theorem dX9_knocks_42 : decode cX9_knocks 42 = .ok (.iconst 0, 1) := by decide +kernel
theorem dX9_knocks_43 : decode cX9_knocks 43 = .ok (.iconst 0, 1) := by decide +kernel
theorem dX9_knocks_44 : decode cX9_knocks 44 = .ok (.iconst 0, 1) := by decide +kernel
theorem dX9_knocks_45 : decode cX9_knocks 45 = .ok (.invokevirtual 169, 3) := by decide +kernel
theorem dX9_knocks_48 : decode cX9_knocks 48 = .ok (.goto 78, 3) := by decide +kernel
theorem dX9_knocks_51 : decode cX9_knocks 51 = .ok (.aload_n 0, 1) := by decide +kernel
theorem dX9_knocks_52 : decode cX9_knocks 52 = .ok (.iconst 0, 1) := by decide +kernel
theorem dX9_knocks_53 : decode cX9_knocks 53 = .ok (.iload_n 2, 1) := by decide +kernel
theorem dX9_knocks_54 : decode cX9_knocks 54 = .ok (.aload_n 0, 1) := by decide +kernel
theorem dX9_knocks_55 : decode cX9_knocks 55 = .ok (.getfield 25, 3) := by decide +kernel
theorem dX9_knocks_58 : decode cX9_knocks 58 = .ok (.iload_n 2, 1) := by decide +kernel
theorem dX9_knocks_59 : decode cX9_knocks 59 = .ok (.iaload, 1) := by decide +kernel
theorem dX9_knocks_60 : decode cX9_knocks 60 = .ok (.aload_n 0, 1) := by decide +kernel
theorem dX9_knocks_61 : decode cX9_knocks 61 = .ok (.getfield 25, 3) := by decide +kernel
theorem dX9_knocks_64 : decode cX9_knocks 64 = .ok (.iconst 5, 1) := by decide +kernel
theorem dX9_knocks_65 : decode cX9_knocks 65 = .ok (.iload_n 2, 1) := by decide +kernel
theorem dX9_knocks_66 : decode cX9_knocks 66 = .ok (.iadd, 1) := by decide +kernel
theorem dX9_knocks_67 : decode cX9_knocks 67 = .ok (.iaload, 1) := by decide +kernel
theorem dX9_knocks_68 : decode cX9_knocks 68 = .ok (.invokevirtual 169, 3) := by decide +kernel
theorem dX9_knocks_71 : decode cX9_knocks 71 = .ok (.iconst 0, 1) := by decide +kernel
theorem dX9_knocks_72 : decode cX9_knocks 72 = .ok (.istore_n 3, 1) := by decide +kernel
theorem dX9_knocks_73 : decode cX9_knocks 73 = .ok (.iconst 0, 1) := by decide +kernel
theorem dX9_knocks_74 : decode cX9_knocks 74 = .ok (.istore 4, 2) := by decide +kernel
theorem dX9_knocks_76 : decode cX9_knocks 76 = .ok (.iload 4, 2) := by decide +kernel
theorem dX9_knocks_78 : decode cX9_knocks 78 = .ok (.aload_n 0, 1) := by decide +kernel
theorem dX9_knocks_79 : decode cX9_knocks 79 = .ok (.getfield 140, 3) := by decide +kernel
theorem dX9_knocks_82 : decode cX9_knocks 82 = .ok (.if_icmp .ge 22, 3) := by decide +kernel
theorem dX9_knocks_85 : decode cX9_knocks 85 = .ok (.iload_n 3, 1) := by decide +kernel
theorem dX9_knocks_86 : decode cX9_knocks 86 = .ok (.aload_n 0, 1) := by decide +kernel
theorem dX9_knocks_87 : decode cX9_knocks 87 = .ok (.getfield 25, 3) := by decide +kernel
theorem dX9_knocks_90 : decode cX9_knocks 90 = .ok (.bipush 10, 2) := by decide +kernel
theorem dX9_knocks_92 : decode cX9_knocks 92 = .ok (.iload 4, 2) := by decide +kernel
theorem dX9_knocks_94 : decode cX9_knocks 94 = .ok (.iadd, 1) := by decide +kernel
theorem dX9_knocks_95 : decode cX9_knocks 95 = .ok (.iaload, 1) := by decide +kernel
theorem dX9_knocks_96 : decode cX9_knocks 96 = .ok (.ior, 1) := by decide +kernel
theorem dX9_knocks_97 : decode cX9_knocks 97 = .ok (.istore_n 3, 1) := by decide +kernel
theorem dX9_knocks_98 : decode cX9_knocks 98 = .ok (.iinc 4 1, 3) := by decide +kernel
theorem dX9_knocks_101 : decode cX9_knocks 101 = .ok (.goto (-25), 3) := by decide +kernel
theorem dX9_knocks_104 : decode cX9_knocks 104 = .ok (.aload_n 0, 1) := by decide +kernel
theorem dX9_knocks_105 : decode cX9_knocks 105 = .ok (.getfield 25, 3) := by decide +kernel
theorem dX9_knocks_108 : decode cX9_knocks 108 = .ok (.iload_n 2, 1) := by decide +kernel
theorem dX9_knocks_109 : decode cX9_knocks 109 = .ok (.dup2, 1) := by decide +kernel
theorem dX9_knocks_110 : decode cX9_knocks 110 = .ok (.iaload, 1) := by decide +kernel
theorem dX9_knocks_111 : decode cX9_knocks 111 = .ok (.aload_n 0, 1) := by decide +kernel
theorem dX9_knocks_112 : decode cX9_knocks 112 = .ok (.getfield 25, 3) := by decide +kernel
theorem dX9_knocks_115 : decode cX9_knocks 115 = .ok (.iload_n 1, 1) := by decide +kernel
theorem dX9_knocks_116 : decode cX9_knocks 116 = .ok (.iaload, 1) := by decide +kernel
theorem dX9_knocks_117 : decode cX9_knocks 117 = .ok (.aload_n 0, 1) := by decide +kernel
theorem dX9_knocks_118 : decode cX9_knocks 118 = .ok (.getfield 131, 3) := by decide +kernel
theorem dX9_knocks_121 : decode cX9_knocks 121 = .ok (.iand, 1) := by decide +kernel
theorem dX9_knocks_122 : decode cX9_knocks 122 = .ok (.iload_n 3, 1) := by decide +kernel
theorem dX9_knocks_123 : decode cX9_knocks 123 = .ok (.iand, 1) := by decide +kernel
theorem dX9_knocks_124 : decode cX9_knocks 124 = .ok (.ior, 1) := by decide +kernel
theorem dX9_knocks_125 : decode cX9_knocks 125 = .ok (.iastore, 1) := by decide +kernel
theorem dX9_knocks_126 : decode cX9_knocks 126 = .ok (.aload_n 0, 1) := by decide +kernel
theorem dX9_knocks_127 : decode cX9_knocks 127 = .ok (.aload_n 0, 1) := by decide +kernel
theorem dX9_knocks_128 : decode cX9_knocks 128 = .ok (.getfield 25, 3) := by decide +kernel
theorem dX9_knocks_131 : decode cX9_knocks 131 = .ok (.iload_n 1, 1) := by decide +kernel
theorem dX9_knocks_132 : decode cX9_knocks 132 = .ok (.iaload, 1) := by decide +kernel
theorem dX9_knocks_133 : decode cX9_knocks 133 = .ok (.invokevirtual 157, 3) := by decide +kernel
theorem dX9_knocks_136 : decode cX9_knocks 136 = .ok (.ifCond .eq 7, 3) := by decide +kernel
theorem dX9_knocks_139 : decode cX9_knocks 139 = .ok (.iconst 1, 1) := by decide +kernel
theorem dX9_knocks_140 : decode cX9_knocks 140 = .ok (.goto 4, 3) := by decide +kernel
theorem dX9_knocks_143 : decode cX9_knocks 143 = .ok (.iconst 0, 1) := by decide +kernel
theorem dX9_knocks_144 : decode cX9_knocks 144 = .ok (.ireturn, 1) := by decide +kernel
theorem dX9_hoarse_0 : decode cX9_hoarse 0 = .ok (.aload_n 0, 1) := by decide +kernel
theorem dX9_hoarse_1 : decode cX9_hoarse 1 = .ok (.iconst 0, 1) := by decide +kernel
theorem dX9_hoarse_2 : decode cX9_hoarse 2 = .ok (.putfield 44, 3) := by decide +kernel
theorem dX9_hoarse_5 : decode cX9_hoarse 5 = .ok (.aload_n 0, 1) := by decide +kernel
theorem dX9_hoarse_6 : decode cX9_hoarse 6 = .ok (.iload_n 1, 1) := by decide +kernel
theorem dX9_hoarse_7 : decode cX9_hoarse 7 = .ok (.invokevirtual 153, 3) := by decide +kernel
theorem dX9_hoarse_10 : decode cX9_hoarse 10 = .ok (.ifCond .eq 13, 3) := by decide +kernel
theorem dX9_hoarse_13 : decode cX9_hoarse 13 = .ok (.iload_n 2, 1) := by decide +kernel
theorem dX9_hoarse_14 : decode cX9_hoarse 14 = .ok (.iconst 0, 1) := by decide +kernel
theorem dX9_hoarse_15 : decode cX9_hoarse 15 = .ok (.bipush 7, 2) := by decide +kernel
theorem dX9_hoarse_17 : decode cX9_hoarse 17 = .ok (.invokestatic 48, 3) := by decide +kernel
theorem dX9_hoarse_20 : decode cX9_hoarse 20 = .ok (.ifCond .ne 5, 3) := by decide +kernel
theorem dX9_hoarse_23 : decode cX9_hoarse 23 = .ok (.iconst (-1), 1) := by decide +kernel
theorem dX9_hoarse_24 : decode cX9_hoarse 24 = .ok (.ireturn, 1) := by decide +kernel
theorem dX9_hoarse_25 : decode cX9_hoarse 25 = .ok (.aload_n 0, 1) := by decide +kernel
theorem dX9_hoarse_26 : decode cX9_hoarse 26 = .ok (.getfield 25, 3) := by decide +kernel
theorem dX9_hoarse_29 : decode cX9_hoarse 29 = .ok (.iload_n 1, 1) := by decide +kernel
theorem dX9_hoarse_30 : decode cX9_hoarse 30 = .ok (.iaload, 1) := by decide +kernel
theorem dX9_hoarse_31 : decode cX9_hoarse 31 = .ok (.iload_n 2, 1) := by decide +kernel
theorem dX9_hoarse_32 : decode cX9_hoarse 32 = .ok (.ishr, 1) := by decide +kernel
theorem dX9_hoarse_33 : decode cX9_hoarse 33 = .ok (.iconst 1, 1) := by decide +kernel
theorem dX9_hoarse_34 : decode cX9_hoarse 34 = .ok (.iand, 1) := by decide +kernel
theorem dX9_hoarse_35 : decode cX9_hoarse 35 = .ok (.ifCond .ne 6, 3) := by decide +kernel
theorem dX9_hoarse_38 : decode cX9_hoarse 38 = .ok (.bipush (-2), 2) := by decide +kernel
theorem dX9_hoarse_40 : decode cX9_hoarse 40 = .ok (.ireturn, 1) := by decide +kernel
theorem dX9_hoarse_41 : decode cX9_hoarse 41 = .ok (.aload_n 0, 1) := by decide +kernel
theorem dX9_hoarse_42 : decode cX9_hoarse 42 = .ok (.iconst 0, 1) := by decide +kernel
theorem dX9_hoarse_43 : decode cX9_hoarse 43 = .ok (.iload_n 1, 1) := by decide +kernel
theorem dX9_hoarse_44 : decode cX9_hoarse 44 = .ok (.aload_n 0, 1) := by decide +kernel
theorem dX9_hoarse_45 : decode cX9_hoarse 45 = .ok (.getfield 25, 3) := by decide +kernel
theorem dX9_hoarse_48 : decode cX9_hoarse 48 = .ok (.iload_n 1, 1) := by decide +kernel
theorem dX9_hoarse_49 : decode cX9_hoarse 49 = .ok (.iaload, 1) := by decide +kernel
theorem dX9_hoarse_50 : decode cX9_hoarse 50 = .ok (.aload_n 0, 1) := by decide +kernel
theorem dX9_hoarse_51 : decode cX9_hoarse 51 = .ok (.getfield 25, 3) := by decide +kernel
theorem dX9_hoarse_54 : decode cX9_hoarse 54 = .ok (.iconst 5, 1) := by decide +kernel
theorem dX9_hoarse_55 : decode cX9_hoarse 55 = .ok (.iload_n 1, 1) := by decide +kernel
theorem dX9_hoarse_56 : decode cX9_hoarse 56 = .ok (.iadd, 1) := by decide +kernel
theorem dX9_hoarse_57 : decode cX9_hoarse 57 = .ok (.iaload, 1) := by decide +kernel
theorem dX9_hoarse_58 : decode cX9_hoarse 58 = .ok (.invokevirtual 169, 3) := by decide +kernel
theorem dX9_hoarse_61 : decode cX9_hoarse 61 = .ok (.aload_n 0, 1) := by decide +kernel
theorem dX9_hoarse_62 : decode cX9_hoarse 62 = .ok (.getfield 25, 3) := by decide +kernel
theorem dX9_hoarse_65 : decode cX9_hoarse 65 = .ok (.iload_n 1, 1) := by decide +kernel
theorem dX9_hoarse_66 : decode cX9_hoarse 66 = .ok (.dup2, 1) := by decide +kernel
theorem dX9_hoarse_67 : decode cX9_hoarse 67 = .ok (.iaload, 1) := by decide +kernel
theorem dX9_hoarse_68 : decode cX9_hoarse 68 = .ok (.iconst 1, 1) := by decide +kernel
theorem dX9_hoarse_69 : decode cX9_hoarse 69 = .ok (.iload_n 2, 1) := by decide +kernel
theorem dX9_hoarse_70 : decode cX9_hoarse 70 = .ok (.ishl, 1) := by decide +kernel
theorem dX9_hoarse_71 : decode cX9_hoarse 71 = .ok (.isub, 1) := by decide +kernel
theorem dX9_hoarse_72 : decode cX9_hoarse 72 = .ok (.iastore, 1) := by decide +kernel
theorem dX9_hoarse_73 : decode cX9_hoarse 73 = .ok (.aload_n 0, 1) := by decide +kernel
theorem dX9_hoarse_74 : decode cX9_hoarse 74 = .ok (.getfield 25, 3) := by decide +kernel
theorem dX9_hoarse_77 : decode cX9_hoarse 77 = .ok (.iload_n 1, 1) := by decide +kernel
theorem dX9_hoarse_78 : decode cX9_hoarse 78 = .ok (.iaload, 1) := by decide +kernel
theorem dX9_hoarse_79 : decode cX9_hoarse 79 = .ok (.invokestatic 118, 3) := by decide +kernel
theorem dX9_hoarse_82 : decode cX9_hoarse 82 = .ok (.ireturn, 1) := by decide +kernel
theorem dX9_letIn_0 : decode cX9_letIn 0 = .ok (.iconst 0, 1) := by decide +kernel
theorem dX9_letIn_1 : decode cX9_letIn 1 = .ok (.istore_n 1, 1) := by decide +kernel
theorem dX9_letIn_2 : decode cX9_letIn 2 = .ok (.iconst 0, 1) := by decide +kernel
theorem dX9_letIn_3 : decode cX9_letIn 3 = .ok (.istore_n 2, 1) := by decide +kernel
theorem dX9_letIn_4 : decode cX9_letIn 4 = .ok (.iload_n 2, 1) := by decide +kernel
theorem dX9_letIn_5 : decode cX9_letIn 5 = .ok (.aload_n 0, 1) := by decide +kernel
theorem dX9_letIn_6 : decode cX9_letIn 6 = .ok (.getfield 134, 3) := by decide +kernel
theorem dX9_letIn_9 : decode cX9_letIn 9 = .ok (.if_icmp .ge 32, 3) := by decide +kernel
theorem dX9_letIn_12 : decode cX9_letIn 12 = .ok (.iload_n 1, 1) := by decide +kernel
theorem dX9_letIn_13 : decode cX9_letIn 13 = .ok (.aload_n 0, 1) := by decide +kernel
theorem dX9_letIn_14 : decode cX9_letIn 14 = .ok (.aload_n 0, 1) := by decide +kernel
theorem dX9_letIn_15 : decode cX9_letIn 15 = .ok (.getfield 25, 3) := by decide +kernel
theorem dX9_letIn_18 : decode cX9_letIn 18 = .ok (.iload_n 2, 1) := by decide +kernel
theorem dX9_letIn_19 : decode cX9_letIn 19 = .ok (.iaload, 1) := by decide +kernel
theorem dX9_letIn_20 : decode cX9_letIn 20 = .ok (.invokevirtual 157, 3) := by decide +kernel
theorem dX9_letIn_23 : decode cX9_letIn 23 = .ok (.ifCond .eq 9, 3) := by decide +kernel
theorem dX9_letIn_26 : decode cX9_letIn 26 = .ok (.iconst 1, 1) := by decide +kernel
theorem dX9_letIn_27 : decode cX9_letIn 27 = .ok (.iload_n 2, 1) := by decide +kernel
theorem dX9_letIn_28 : decode cX9_letIn 28 = .ok (.ishl, 1) := by decide +kernel
theorem dX9_letIn_29 : decode cX9_letIn 29 = .ok (.goto 4, 3) := by decide +kernel
theorem dX9_letIn_32 : decode cX9_letIn 32 = .ok (.iconst 0, 1) := by decide +kernel
theorem dX9_letIn_33 : decode cX9_letIn 33 = .ok (.ior, 1) := by decide +kernel
theorem dX9_letIn_34 : decode cX9_letIn 34 = .ok (.istore_n 1, 1) := by decide +kernel
theorem dX9_letIn_35 : decode cX9_letIn 35 = .ok (.iinc 2 1, 3) := by decide +kernel
theorem dX9_letIn_38 : decode cX9_letIn 38 = .ok (.goto (-34), 3) := by decide +kernel
theorem dX9_letIn_41 : decode cX9_letIn 41 = .ok (.iload_n 1, 1) := by decide +kernel
theorem dX9_letIn_42 : decode cX9_letIn 42 = .ok (.ireturn, 1) := by decide +kernel
theorem dX9_change_0 : decode cX9_change 0 = .ok (.aload_n 0, 1) := by decide +kernel
theorem dX9_change_1 : decode cX9_change 1 = .ok (.iconst 0, 1) := by decide +kernel
theorem dX9_change_2 : decode cX9_change 2 = .ok (.putfield 44, 3) := by decide +kernel
theorem dX9_change_5 : decode cX9_change 5 = .ok (.aload_n 0, 1) := by decide +kernel
theorem dX9_change_6 : decode cX9_change 6 = .ok (.iload_n 1, 1) := by decide +kernel
theorem dX9_change_7 : decode cX9_change 7 = .ok (.invokevirtual 163, 3) := by decide +kernel
theorem dX9_change_10 : decode cX9_change 10 = .ok (.ifCond .eq 30, 3) := by decide +kernel
theorem dX9_change_13 : decode cX9_change 13 = .ok (.iload_n 2, 1) := by decide +kernel
theorem dX9_change_14 : decode cX9_change 14 = .ok (.iconst 1, 1) := by decide +kernel
theorem dX9_change_15 : decode cX9_change 15 = .ok (.sipush 255, 3) := by decide +kernel
theorem dX9_change_18 : decode cX9_change 18 = .ok (.invokestatic 48, 3) := by decide +kernel
theorem dX9_change_21 : decode cX9_change 21 = .ok (.ifCond .eq 19, 3) := by decide +kernel
theorem dX9_change_24 : decode cX9_change 24 = .ok (.iload_n 3, 1) := by decide +kernel
theorem dX9_change_25 : decode cX9_change 25 = .ok (.iconst 1, 1) := by decide +kernel
theorem dX9_change_26 : decode cX9_change 26 = .ok (.iload_n 2, 1) := by decide +kernel
theorem dX9_change_27 : decode cX9_change 27 = .ok (.sipush 255, 3) := by decide +kernel
theorem dX9_change_30 : decode cX9_change 30 = .ok (.iand, 1) := by decide +kernel
theorem dX9_change_31 : decode cX9_change 31 = .ok (.invokestatic 118, 3) := by decide +kernel
theorem dX9_change_34 : decode cX9_change 34 = .ok (.invokestatic 48, 3) := by decide +kernel
theorem dX9_change_37 : decode cX9_change 37 = .ok (.ifCond .ne 5, 3) := by decide +kernel
theorem dX9_change_40 : decode cX9_change 40 = .ok (.iconst (-1), 1) := by decide +kernel
theorem dX9_change_41 : decode cX9_change 41 = .ok (.ireturn, 1) := by decide +kernel
theorem dX9_change_42 : decode cX9_change 42 = .ok (.aload_n 0, 1) := by decide +kernel
theorem dX9_change_43 : decode cX9_change 43 = .ok (.iconst 1, 1) := by decide +kernel
theorem dX9_change_44 : decode cX9_change 44 = .ok (.iload_n 1, 1) := by decide +kernel
theorem dX9_change_45 : decode cX9_change 45 = .ok (.aload_n 0, 1) := by decide +kernel
theorem dX9_change_46 : decode cX9_change 46 = .ok (.getfield 25, 3) := by decide +kernel
theorem dX9_change_49 : decode cX9_change 49 = .ok (.bipush 10, 2) := by decide +kernel
theorem dX9_change_51 : decode cX9_change 51 = .ok (.iload_n 1, 1) := by decide +kernel
theorem dX9_change_52 : decode cX9_change 52 = .ok (.iadd, 1) := by decide +kernel
theorem dX9_change_53 : decode cX9_change 53 = .ok (.iaload, 1) := by decide +kernel
theorem dX9_change_54 : decode cX9_change 54 = .ok (.aload_n 0, 1) := by decide +kernel
theorem dX9_change_55 : decode cX9_change 55 = .ok (.getfield 25, 3) := by decide +kernel
theorem dX9_change_58 : decode cX9_change 58 = .ok (.bipush 14, 2) := by decide +kernel
theorem dX9_change_60 : decode cX9_change 60 = .ok (.iload_n 1, 1) := by decide +kernel
theorem dX9_change_61 : decode cX9_change 61 = .ok (.iadd, 1) := by decide +kernel
theorem dX9_change_62 : decode cX9_change 62 = .ok (.iaload, 1) := by decide +kernel
theorem dX9_change_63 : decode cX9_change 63 = .ok (.invokevirtual 169, 3) := by decide +kernel
theorem dX9_change_66 : decode cX9_change 66 = .ok (.aload_n 0, 1) := by decide +kernel
theorem dX9_change_67 : decode cX9_change 67 = .ok (.getfield 25, 3) := by decide +kernel
theorem dX9_change_70 : decode cX9_change 70 = .ok (.bipush 10, 2) := by decide +kernel
theorem dX9_change_72 : decode cX9_change 72 = .ok (.iload_n 1, 1) := by decide +kernel
theorem dX9_change_73 : decode cX9_change 73 = .ok (.iadd, 1) := by decide +kernel
theorem dX9_change_74 : decode cX9_change 74 = .ok (.iload_n 2, 1) := by decide +kernel
theorem dX9_change_75 : decode cX9_change 75 = .ok (.iastore, 1) := by decide +kernel
theorem dX9_change_76 : decode cX9_change 76 = .ok (.aload_n 0, 1) := by decide +kernel
theorem dX9_change_77 : decode cX9_change 77 = .ok (.getfield 25, 3) := by decide +kernel
theorem dX9_change_80 : decode cX9_change 80 = .ok (.bipush 14, 2) := by decide +kernel
theorem dX9_change_82 : decode cX9_change 82 = .ok (.iload_n 1, 1) := by decide +kernel
theorem dX9_change_83 : decode cX9_change 83 = .ok (.iadd, 1) := by decide +kernel
theorem dX9_change_84 : decode cX9_change 84 = .ok (.iload_n 3, 1) := by decide +kernel
theorem dX9_change_85 : decode cX9_change 85 = .ok (.iastore, 1) := by decide +kernel
theorem dX9_change_86 : decode cX9_change 86 = .ok (.aload_n 0, 1) := by decide +kernel
theorem dX9_change_87 : decode cX9_change 87 = .ok (.invokevirtual 173, 3) := by decide +kernel
theorem dX9_change_90 : decode cX9_change 90 = .ok (.invokestatic 118, 3) := by decide +kernel
theorem dX9_change_93 : decode cX9_change 93 = .ok (.ireturn, 1) := by decide +kernel
theorem dX9_undo_0 : decode cX9_undo 0 = .ok (.aload_n 0, 1) := by decide +kernel
theorem dX9_undo_1 : decode cX9_undo 1 = .ok (.iconst 0, 1) := by decide +kernel
theorem dX9_undo_2 : decode cX9_undo 2 = .ok (.putfield 44, 3) := by decide +kernel
theorem dX9_undo_5 : decode cX9_undo 5 = .ok (.aload_n 0, 1) := by decide +kernel
theorem dX9_undo_6 : decode cX9_undo 6 = .ok (.getfield 143, 3) := by decide +kernel
theorem dX9_undo_9 : decode cX9_undo 9 = .ok (.ifCond .ne 6, 3) := by decide +kernel
theorem dX9_undo_12 : decode cX9_undo 12 = .ok (.bipush (-2), 2) := by decide +kernel
theorem dX9_undo_14 : decode cX9_undo 14 = .ok (.ireturn, 1) := by decide +kernel
theorem dX9_undo_15 : decode cX9_undo 15 = .ok (.aload_n 0, 1) := by decide +kernel
theorem dX9_undo_16 : decode cX9_undo 16 = .ok (.dup, 1) := by decide +kernel
theorem dX9_undo_17 : decode cX9_undo 17 = .ok (.getfield 143, 3) := by decide +kernel
theorem dX9_undo_20 : decode cX9_undo 20 = .ok (.iconst 1, 1) := by decide +kernel
theorem dX9_undo_21 : decode cX9_undo 21 = .ok (.isub, 1) := by decide +kernel
theorem dX9_undo_22 : decode cX9_undo 22 = .ok (.putfield 143, 3) := by decide +kernel
theorem dX9_undo_25 : decode cX9_undo 25 = .ok (.iconst 4, 1) := by decide +kernel
theorem dX9_undo_26 : decode cX9_undo 26 = .ok (.aload_n 0, 1) := by decide +kernel
theorem dX9_undo_27 : decode cX9_undo 27 = .ok (.getfield 143, 3) := by decide +kernel
theorem dX9_undo_30 : decode cX9_undo 30 = .ok (.imul, 1) := by decide +kernel
theorem dX9_undo_31 : decode cX9_undo 31 = .ok (.istore_n 1, 1) := by decide +kernel
theorem dX9_undo_32 : decode cX9_undo 32 = .ok (.aload_n 0, 1) := by decide +kernel
theorem dX9_undo_33 : decode cX9_undo 33 = .ok (.getfield 35, 3) := by decide +kernel
theorem dX9_undo_36 : decode cX9_undo 36 = .ok (.iload_n 1, 1) := by decide +kernel
theorem dX9_undo_37 : decode cX9_undo 37 = .ok (.iconst 1, 1) := by decide +kernel
theorem dX9_undo_38 : decode cX9_undo 38 = .ok (.iadd, 1) := by decide +kernel
theorem dX9_undo_39 : decode cX9_undo 39 = .ok (.iaload, 1) := by decide +kernel
theorem dX9_undo_40 : decode cX9_undo 40 = .ok (.istore_n 2, 1) := by decide +kernel
theorem dX9_undo_41 : decode cX9_undo 41 = .ok (.aload_n 0, 1) := by decide +kernel
theorem dX9_undo_42 : decode cX9_undo 42 = .ok (.getfield 35, 3) := by decide +kernel
theorem dX9_undo_45 : decode cX9_undo 45 = .ok (.iload_n 1, 1) := by decide +kernel
theorem dX9_undo_46 : decode cX9_undo 46 = .ok (.iaload, 1) := by decide +kernel
theorem dX9_undo_47 : decode cX9_undo 47 = .ok (.ifCond .ne 36, 3) := by decide +kernel
theorem dX9_undo_50 : decode cX9_undo 50 = .ok (.aload_n 0, 1) := by decide +kernel
theorem dX9_undo_51 : decode cX9_undo 51 = .ok (.getfield 25, 3) := by decide +kernel
theorem dX9_undo_54 : decode cX9_undo 54 = .ok (.iload_n 2, 1) := by decide +kernel
theorem dX9_undo_55 : decode cX9_undo 55 = .ok (.aload_n 0, 1) := by decide +kernel
theorem dX9_undo_56 : decode cX9_undo 56 = .ok (.getfield 35, 3) := by decide +kernel
theorem dX9_undo_59 : decode cX9_undo 59 = .ok (.iload_n 1, 1) := by decide +kernel
theorem dX9_undo_60 : decode cX9_undo 60 = .ok (.iconst 2, 1) := by decide +kernel
theorem dX9_undo_61 : decode cX9_undo 61 = .ok (.iadd, 1) := by decide +kernel
theorem dX9_undo_62 : decode cX9_undo 62 = .ok (.iaload, 1) := by decide +kernel
theorem dX9_undo_63 : decode cX9_undo 63 = .ok (.iastore, 1) := by decide +kernel
theorem dX9_undo_64 : decode cX9_undo 64 = .ok (.aload_n 0, 1) := by decide +kernel
theorem dX9_undo_65 : decode cX9_undo 65 = .ok (.getfield 25, 3) := by decide +kernel
theorem dX9_undo_68 : decode cX9_undo 68 = .ok (.iconst 5, 1) := by decide +kernel
theorem dX9_undo_69 : decode cX9_undo 69 = .ok (.iload_n 2, 1) := by decide +kernel
theorem dX9_undo_70 : decode cX9_undo 70 = .ok (.iadd, 1) := by decide +kernel
theorem dX9_undo_71 : decode cX9_undo 71 = .ok (.aload_n 0, 1) := by decide +kernel
theorem dX9_undo_72 : decode cX9_undo 72 = .ok (.getfield 35, 3) := by decide +kernel
theorem dX9_undo_75 : decode cX9_undo 75 = .ok (.iload_n 1, 1) := by decide +kernel
theorem dX9_undo_76 : decode cX9_undo 76 = .ok (.iconst 3, 1) := by decide +kernel
theorem dX9_undo_77 : decode cX9_undo 77 = .ok (.iadd, 1) := by decide +kernel
theorem dX9_undo_78 : decode cX9_undo 78 = .ok (.iaload, 1) := by decide +kernel
theorem dX9_undo_79 : decode cX9_undo 79 = .ok (.iastore, 1) := by decide +kernel
theorem dX9_undo_80 : decode cX9_undo 80 = .ok (.goto 47, 3) := by decide +kernel
theorem dX9_undo_83 : decode cX9_undo 83 = .ok (.aload_n 0, 1) := by decide +kernel
theorem dX9_undo_84 : decode cX9_undo 84 = .ok (.getfield 35, 3) := by decide +kernel
theorem dX9_undo_87 : decode cX9_undo 87 = .ok (.iload_n 1, 1) := by decide +kernel
theorem dX9_undo_88 : decode cX9_undo 88 = .ok (.iaload, 1) := by decide +kernel
theorem dX9_undo_89 : decode cX9_undo 89 = .ok (.iconst 1, 1) := by decide +kernel
theorem dX9_undo_90 : decode cX9_undo 90 = .ok (.if_icmp .ne 37, 3) := by decide +kernel
theorem dX9_undo_93 : decode cX9_undo 93 = .ok (.aload_n 0, 1) := by decide +kernel
theorem dX9_undo_94 : decode cX9_undo 94 = .ok (.getfield 25, 3) := by decide +kernel
theorem dX9_undo_97 : decode cX9_undo 97 = .ok (.bipush 10, 2) := by decide +kernel
theorem dX9_undo_99 : decode cX9_undo 99 = .ok (.iload_n 2, 1) := by decide +kernel
theorem dX9_undo_100 : decode cX9_undo 100 = .ok (.iadd, 1) := by decide +kernel
theorem dX9_undo_101 : decode cX9_undo 101 = .ok (.aload_n 0, 1) := by decide +kernel
theorem dX9_undo_102 : decode cX9_undo 102 = .ok (.getfield 35, 3) := by decide +kernel
theorem dX9_undo_105 : decode cX9_undo 105 = .ok (.iload_n 1, 1) := by decide +kernel
theorem dX9_undo_106 : decode cX9_undo 106 = .ok (.iconst 2, 1) := by decide +kernel
theorem dX9_undo_107 : decode cX9_undo 107 = .ok (.iadd, 1) := by decide +kernel
theorem dX9_undo_108 : decode cX9_undo 108 = .ok (.iaload, 1) := by decide +kernel
theorem dX9_undo_109 : decode cX9_undo 109 = .ok (.iastore, 1) := by decide +kernel
theorem dX9_undo_110 : decode cX9_undo 110 = .ok (.aload_n 0, 1) := by decide +kernel
theorem dX9_undo_111 : decode cX9_undo 111 = .ok (.getfield 25, 3) := by decide +kernel
theorem dX9_undo_114 : decode cX9_undo 114 = .ok (.bipush 14, 2) := by decide +kernel
theorem dX9_undo_116 : decode cX9_undo 116 = .ok (.iload_n 2, 1) := by decide +kernel
theorem dX9_undo_117 : decode cX9_undo 117 = .ok (.iadd, 1) := by decide +kernel
theorem dX9_undo_118 : decode cX9_undo 118 = .ok (.aload_n 0, 1) := by decide +kernel
theorem dX9_undo_119 : decode cX9_undo 119 = .ok (.getfield 35, 3) := by decide +kernel
theorem dX9_undo_122 : decode cX9_undo 122 = .ok (.iload_n 1, 1) := by decide +kernel
theorem dX9_undo_123 : decode cX9_undo 123 = .ok (.iconst 3, 1) := by decide +kernel
theorem dX9_undo_124 : decode cX9_undo 124 = .ok (.iadd, 1) := by decide +kernel
theorem dX9_undo_125 : decode cX9_undo 125 = .ok (.iaload, 1) := by decide +kernel
theorem dX9_undo_126 : decode cX9_undo 126 = .ok (.iastore, 1) := by decide +kernel
theorem dX9_undo_127 : decode cX9_undo 127 = .ok (.aload_n 0, 1) := by decide +kernel
theorem dX9_undo_128 : decode cX9_undo 128 = .ok (.getfield 143, 3) := by decide +kernel
theorem dX9_undo_131 : decode cX9_undo 131 = .ok (.ireturn, 1) := by decide +kernel
theorem dX9_rightOnes_0 : decode cX9_rightOnes 0 = .ok (.iconst 0, 1) := by decide +kernel
theorem dX9_rightOnes_1 : decode cX9_rightOnes 1 = .ok (.istore_n 1, 1) := by decide +kernel
theorem dX9_rightOnes_2 : decode cX9_rightOnes 2 = .ok (.iconst 0, 1) := by decide +kernel
theorem dX9_rightOnes_3 : decode cX9_rightOnes 3 = .ok (.istore_n 2, 1) := by decide +kernel
theorem dX9_rightOnes_4 : decode cX9_rightOnes 4 = .ok (.iload_n 2, 1) := by decide +kernel
theorem dX9_rightOnes_5 : decode cX9_rightOnes 5 = .ok (.aload_n 0, 1) := by decide +kernel
theorem dX9_rightOnes_6 : decode cX9_rightOnes 6 = .ok (.getfield 134, 3) := by decide +kernel
theorem dX9_rightOnes_9 : decode cX9_rightOnes 9 = .ok (.if_icmp .ge 20, 3) := by decide +kernel
theorem dX9_rightOnes_12 : decode cX9_rightOnes 12 = .ok (.iload_n 1, 1) := by decide +kernel
theorem dX9_rightOnes_13 : decode cX9_rightOnes 13 = .ok (.aload_n 0, 1) := by decide +kernel
theorem dX9_rightOnes_14 : decode cX9_rightOnes 14 = .ok (.getfield 13, 3) := by decide +kernel
theorem dX9_rightOnes_17 : decode cX9_rightOnes 17 = .ok (.iload_n 2, 1) := by decide +kernel
theorem dX9_rightOnes_18 : decode cX9_rightOnes 18 = .ok (.iaload, 1) := by decide +kernel
theorem dX9_rightOnes_19 : decode cX9_rightOnes 19 = .ok (.iload_n 2, 1) := by decide +kernel
theorem dX9_rightOnes_20 : decode cX9_rightOnes 20 = .ok (.ishl, 1) := by decide +kernel
theorem dX9_rightOnes_21 : decode cX9_rightOnes 21 = .ok (.ior, 1) := by decide +kernel
theorem dX9_rightOnes_22 : decode cX9_rightOnes 22 = .ok (.istore_n 1, 1) := by decide +kernel
theorem dX9_rightOnes_23 : decode cX9_rightOnes 23 = .ok (.iinc 2 1, 3) := by decide +kernel
theorem dX9_rightOnes_26 : decode cX9_rightOnes 26 = .ok (.goto (-22), 3) := by decide +kernel
theorem dX9_rightOnes_29 : decode cX9_rightOnes 29 = .ok (.iload_n 1, 1) := by decide +kernel
theorem dX9_rightOnes_30 : decode cX9_rightOnes 30 = .ok (.ireturn, 1) := by decide +kernel
theorem dX9_now_0 : decode cX9_now 0 = .ok (.aload_n 0, 1) := by decide +kernel
theorem dX9_now_1 : decode cX9_now 1 = .ok (.iconst 0, 1) := by decide +kernel
theorem dX9_now_2 : decode cX9_now 2 = .ok (.putfield 44, 3) := by decide +kernel
theorem dX9_now_5 : decode cX9_now 5 = .ok (.iload_n 1, 1) := by decide +kernel
theorem dX9_now_6 : decode cX9_now 6 = .ok (.iconst 3, 1) := by decide +kernel
theorem dX9_now_7 : decode cX9_now 7 = .ok (.if_icmp .ge 54, 3) := by decide +kernel
theorem dX9_now_10 : decode cX9_now 10 = .ok (.iload_n 1, 1) := by decide +kernel
theorem dX9_now_11 : decode cX9_now 11 = .ok (.ifCond .ne 10, 3) := by decide +kernel
theorem dX9_now_14 : decode cX9_now 14 = .ok (.aload_n 0, 1) := by decide +kernel
theorem dX9_now_15 : decode cX9_now 15 = .ok (.invokevirtual 173, 3) := by decide +kernel
theorem dX9_now_18 : decode cX9_now 18 = .ok (.goto 42, 3) := by decide +kernel
theorem dX9_now_21 : decode cX9_now 21 = .ok (.iload_n 1, 1) := by decide +kernel
theorem dX9_now_22 : decode cX9_now 22 = .ok (.iconst 1, 1) := by decide +kernel
theorem dX9_now_23 : decode cX9_now 23 = .ok (.if_icmp .ne 17, 3) := by decide +kernel
theorem dX9_now_26 : decode cX9_now 26 = .ok (.aload_n 0, 1) := by decide +kernel
theorem dX9_now_27 : decode cX9_now 27 = .ok (.invokevirtual 173, 3) := by decide +kernel
theorem dX9_now_30 : decode cX9_now 30 = .ok (.aload_n 0, 1) := by decide +kernel
theorem dX9_now_31 : decode cX9_now 31 = .ok (.invokevirtual 176, 3) := by decide +kernel
theorem dX9_now_34 : decode cX9_now 34 = .ok (.iconst (-1), 1) := by decide +kernel
theorem dX9_now_35 : decode cX9_now 35 = .ok (.ixor, 1) := by decide +kernel
theorem dX9_now_36 : decode cX9_now 36 = .ok (.iand, 1) := by decide +kernel
theorem dX9_now_37 : decode cX9_now 37 = .ok (.goto 23, 3) := by decide +kernel
theorem dX9_now_40 : decode cX9_now 40 = .ok (.iload_n 1, 1) := by decide +kernel
theorem dX9_now_41 : decode cX9_now 41 = .ok (.iconst 2, 1) := by decide +kernel
theorem dX9_now_42 : decode cX9_now 42 = .ok (.if_icmp .ne 17, 3) := by decide +kernel
theorem dX9_now_45 : decode cX9_now 45 = .ok (.aload_n 0, 1) := by decide +kernel
theorem dX9_now_46 : decode cX9_now 46 = .ok (.invokevirtual 176, 3) := by decide +kernel
theorem dX9_now_49 : decode cX9_now 49 = .ok (.aload_n 0, 1) := by decide +kernel
theorem dX9_now_50 : decode cX9_now 50 = .ok (.invokevirtual 173, 3) := by decide +kernel
theorem dX9_now_53 : decode cX9_now 53 = .ok (.iconst (-1), 1) := by decide +kernel
theorem dX9_now_54 : decode cX9_now 54 = .ok (.ixor, 1) := by decide +kernel
theorem dX9_now_55 : decode cX9_now 55 = .ok (.iand, 1) := by decide +kernel
theorem dX9_now_56 : decode cX9_now 56 = .ok (.goto 4, 3) := by decide +kernel
theorem dX9_now_59 : decode cX9_now 59 = .ok (.iconst (-1), 1) := by decide +kernel
theorem dX9_now_60 : decode cX9_now 60 = .ok (.ireturn, 1) := by decide +kernel
theorem dX9_now_61 : decode cX9_now 61 = .ok (.iload_n 1, 1) := by decide +kernel
theorem dX9_now_62 : decode cX9_now 62 = .ok (.iconst 3, 1) := by decide +kernel
theorem dX9_now_63 : decode cX9_now 63 = .ok (.if_icmp .ne 10, 3) := by decide +kernel
theorem dX9_now_66 : decode cX9_now 66 = .ok (.aload_n 0, 1) := by decide +kernel
theorem dX9_now_67 : decode cX9_now 67 = .ok (.getfield 143, 3) := by decide +kernel
theorem dX9_now_70 : decode cX9_now 70 = .ok (.goto 16, 3) := by decide +kernel
theorem dX9_now_73 : decode cX9_now 73 = .ok (.iload_n 1, 1) := by decide +kernel
theorem dX9_now_74 : decode cX9_now 74 = .ok (.iconst 4, 1) := by decide +kernel
theorem dX9_now_75 : decode cX9_now 75 = .ok (.if_icmp .ne 10, 3) := by decide +kernel
theorem dX9_now_78 : decode cX9_now 78 = .ok (.aload_n 0, 1) := by decide +kernel
theorem dX9_now_79 : decode cX9_now 79 = .ok (.getfield 131, 3) := by decide +kernel
theorem dX9_now_82 : decode cX9_now 82 = .ok (.goto 4, 3) := by decide +kernel
theorem dX9_now_85 : decode cX9_now 85 = .ok (.iconst (-1), 1) := by decide +kernel
theorem dX9_now_86 : decode cX9_now 86 = .ok (.ireturn, 1) := by decide +kernel
theorem dX9_gotBy_0 : decode cX9_gotBy 0 = .ok (.iload_n 1, 1) := by decide +kernel
theorem dX9_gotBy_1 : decode cX9_gotBy 1 = .ok (.istore_n 3, 1) := by decide +kernel
theorem dX9_gotBy_2 : decode cX9_gotBy 2 = .ok (.iload_n 2, 1) := by decide +kernel
theorem dX9_gotBy_3 : decode cX9_gotBy 3 = .ok (.istore 4, 2) := by decide +kernel
theorem dX9_gotBy_5 : decode cX9_gotBy 5 = .ok (.iconst 1, 1) := by decide +kernel
theorem dX9_gotBy_6 : decode cX9_gotBy 6 = .ok (.istore 5, 2) := by decide +kernel
theorem dX9_gotBy_8 : decode cX9_gotBy 8 = .ok (.iload 4, 2) := by decide +kernel
theorem dX9_gotBy_10 : decode cX9_gotBy 10 = .ok (.ifCond .eq 79, 3) := by decide +kernel
theorem dX9_gotBy_13 : decode cX9_gotBy 13 = .ok (.iload 5, 2) := by decide +kernel
theorem dX9_gotBy_15 : decode cX9_gotBy 15 = .ok (.ifCond .eq 74, 3) := by decide +kernel
theorem dX9_gotBy_18 : decode cX9_gotBy 18 = .ok (.iconst 0, 1) := by decide +kernel
theorem dX9_gotBy_19 : decode cX9_gotBy 19 = .ok (.istore 5, 2) := by decide +kernel
theorem dX9_gotBy_21 : decode cX9_gotBy 21 = .ok (.iconst 0, 1) := by decide +kernel
theorem dX9_gotBy_22 : decode cX9_gotBy 22 = .ok (.istore 6, 2) := by decide +kernel
theorem dX9_gotBy_24 : decode cX9_gotBy 24 = .ok (.iload 6, 2) := by decide +kernel
theorem dX9_gotBy_26 : decode cX9_gotBy 26 = .ok (.aload_n 0, 1) := by decide +kernel
theorem dX9_gotBy_27 : decode cX9_gotBy 27 = .ok (.getfield 137, 3) := by decide +kernel
theorem dX9_gotBy_30 : decode cX9_gotBy 30 = .ok (.if_icmp .ge 56, 3) := by decide +kernel
theorem dX9_gotBy_33 : decode cX9_gotBy 33 = .ok (.iload 4, 2) := by decide +kernel
theorem dX9_gotBy_35 : decode cX9_gotBy 35 = .ok (.iload 6, 2) := by decide +kernel
theorem dX9_gotBy_37 : decode cX9_gotBy 37 = .ok (.ishr, 1) := by decide +kernel
theorem dX9_gotBy_38 : decode cX9_gotBy 38 = .ok (.iconst 1, 1) := by decide +kernel
theorem dX9_gotBy_39 : decode cX9_gotBy 39 = .ok (.iand, 1) := by decide +kernel
theorem dX9_gotBy_40 : decode cX9_gotBy 40 = .ok (.iconst 1, 1) := by decide +kernel
theorem dX9_gotBy_41 : decode cX9_gotBy 41 = .ok (.if_icmp .ne 39, 3) := by decide +kernel
theorem dX9_gotBy_44 : decode cX9_gotBy 44 = .ok (.aload_n 0, 1) := by decide +kernel
theorem dX9_gotBy_45 : decode cX9_gotBy 45 = .ok (.iload_n 3, 1) := by decide +kernel
theorem dX9_gotBy_46 : decode cX9_gotBy 46 = .ok (.iload 6, 2) := by decide +kernel
theorem dX9_gotBy_48 : decode cX9_gotBy 48 = .ok (.invokevirtual 166, 3) := by decide +kernel
theorem dX9_gotBy_51 : decode cX9_gotBy 51 = .ok (.ifCond .eq 29, 3) := by decide +kernel
theorem dX9_gotBy_54 : decode cX9_gotBy 54 = .ok (.iload_n 3, 1) := by decide +kernel
theorem dX9_gotBy_55 : decode cX9_gotBy 55 = .ok (.iconst 1, 1) := by decide +kernel
theorem dX9_gotBy_56 : decode cX9_gotBy 56 = .ok (.aload_n 0, 1) := by decide +kernel
theorem dX9_gotBy_57 : decode cX9_gotBy 57 = .ok (.getfield 19, 3) := by decide +kernel
theorem dX9_gotBy_60 : decode cX9_gotBy 60 = .ok (.iconst 3, 1) := by decide +kernel
theorem dX9_gotBy_61 : decode cX9_gotBy 61 = .ok (.iload 6, 2) := by decide +kernel
theorem dX9_gotBy_63 : decode cX9_gotBy 63 = .ok (.imul, 1) := by decide +kernel
theorem dX9_gotBy_64 : decode cX9_gotBy 64 = .ok (.iaload, 1) := by decide +kernel
theorem dX9_gotBy_65 : decode cX9_gotBy 65 = .ok (.ishl, 1) := by decide +kernel
theorem dX9_gotBy_66 : decode cX9_gotBy 66 = .ok (.ior, 1) := by decide +kernel
theorem dX9_gotBy_67 : decode cX9_gotBy 67 = .ok (.istore_n 3, 1) := by decide +kernel
theorem dX9_gotBy_68 : decode cX9_gotBy 68 = .ok (.iload 4, 2) := by decide +kernel
theorem dX9_gotBy_70 : decode cX9_gotBy 70 = .ok (.iconst 1, 1) := by decide +kernel
theorem dX9_gotBy_71 : decode cX9_gotBy 71 = .ok (.iload 6, 2) := by decide +kernel
theorem dX9_gotBy_73 : decode cX9_gotBy 73 = .ok (.ishl, 1) := by decide +kernel
theorem dX9_gotBy_74 : decode cX9_gotBy 74 = .ok (.isub, 1) := by decide +kernel
theorem dX9_gotBy_75 : decode cX9_gotBy 75 = .ok (.istore 4, 2) := by decide +kernel
theorem dX9_gotBy_77 : decode cX9_gotBy 77 = .ok (.iconst 1, 1) := by decide +kernel
theorem dX9_gotBy_78 : decode cX9_gotBy 78 = .ok (.istore 5, 2) := by decide +kernel
theorem dX9_gotBy_80 : decode cX9_gotBy 80 = .ok (.iinc 6 1, 3) := by decide +kernel
theorem dX9_gotBy_83 : decode cX9_gotBy 83 = .ok (.goto (-59), 3) := by decide +kernel
theorem dX9_gotBy_86 : decode cX9_gotBy 86 = .ok (.goto (-78), 3) := by decide +kernel
theorem dX9_gotBy_89 : decode cX9_gotBy 89 = .ok (.iload 4, 2) := by decide +kernel
theorem dX9_gotBy_91 : decode cX9_gotBy 91 = .ok (.ifCond .ne 7, 3) := by decide +kernel
theorem dX9_gotBy_94 : decode cX9_gotBy 94 = .ok (.iload_n 3, 1) := by decide +kernel
theorem dX9_gotBy_95 : decode cX9_gotBy 95 = .ok (.goto 5, 3) := by decide +kernel
theorem dX9_gotBy_98 : decode cX9_gotBy 98 = .ok (.bipush (-9), 2) := by decide +kernel
theorem dX9_gotBy_100 : decode cX9_gotBy 100 = .ok (.ireturn, 1) := by decide +kernel
theorem dX9_hoursOf_0 : decode cX9_hoursOf 0 = .ok (.iconst 0, 1) := by decide +kernel
theorem dX9_hoursOf_1 : decode cX9_hoursOf 1 = .ok (.istore_n 2, 1) := by decide +kernel
theorem dX9_hoursOf_2 : decode cX9_hoursOf 2 = .ok (.iconst 0, 1) := by decide +kernel
theorem dX9_hoursOf_3 : decode cX9_hoursOf 3 = .ok (.istore_n 3, 1) := by decide +kernel
theorem dX9_hoursOf_4 : decode cX9_hoursOf 4 = .ok (.iload_n 3, 1) := by decide +kernel
theorem dX9_hoursOf_5 : decode cX9_hoursOf 5 = .ok (.aload_n 0, 1) := by decide +kernel
theorem dX9_hoursOf_6 : decode cX9_hoursOf 6 = .ok (.getfield 137, 3) := by decide +kernel
theorem dX9_hoursOf_9 : decode cX9_hoursOf 9 = .ok (.if_icmp .ge 35, 3) := by decide +kernel
theorem dX9_hoursOf_12 : decode cX9_hoursOf 12 = .ok (.iload_n 2, 1) := by decide +kernel
theorem dX9_hoursOf_13 : decode cX9_hoursOf 13 = .ok (.iload_n 1, 1) := by decide +kernel
theorem dX9_hoursOf_14 : decode cX9_hoursOf 14 = .ok (.iload_n 3, 1) := by decide +kernel
theorem dX9_hoursOf_15 : decode cX9_hoursOf 15 = .ok (.ishr, 1) := by decide +kernel
theorem dX9_hoursOf_16 : decode cX9_hoursOf 16 = .ok (.iconst 1, 1) := by decide +kernel
theorem dX9_hoursOf_17 : decode cX9_hoursOf 17 = .ok (.iand, 1) := by decide +kernel
theorem dX9_hoursOf_18 : decode cX9_hoursOf 18 = .ok (.iconst 1, 1) := by decide +kernel
theorem dX9_hoursOf_19 : decode cX9_hoursOf 19 = .ok (.if_icmp .ne 16, 3) := by decide +kernel
theorem dX9_hoursOf_22 : decode cX9_hoursOf 22 = .ok (.aload_n 0, 1) := by decide +kernel
theorem dX9_hoursOf_23 : decode cX9_hoursOf 23 = .ok (.getfield 19, 3) := by decide +kernel
theorem dX9_hoursOf_26 : decode cX9_hoursOf 26 = .ok (.iconst 3, 1) := by decide +kernel
theorem dX9_hoursOf_27 : decode cX9_hoursOf 27 = .ok (.iload_n 3, 1) := by decide +kernel
theorem dX9_hoursOf_28 : decode cX9_hoursOf 28 = .ok (.imul, 1) := by decide +kernel
theorem dX9_hoursOf_29 : decode cX9_hoursOf 29 = .ok (.iconst 1, 1) := by decide +kernel
theorem dX9_hoursOf_30 : decode cX9_hoursOf 30 = .ok (.iadd, 1) := by decide +kernel
theorem dX9_hoursOf_31 : decode cX9_hoursOf 31 = .ok (.iaload, 1) := by decide +kernel
theorem dX9_hoursOf_32 : decode cX9_hoursOf 32 = .ok (.goto 4, 3) := by decide +kernel
theorem dX9_hoursOf_35 : decode cX9_hoursOf 35 = .ok (.iconst 0, 1) := by decide +kernel
theorem dX9_hoursOf_36 : decode cX9_hoursOf 36 = .ok (.iadd, 1) := by decide +kernel
theorem dX9_hoursOf_37 : decode cX9_hoursOf 37 = .ok (.istore_n 2, 1) := by decide +kernel
theorem dX9_hoursOf_38 : decode cX9_hoursOf 38 = .ok (.iinc 3 1, 3) := by decide +kernel
theorem dX9_hoursOf_41 : decode cX9_hoursOf 41 = .ok (.goto (-37), 3) := by decide +kernel
theorem dX9_hoursOf_44 : decode cX9_hoursOf 44 = .ok (.iload_n 2, 1) := by decide +kernel
theorem dX9_hoursOf_45 : decode cX9_hoursOf 45 = .ok (.ireturn, 1) := by decide +kernel
theorem dX9_soonestBy_0 : decode cX9_soonestBy 0 = .ok (.bipush (-9), 2) := by decide +kernel
theorem dX9_soonestBy_2 : decode cX9_soonestBy 2 = .ok (.istore_n 3, 1) := by decide +kernel
theorem dX9_soonestBy_3 : decode cX9_soonestBy 3 = .ok (.iconst 0, 1) := by decide +kernel
theorem dX9_soonestBy_4 : decode cX9_soonestBy 4 = .ok (.istore 4, 2) := by decide +kernel
theorem dX9_soonestBy_6 : decode cX9_soonestBy 6 = .ok (.iload 4, 2) := by decide +kernel
theorem dX9_soonestBy_8 : decode cX9_soonestBy 8 = .ok (.iconst 1, 1) := by decide +kernel
theorem dX9_soonestBy_9 : decode cX9_soonestBy 9 = .ok (.aload_n 0, 1) := by decide +kernel
theorem dX9_soonestBy_10 : decode cX9_soonestBy 10 = .ok (.getfield 137, 3) := by decide +kernel
theorem dX9_soonestBy_13 : decode cX9_soonestBy 13 = .ok (.ishl, 1) := by decide +kernel
theorem dX9_soonestBy_14 : decode cX9_soonestBy 14 = .ok (.if_icmp .ge 94, 3) := by decide +kernel
theorem dX9_soonestBy_17 : decode cX9_soonestBy 17 = .ok (.iload_n 2, 1) := by decide +kernel
theorem dX9_soonestBy_18 : decode cX9_soonestBy 18 = .ok (.bipush (-9), 2) := by decide +kernel
theorem dX9_soonestBy_20 : decode cX9_soonestBy 20 = .ok (.if_icmp .eq 12, 3) := by decide +kernel
theorem dX9_soonestBy_23 : decode cX9_soonestBy 23 = .ok (.iload 4, 2) := by decide +kernel
theorem dX9_soonestBy_25 : decode cX9_soonestBy 25 = .ok (.iload_n 2, 1) := by decide +kernel
theorem dX9_soonestBy_26 : decode cX9_soonestBy 26 = .ok (.ishr, 1) := by decide +kernel
theorem dX9_soonestBy_27 : decode cX9_soonestBy 27 = .ok (.iconst 1, 1) := by decide +kernel
theorem dX9_soonestBy_28 : decode cX9_soonestBy 28 = .ok (.iand, 1) := by decide +kernel
theorem dX9_soonestBy_29 : decode cX9_soonestBy 29 = .ok (.ifCond .ne 7, 3) := by decide +kernel
theorem dX9_soonestBy_32 : decode cX9_soonestBy 32 = .ok (.iconst 1, 1) := by decide +kernel
theorem dX9_soonestBy_33 : decode cX9_soonestBy 33 = .ok (.goto 4, 3) := by decide +kernel
theorem dX9_soonestBy_36 : decode cX9_soonestBy 36 = .ok (.iconst 0, 1) := by decide +kernel
theorem dX9_soonestBy_37 : decode cX9_soonestBy 37 = .ok (.istore 5, 2) := by decide +kernel
theorem dX9_soonestBy_39 : decode cX9_soonestBy 39 = .ok (.iload 5, 2) := by decide +kernel
theorem dX9_soonestBy_41 : decode cX9_soonestBy 41 = .ok (.ifCond .eq 18, 3) := by decide +kernel
theorem dX9_soonestBy_44 : decode cX9_soonestBy 44 = .ok (.aload_n 0, 1) := by decide +kernel
theorem dX9_soonestBy_45 : decode cX9_soonestBy 45 = .ok (.aload_n 0, 1) := by decide +kernel
theorem dX9_soonestBy_46 : decode cX9_soonestBy 46 = .ok (.getfield 25, 3) := by decide +kernel
theorem dX9_soonestBy_49 : decode cX9_soonestBy 49 = .ok (.iload_n 1, 1) := by decide +kernel
theorem dX9_soonestBy_50 : decode cX9_soonestBy 50 = .ok (.iaload, 1) := by decide +kernel
theorem dX9_soonestBy_51 : decode cX9_soonestBy 51 = .ok (.iload 4, 2) := by decide +kernel
theorem dX9_soonestBy_53 : decode cX9_soonestBy 53 = .ok (.invokevirtual 179, 3) := by decide +kernel
theorem dX9_soonestBy_56 : decode cX9_soonestBy 56 = .ok (.goto 5, 3) := by decide +kernel
theorem dX9_soonestBy_59 : decode cX9_soonestBy 59 = .ok (.bipush (-9), 2) := by decide +kernel
theorem dX9_soonestBy_61 : decode cX9_soonestBy 61 = .ok (.istore 6, 2) := by decide +kernel
theorem dX9_soonestBy_63 : decode cX9_soonestBy 63 = .ok (.iload 6, 2) := by decide +kernel
theorem dX9_soonestBy_65 : decode cX9_soonestBy 65 = .ok (.bipush (-9), 2) := by decide +kernel
theorem dX9_soonestBy_67 : decode cX9_soonestBy 67 = .ok (.if_icmp .eq 35, 3) := by decide +kernel
theorem dX9_soonestBy_70 : decode cX9_soonestBy 70 = .ok (.aload_n 0, 1) := by decide +kernel
theorem dX9_soonestBy_71 : decode cX9_soonestBy 71 = .ok (.iload 6, 2) := by decide +kernel
theorem dX9_soonestBy_73 : decode cX9_soonestBy 73 = .ok (.invokevirtual 157, 3) := by decide +kernel
theorem dX9_soonestBy_76 : decode cX9_soonestBy 76 = .ok (.ifCond .eq 26, 3) := by decide +kernel
theorem dX9_soonestBy_79 : decode cX9_soonestBy 79 = .ok (.iload_n 3, 1) := by decide +kernel
theorem dX9_soonestBy_80 : decode cX9_soonestBy 80 = .ok (.bipush (-9), 2) := by decide +kernel
theorem dX9_soonestBy_82 : decode cX9_soonestBy 82 = .ok (.if_icmp .eq 17, 3) := by decide +kernel
theorem dX9_soonestBy_85 : decode cX9_soonestBy 85 = .ok (.aload_n 0, 1) := by decide +kernel
theorem dX9_soonestBy_86 : decode cX9_soonestBy 86 = .ok (.iload 4, 2) := by decide +kernel
theorem dX9_soonestBy_88 : decode cX9_soonestBy 88 = .ok (.invokevirtual 182, 3) := by decide +kernel
theorem dX9_soonestBy_91 : decode cX9_soonestBy 91 = .ok (.aload_n 0, 1) := by decide +kernel
theorem dX9_soonestBy_92 : decode cX9_soonestBy 92 = .ok (.iload_n 3, 1) := by decide +kernel
theorem dX9_soonestBy_93 : decode cX9_soonestBy 93 = .ok (.invokevirtual 182, 3) := by decide +kernel
theorem dX9_soonestBy_96 : decode cX9_soonestBy 96 = .ok (.if_icmp .ge 6, 3) := by decide +kernel
theorem dX9_soonestBy_99 : decode cX9_soonestBy 99 = .ok (.iload 4, 2) := by decide +kernel
theorem dX9_soonestBy_101 : decode cX9_soonestBy 101 = .ok (.istore_n 3, 1) := by decide +kernel
theorem dX9_soonestBy_102 : decode cX9_soonestBy 102 = .ok (.iinc 4 1, 3) := by decide +kernel
theorem dX9_soonestBy_105 : decode cX9_soonestBy 105 = .ok (.goto (-99), 3) := by decide +kernel
theorem dX9_soonestBy_108 : decode cX9_soonestBy 108 = .ok (.iload_n 3, 1) := by decide +kernel
theorem dX9_soonestBy_109 : decode cX9_soonestBy 109 = .ok (.ireturn, 1) := by decide +kernel
theorem dX9_soonest_0 : decode cX9_soonest 0 = .ok (.aload_n 0, 1) := by decide +kernel
theorem dX9_soonest_1 : decode cX9_soonest 1 = .ok (.iconst 0, 1) := by decide +kernel
theorem dX9_soonest_2 : decode cX9_soonest 2 = .ok (.putfield 44, 3) := by decide +kernel
theorem dX9_soonest_5 : decode cX9_soonest 5 = .ok (.aload_n 0, 1) := by decide +kernel
theorem dX9_soonest_6 : decode cX9_soonest 6 = .ok (.iload_n 1, 1) := by decide +kernel
theorem dX9_soonest_7 : decode cX9_soonest 7 = .ok (.invokevirtual 153, 3) := by decide +kernel
theorem dX9_soonest_10 : decode cX9_soonest 10 = .ok (.ifCond .eq 12, 3) := by decide +kernel
theorem dX9_soonest_13 : decode cX9_soonest 13 = .ok (.iload_n 2, 1) := by decide +kernel
theorem dX9_soonest_14 : decode cX9_soonest 14 = .ok (.iconst 0, 1) := by decide +kernel
theorem dX9_soonest_15 : decode cX9_soonest 15 = .ok (.iconst 1, 1) := by decide +kernel
theorem dX9_soonest_16 : decode cX9_soonest 16 = .ok (.invokestatic 48, 3) := by decide +kernel
theorem dX9_soonest_19 : decode cX9_soonest 19 = .ok (.ifCond .ne 5, 3) := by decide +kernel
theorem dX9_soonest_22 : decode cX9_soonest 22 = .ok (.iconst (-1), 1) := by decide +kernel
theorem dX9_soonest_23 : decode cX9_soonest 23 = .ok (.ireturn, 1) := by decide +kernel
theorem dX9_soonest_24 : decode cX9_soonest 24 = .ok (.aload_n 0, 1) := by decide +kernel
theorem dX9_soonest_25 : decode cX9_soonest 25 = .ok (.iload_n 1, 1) := by decide +kernel
theorem dX9_soonest_26 : decode cX9_soonest 26 = .ok (.bipush (-9), 2) := by decide +kernel
theorem dX9_soonest_28 : decode cX9_soonest 28 = .ok (.invokevirtual 185, 3) := by decide +kernel
theorem dX9_soonest_31 : decode cX9_soonest 31 = .ok (.istore_n 3, 1) := by decide +kernel
theorem dX9_soonest_32 : decode cX9_soonest 32 = .ok (.iload_n 3, 1) := by decide +kernel
theorem dX9_soonest_33 : decode cX9_soonest 33 = .ok (.bipush (-9), 2) := by decide +kernel
theorem dX9_soonest_35 : decode cX9_soonest 35 = .ok (.if_icmp .eq 8, 3) := by decide +kernel
theorem dX9_soonest_38 : decode cX9_soonest 38 = .ok (.iload_n 2, 1) := by decide +kernel
theorem dX9_soonest_39 : decode cX9_soonest 39 = .ok (.iconst 1, 1) := by decide +kernel
theorem dX9_soonest_40 : decode cX9_soonest 40 = .ok (.if_icmp .ne 7, 3) := by decide +kernel
theorem dX9_soonest_43 : decode cX9_soonest 43 = .ok (.iload_n 3, 1) := by decide +kernel
theorem dX9_soonest_44 : decode cX9_soonest 44 = .ok (.goto 8, 3) := by decide +kernel
theorem dX9_soonest_47 : decode cX9_soonest 47 = .ok (.aload_n 0, 1) := by decide +kernel
theorem dX9_soonest_48 : decode cX9_soonest 48 = .ok (.iload_n 3, 1) := by decide +kernel
theorem dX9_soonest_49 : decode cX9_soonest 49 = .ok (.invokevirtual 182, 3) := by decide +kernel
theorem dX9_soonest_52 : decode cX9_soonest 52 = .ok (.ireturn, 1) := by decide +kernel
theorem dX9_isLater_0 : decode cX9_isLater 0 = .ok (.iload_n 1, 1) := by decide +kernel
theorem dX9_isLater_1 : decode cX9_isLater 1 = .ok (.bipush (-9), 2) := by decide +kernel
theorem dX9_isLater_3 : decode cX9_isLater 3 = .ok (.if_icmp .eq 12, 3) := by decide +kernel
theorem dX9_isLater_6 : decode cX9_isLater 6 = .ok (.aload_n 0, 1) := by decide +kernel
theorem dX9_isLater_7 : decode cX9_isLater 7 = .ok (.iload_n 1, 1) := by decide +kernel
theorem dX9_isLater_8 : decode cX9_isLater 8 = .ok (.invokevirtual 182, 3) := by decide +kernel
theorem dX9_isLater_11 : decode cX9_isLater 11 = .ok (.iload_n 2, 1) := by decide +kernel
theorem dX9_isLater_12 : decode cX9_isLater 12 = .ok (.if_icmp .le 7, 3) := by decide +kernel
theorem dX9_isLater_15 : decode cX9_isLater 15 = .ok (.iconst 1, 1) := by decide +kernel
theorem dX9_isLater_16 : decode cX9_isLater 16 = .ok (.goto 4, 3) := by decide +kernel
theorem dX9_isLater_19 : decode cX9_isLater 19 = .ok (.iconst 0, 1) := by decide +kernel
theorem dX9_isLater_20 : decode cX9_isLater 20 = .ok (.ireturn, 1) := by decide +kernel
theorem dX9_bar_0 : decode cX9_bar 0 = .ok (.aload_n 0, 1) := by decide +kernel
theorem dX9_bar_1 : decode cX9_bar 1 = .ok (.iconst 0, 1) := by decide +kernel
theorem dX9_bar_2 : decode cX9_bar 2 = .ok (.putfield 44, 3) := by decide +kernel
theorem dX9_bar_5 : decode cX9_bar 5 = .ok (.aload_n 0, 1) := by decide +kernel
theorem dX9_bar_6 : decode cX9_bar 6 = .ok (.iload_n 1, 1) := by decide +kernel
theorem dX9_bar_7 : decode cX9_bar 7 = .ok (.invokevirtual 153, 3) := by decide +kernel
theorem dX9_bar_10 : decode cX9_bar 10 = .ok (.ifCond .eq 13, 3) := by decide +kernel
theorem dX9_bar_13 : decode cX9_bar 13 = .ok (.iload_n 2, 1) := by decide +kernel
theorem dX9_bar_14 : decode cX9_bar 14 = .ok (.iconst 0, 1) := by decide +kernel
theorem dX9_bar_15 : decode cX9_bar 15 = .ok (.bipush 99, 2) := by decide +kernel
theorem dX9_bar_17 : decode cX9_bar 17 = .ok (.invokestatic 48, 3) := by decide +kernel
theorem dX9_bar_20 : decode cX9_bar 20 = .ok (.ifCond .ne 5, 3) := by decide +kernel
theorem dX9_bar_23 : decode cX9_bar 23 = .ok (.iconst (-1), 1) := by decide +kernel
theorem dX9_bar_24 : decode cX9_bar 24 = .ok (.ireturn, 1) := by decide +kernel
theorem dX9_bar_25 : decode cX9_bar 25 = .ok (.aload_n 0, 1) := by decide +kernel
theorem dX9_bar_26 : decode cX9_bar 26 = .ok (.aload_n 0, 1) := by decide +kernel
theorem dX9_bar_27 : decode cX9_bar 27 = .ok (.iload_n 1, 1) := by decide +kernel
theorem dX9_bar_28 : decode cX9_bar 28 = .ok (.bipush (-9), 2) := by decide +kernel
theorem dX9_bar_30 : decode cX9_bar 30 = .ok (.invokevirtual 185, 3) := by decide +kernel
theorem dX9_bar_33 : decode cX9_bar 33 = .ok (.iload_n 2, 1) := by decide +kernel
theorem dX9_bar_34 : decode cX9_bar 34 = .ok (.invokevirtual 188, 3) := by decide +kernel
theorem dX9_bar_37 : decode cX9_bar 37 = .ok (.ifCond .eq 6, 3) := by decide +kernel
theorem dX9_bar_40 : decode cX9_bar 40 = .ok (.bipush (-5), 2) := by decide +kernel
theorem dX9_bar_42 : decode cX9_bar 42 = .ok (.ireturn, 1) := by decide +kernel
theorem dX9_bar_43 : decode cX9_bar 43 = .ok (.iconst 0, 1) := by decide +kernel
theorem dX9_bar_44 : decode cX9_bar 44 = .ok (.istore_n 3, 1) := by decide +kernel
theorem dX9_bar_45 : decode cX9_bar 45 = .ok (.iload_n 3, 1) := by decide +kernel
theorem dX9_bar_46 : decode cX9_bar 46 = .ok (.aload_n 0, 1) := by decide +kernel
theorem dX9_bar_47 : decode cX9_bar 47 = .ok (.getfield 137, 3) := by decide +kernel
theorem dX9_bar_50 : decode cX9_bar 50 = .ok (.if_icmp .ge 25, 3) := by decide +kernel
theorem dX9_bar_53 : decode cX9_bar 53 = .ok (.aload_n 0, 1) := by decide +kernel
theorem dX9_bar_54 : decode cX9_bar 54 = .ok (.aload_n 0, 1) := by decide +kernel
theorem dX9_bar_55 : decode cX9_bar 55 = .ok (.iload_n 1, 1) := by decide +kernel
theorem dX9_bar_56 : decode cX9_bar 56 = .ok (.iload_n 3, 1) := by decide +kernel
theorem dX9_bar_57 : decode cX9_bar 57 = .ok (.invokevirtual 185, 3) := by decide +kernel
theorem dX9_bar_60 : decode cX9_bar 60 = .ok (.iload_n 2, 1) := by decide +kernel
theorem dX9_bar_61 : decode cX9_bar 61 = .ok (.invokevirtual 188, 3) := by decide +kernel
theorem dX9_bar_64 : decode cX9_bar 64 = .ok (.ifCond .eq 5, 3) := by decide +kernel
theorem dX9_bar_67 : decode cX9_bar 67 = .ok (.iload_n 3, 1) := by decide +kernel
theorem dX9_bar_68 : decode cX9_bar 68 = .ok (.ireturn, 1) := by decide +kernel
theorem dX9_bar_69 : decode cX9_bar 69 = .ok (.iinc 3 1, 3) := by decide +kernel
theorem dX9_bar_72 : decode cX9_bar 72 = .ok (.goto (-27), 3) := by decide +kernel
theorem dX9_bar_75 : decode cX9_bar 75 = .ok (.bipush (-9), 2) := by decide +kernel
theorem dX9_bar_77 : decode cX9_bar 77 = .ok (.ireturn, 1) := by decide +kernel
theorem dX9_mostOf_0 : decode cX9_mostOf 0 = .ok (.aload_n 0, 1) := by decide +kernel
theorem dX9_mostOf_1 : decode cX9_mostOf 1 = .ok (.getfield 25, 3) := by decide +kernel
theorem dX9_mostOf_4 : decode cX9_mostOf 4 = .ok (.iload_n 1, 1) := by decide +kernel
theorem dX9_mostOf_5 : decode cX9_mostOf 5 = .ok (.iaload, 1) := by decide +kernel
theorem dX9_mostOf_6 : decode cX9_mostOf 6 = .ok (.iload_n 2, 1) := by decide +kernel
