theorem dX6_isWord_13 : decode cX6_isWord 13 = .ok (.istore 4, 2) := by decide +kernel
theorem dX6_isWord_15 : decode cX6_isWord 15 = .ok (.iload 4, 2) := by decide +kernel
theorem dX6_isWord_17 : decode cX6_isWord 17 = .ok (.aload_n 3, 1) := by decide +kernel
theorem dX6_isWord_18 : decode cX6_isWord 18 = .ok (.invokevirtual 64, 3) := by decide +kernel
theorem dX6_isWord_21 : decode cX6_isWord 21 = .ok (.if_icmp .ge 28, 3) := by decide +kernel
theorem dX6_isWord_24 : decode cX6_isWord 24 = .ok (.aload_n 0, 1) := by decide +kernel
theorem dX6_isWord_25 : decode cX6_isWord 25 = .ok (.iload_n 1, 1) := by decide +kernel
theorem dX6_isWord_26 : decode cX6_isWord 26 = .ok (.iload 4, 2) := by decide +kernel
theorem dX6_isWord_28 : decode cX6_isWord 28 = .ok (.iadd, 1) := by decide +kernel
theorem dX6_isWord_29 : decode cX6_isWord 29 = .ok (.invokevirtual 39, 3) := by decide +kernel
theorem dX6_isWord_32 : decode cX6_isWord 32 = .ok (.aload_n 3, 1) := by decide +kernel
theorem dX6_isWord_33 : decode cX6_isWord 33 = .ok (.iload 4, 2) := by decide +kernel
theorem dX6_isWord_35 : decode cX6_isWord 35 = .ok (.invokevirtual 70, 3) := by decide +kernel
theorem dX6_isWord_38 : decode cX6_isWord 38 = .ok (.if_icmp .eq 5, 3) := by decide +kernel
theorem dX6_isWord_41 : decode cX6_isWord 41 = .ok (.iconst 0, 1) := by decide +kernel
theorem dX6_isWord_42 : decode cX6_isWord 42 = .ok (.ireturn, 1) := by decide +kernel
theorem dX6_isWord_43 : decode cX6_isWord 43 = .ok (.iinc 4 1, 3) := by decide +kernel
theorem dX6_isWord_46 : decode cX6_isWord 46 = .ok (.goto (-31), 3) := by decide +kernel
theorem dX6_isWord_49 : decode cX6_isWord 49 = .ok (.iconst 1, 1) := by decide +kernel
theorem dX6_isWord_50 : decode cX6_isWord 50 = .ok (.ireturn, 1) := by decide +kernel
theorem dX6_isLetter_0 : decode cX6_isLetter 0 = .ok (.iload_n 0, 1) := by decide +kernel
theorem dX6_isLetter_1 : decode cX6_isLetter 1 = .ok (.bipush 97, 2) := by decide +kernel
theorem dX6_isLetter_3 : decode cX6_isLetter 3 = .ok (.if_icmp .lt 13, 3) := by decide +kernel
theorem dX6_isLetter_6 : decode cX6_isLetter 6 = .ok (.iload_n 0, 1) := by decide +kernel
theorem dX6_isLetter_7 : decode cX6_isLetter 7 = .ok (.bipush 122, 2) := by decide +kernel
theorem dX6_isLetter_9 : decode cX6_isLetter 9 = .ok (.if_icmp .gt 7, 3) := by decide +kernel
theorem dX6_isLetter_12 : decode cX6_isLetter 12 = .ok (.iconst 1, 1) := by decide +kernel
theorem dX6_isLetter_13 : decode cX6_isLetter 13 = .ok (.goto 4, 3) := by decide +kernel
theorem dX6_isLetter_16 : decode cX6_isLetter 16 = .ok (.iconst 0, 1) := by decide +kernel
theorem dX6_isLetter_17 : decode cX6_isLetter 17 = .ok (.ireturn, 1) := by decide +kernel
theorem dX6_isDigit_0 : decode cX6_isDigit 0 = .ok (.iload_n 0, 1) := by decide +kernel
theorem dX6_isDigit_1 : decode cX6_isDigit 1 = .ok (.bipush 48, 2) := by decide +kernel
theorem dX6_isDigit_3 : decode cX6_isDigit 3 = .ok (.if_icmp .lt 13, 3) := by decide +kernel
theorem dX6_isDigit_6 : decode cX6_isDigit 6 = .ok (.iload_n 0, 1) := by decide +kernel
theorem dX6_isDigit_7 : decode cX6_isDigit 7 = .ok (.bipush 57, 2) := by decide +kernel
theorem dX6_isDigit_9 : decode cX6_isDigit 9 = .ok (.if_icmp .gt 7, 3) := by decide +kernel
theorem dX6_isDigit_12 : decode cX6_isDigit 12 = .ok (.iconst 1, 1) := by decide +kernel
theorem dX6_isDigit_13 : decode cX6_isDigit 13 = .ok (.goto 4, 3) := by decide +kernel
theorem dX6_isDigit_16 : decode cX6_isDigit 16 = .ok (.iconst 0, 1) := by decide +kernel
theorem dX6_isDigit_17 : decode cX6_isDigit 17 = .ok (.ireturn, 1) := by decide +kernel
theorem dX7_init_0 : decode cX7_init 0 = .ok (.aload_n 0, 1) := by decide +kernel
theorem dX7_init_1 : decode cX7_init 1 = .ok (.invokespecial 3, 3) := by decide +kernel
theorem dX7_init_4 : decode cX7_init 4 = .ok (.aload_n 0, 1) := by decide +kernel
theorem dX7_init_5 : decode cX7_init 5 = .ok (.bipush 64, 2) := by decide +kernel
theorem dX7_init_7 : decode cX7_init 7 = .ok (.newarray .int, 2) := by decide +kernel
theorem dX7_init_9 : decode cX7_init 9 = .ok (.putfield 9, 3) := by decide +kernel
theorem dX7_init_12 : decode cX7_init 12 = .ok (.aload_n 0, 1) := by decide +kernel
theorem dX7_init_13 : decode cX7_init 13 = .ok (.bipush 64, 2) := by decide +kernel
theorem dX7_init_15 : decode cX7_init 15 = .ok (.newarray .int, 2) := by decide +kernel
theorem dX7_init_17 : decode cX7_init 17 = .ok (.putfield 15, 3) := by decide +kernel
theorem dX7_init_20 : decode cX7_init 20 = .ok (.return_, 1) := by decide +kernel
theorem dX7_isOpen_0 : decode cX7_isOpen 0 = .ok (.aload_n 0, 1) := by decide +kernel
theorem dX7_isOpen_1 : decode cX7_isOpen 1 = .ok (.getfield 15, 3) := by decide +kernel
theorem dX7_isOpen_4 : decode cX7_isOpen 4 = .ok (.iload_n 1, 1) := by decide +kernel
theorem dX7_isOpen_5 : decode cX7_isOpen 5 = .ok (.invokestatic 18, 3) := by decide +kernel
theorem dX7_isOpen_8 : decode cX7_isOpen 8 = .ok (.iconst (-1), 1) := by decide +kernel
theorem dX7_isOpen_9 : decode cX7_isOpen 9 = .ok (.if_icmp .eq 7, 3) := by decide +kernel
theorem dX7_isOpen_12 : decode cX7_isOpen 12 = .ok (.iconst 1, 1) := by decide +kernel
theorem dX7_isOpen_13 : decode cX7_isOpen 13 = .ok (.goto 4, 3) := by decide +kernel
theorem dX7_isOpen_16 : decode cX7_isOpen 16 = .ok (.iconst 0, 1) := by decide +kernel
theorem dX7_isOpen_17 : decode cX7_isOpen 17 = .ok (.ireturn, 1) := by decide +kernel
theorem dX7_explore_0 : decode cX7_explore 0 = .ok (.aload_n 0, 1) := by decide +kernel
theorem dX7_explore_1 : decode cX7_explore 1 = .ok (.iconst 1, 1) := by decide +kernel
theorem dX7_explore_2 : decode cX7_explore 2 = .ok (.aload_n 1, 1) := by decide +kernel
theorem dX7_explore_3 : decode cX7_explore 3 = .ok (.getfield 22, 3) := by decide +kernel
theorem dX7_explore_6 : decode cX7_explore 6 = .ok (.ishl, 1) := by decide +kernel
theorem dX7_explore_7 : decode cX7_explore 7 = .ok (.putfield 28, 3) := by decide +kernel
theorem dX7_explore_10 : decode cX7_explore 10 = .ok (.aload_n 0, 1) := by decide +kernel
theorem dX7_explore_11 : decode cX7_explore 11 = .ok (.getfield 9, 3) := by decide +kernel
theorem dX7_explore_14 : decode cX7_explore 14 = .ok (.iconst 0, 1) := by decide +kernel
theorem dX7_explore_15 : decode cX7_explore 15 = .ok (.iload_n 2, 1) := by decide +kernel
theorem dX7_explore_16 : decode cX7_explore 16 = .ok (.invokestatic 31, 3) := by decide +kernel
theorem dX7_explore_19 : decode cX7_explore 19 = .ok (.aload_n 0, 1) := by decide +kernel
theorem dX7_explore_20 : decode cX7_explore 20 = .ok (.getfield 15, 3) := by decide +kernel
theorem dX7_explore_23 : decode cX7_explore 23 = .ok (.iconst 0, 1) := by decide +kernel
theorem dX7_explore_24 : decode cX7_explore 24 = .ok (.iconst 0, 1) := by decide +kernel
theorem dX7_explore_25 : decode cX7_explore 25 = .ok (.invokestatic 31, 3) := by decide +kernel
theorem dX7_explore_28 : decode cX7_explore 28 = .ok (.iconst 1, 1) := by decide +kernel
theorem dX7_explore_29 : decode cX7_explore 29 = .ok (.istore 4, 2) := by decide +kernel
theorem dX7_explore_31 : decode cX7_explore 31 = .ok (.iload 4, 2) := by decide +kernel
theorem dX7_explore_33 : decode cX7_explore 33 = .ok (.aload_n 0, 1) := by decide +kernel
theorem dX7_explore_34 : decode cX7_explore 34 = .ok (.getfield 28, 3) := by decide +kernel
theorem dX7_explore_37 : decode cX7_explore 37 = .ok (.if_icmp .ge 56, 3) := by decide +kernel
theorem dX7_explore_40 : decode cX7_explore 40 = .ok (.iload 4, 2) := by decide +kernel
theorem dX7_explore_42 : decode cX7_explore 42 = .ok (.iload_n 3, 1) := by decide +kernel
theorem dX7_explore_43 : decode cX7_explore 43 = .ok (.iand, 1) := by decide +kernel
theorem dX7_explore_44 : decode cX7_explore 44 = .ok (.ifCond .ne 13, 3) := by decide +kernel
theorem dX7_explore_47 : decode cX7_explore 47 = .ok (.aload_n 0, 1) := by decide +kernel
theorem dX7_explore_48 : decode cX7_explore 48 = .ok (.aload_n 1, 1) := by decide +kernel
theorem dX7_explore_49 : decode cX7_explore 49 = .ok (.iload 4, 2) := by decide +kernel
theorem dX7_explore_51 : decode cX7_explore 51 = .ok (.invokevirtual 35, 3) := by decide +kernel
theorem dX7_explore_54 : decode cX7_explore 54 = .ok (.goto 4, 3) := by decide +kernel
theorem dX7_explore_57 : decode cX7_explore 57 = .ok (.iconst (-1), 1) := by decide +kernel
theorem dX7_explore_58 : decode cX7_explore 58 = .ok (.istore 5, 2) := by decide +kernel
theorem dX7_explore_60 : decode cX7_explore 60 = .ok (.iload 5, 2) := by decide +kernel
theorem dX7_explore_62 : decode cX7_explore 62 = .ok (.ifCond .ge 16, 3) := by decide +kernel
theorem dX7_explore_65 : decode cX7_explore 65 = .ok (.aload_n 0, 1) := by decide +kernel
theorem dX7_explore_66 : decode cX7_explore 66 = .ok (.getfield 15, 3) := by decide +kernel
theorem dX7_explore_69 : decode cX7_explore 69 = .ok (.iload 4, 2) := by decide +kernel
theorem dX7_explore_71 : decode cX7_explore 71 = .ok (.iconst (-1), 1) := by decide +kernel
theorem dX7_explore_72 : decode cX7_explore 72 = .ok (.invokestatic 31, 3) := by decide +kernel
theorem dX7_explore_75 : decode cX7_explore 75 = .ok (.goto 12, 3) := by decide +kernel
theorem dX7_explore_78 : decode cX7_explore 78 = .ok (.aload_n 0, 1) := by decide +kernel
theorem dX7_explore_79 : decode cX7_explore 79 = .ok (.aload_n 1, 1) := by decide +kernel
theorem dX7_explore_80 : decode cX7_explore 80 = .ok (.iload 4, 2) := by decide +kernel
theorem dX7_explore_82 : decode cX7_explore 82 = .ok (.iload 5, 2) := by decide +kernel
theorem dX7_explore_84 : decode cX7_explore 84 = .ok (.invokevirtual 39, 3) := by decide +kernel
theorem dX7_explore_87 : decode cX7_explore 87 = .ok (.iinc 4 1, 3) := by decide +kernel
theorem dX7_explore_90 : decode cX7_explore 90 = .ok (.goto (-59), 3) := by decide +kernel
theorem dX7_explore_93 : decode cX7_explore 93 = .ok (.return_, 1) := by decide +kernel
theorem dX7_runLast_0 : decode cX7_runLast 0 = .ok (.iload_n 2, 1) := by decide +kernel
theorem dX7_runLast_1 : decode cX7_runLast 1 = .ok (.iconst 1, 1) := by decide +kernel
theorem dX7_runLast_2 : decode cX7_runLast 2 = .ok (.iload_n 3, 1) := by decide +kernel
theorem dX7_runLast_3 : decode cX7_runLast 3 = .ok (.ishl, 1) := by decide +kernel
theorem dX7_runLast_4 : decode cX7_runLast 4 = .ok (.iconst (-1), 1) := by decide +kernel
theorem dX7_runLast_5 : decode cX7_runLast 5 = .ok (.ixor, 1) := by decide +kernel
theorem dX7_runLast_6 : decode cX7_runLast 6 = .ok (.iand, 1) := by decide +kernel
theorem dX7_runLast_7 : decode cX7_runLast 7 = .ok (.istore 4, 2) := by decide +kernel
theorem dX7_runLast_9 : decode cX7_runLast 9 = .ok (.aload_n 0, 1) := by decide +kernel
theorem dX7_runLast_10 : decode cX7_runLast 10 = .ok (.getfield 9, 3) := by decide +kernel
theorem dX7_runLast_13 : decode cX7_runLast 13 = .ok (.iload_n 2, 1) := by decide +kernel
theorem dX7_runLast_14 : decode cX7_runLast 14 = .ok (.aload_n 0, 1) := by decide +kernel
theorem dX7_runLast_15 : decode cX7_runLast 15 = .ok (.getfield 9, 3) := by decide +kernel
theorem dX7_runLast_18 : decode cX7_runLast 18 = .ok (.iload 4, 2) := by decide +kernel
theorem dX7_runLast_20 : decode cX7_runLast 20 = .ok (.invokestatic 18, 3) := by decide +kernel
theorem dX7_runLast_23 : decode cX7_runLast 23 = .ok (.iconst 1, 1) := by decide +kernel
theorem dX7_runLast_24 : decode cX7_runLast 24 = .ok (.aload_n 1, 1) := by decide +kernel
theorem dX7_runLast_25 : decode cX7_runLast 25 = .ok (.getfield 43, 3) := by decide +kernel
theorem dX7_runLast_28 : decode cX7_runLast 28 = .ok (.iload_n 3, 1) := by decide +kernel
theorem dX7_runLast_29 : decode cX7_runLast 29 = .ok (.invokestatic 18, 3) := by decide +kernel
theorem dX7_runLast_32 : decode cX7_runLast 32 = .ok (.ishl, 1) := by decide +kernel
theorem dX7_runLast_33 : decode cX7_runLast 33 = .ok (.ior, 1) := by decide +kernel
theorem dX7_runLast_34 : decode cX7_runLast 34 = .ok (.invokestatic 31, 3) := by decide +kernel
theorem dX7_runLast_37 : decode cX7_runLast 37 = .ok (.aload_n 0, 1) := by decide +kernel
theorem dX7_runLast_38 : decode cX7_runLast 38 = .ok (.getfield 15, 3) := by decide +kernel
theorem dX7_runLast_41 : decode cX7_runLast 41 = .ok (.iload_n 2, 1) := by decide +kernel
theorem dX7_runLast_42 : decode cX7_runLast 42 = .ok (.aload_n 0, 1) := by decide +kernel
theorem dX7_runLast_43 : decode cX7_runLast 43 = .ok (.getfield 15, 3) := by decide +kernel
theorem dX7_runLast_46 : decode cX7_runLast 46 = .ok (.iload 4, 2) := by decide +kernel
theorem dX7_runLast_48 : decode cX7_runLast 48 = .ok (.invokestatic 18, 3) := by decide +kernel
theorem dX7_runLast_51 : decode cX7_runLast 51 = .ok (.aload_n 1, 1) := by decide +kernel
theorem dX7_runLast_52 : decode cX7_runLast 52 = .ok (.getfield 46, 3) := by decide +kernel
theorem dX7_runLast_55 : decode cX7_runLast 55 = .ok (.iload_n 3, 1) := by decide +kernel
theorem dX7_runLast_56 : decode cX7_runLast 56 = .ok (.invokestatic 18, 3) := by decide +kernel
theorem dX7_runLast_59 : decode cX7_runLast 59 = .ok (.iadd, 1) := by decide +kernel
theorem dX7_runLast_60 : decode cX7_runLast 60 = .ok (.invokestatic 31, 3) := by decide +kernel
theorem dX7_runLast_63 : decode cX7_runLast 63 = .ok (.return_, 1) := by decide +kernel
theorem dX7_lastOf_0 : decode cX7_lastOf 0 = .ok (.iconst 0, 1) := by decide +kernel
theorem dX7_lastOf_1 : decode cX7_lastOf 1 = .ok (.istore_n 3, 1) := by decide +kernel
theorem dX7_lastOf_2 : decode cX7_lastOf 2 = .ok (.iload_n 3, 1) := by decide +kernel
theorem dX7_lastOf_3 : decode cX7_lastOf 3 = .ok (.aload_n 1, 1) := by decide +kernel
theorem dX7_lastOf_4 : decode cX7_lastOf 4 = .ok (.getfield 22, 3) := by decide +kernel
theorem dX7_lastOf_7 : decode cX7_lastOf 7 = .ok (.if_icmp .ge 52, 3) := by decide +kernel
theorem dX7_lastOf_10 : decode cX7_lastOf 10 = .ok (.iload_n 2, 1) := by decide +kernel
theorem dX7_lastOf_11 : decode cX7_lastOf 11 = .ok (.iconst 1, 1) := by decide +kernel
theorem dX7_lastOf_12 : decode cX7_lastOf 12 = .ok (.iload_n 3, 1) := by decide +kernel
theorem dX7_lastOf_13 : decode cX7_lastOf 13 = .ok (.ishl, 1) := by decide +kernel
theorem dX7_lastOf_14 : decode cX7_lastOf 14 = .ok (.iconst (-1), 1) := by decide +kernel
theorem dX7_lastOf_15 : decode cX7_lastOf 15 = .ok (.ixor, 1) := by decide +kernel
theorem dX7_lastOf_16 : decode cX7_lastOf 16 = .ok (.iand, 1) := by decide +kernel
theorem dX7_lastOf_17 : decode cX7_lastOf 17 = .ok (.istore 4, 2) := by decide +kernel
theorem dX7_lastOf_19 : decode cX7_lastOf 19 = .ok (.iload 4, 2) := by decide +kernel
theorem dX7_lastOf_21 : decode cX7_lastOf 21 = .ok (.iload_n 2, 1) := by decide +kernel
theorem dX7_lastOf_22 : decode cX7_lastOf 22 = .ok (.if_icmp .eq 31, 3) := by decide +kernel
theorem dX7_lastOf_25 : decode cX7_lastOf 25 = .ok (.aload_n 0, 1) := by decide +kernel
theorem dX7_lastOf_26 : decode cX7_lastOf 26 = .ok (.iload 4, 2) := by decide +kernel
theorem dX7_lastOf_28 : decode cX7_lastOf 28 = .ok (.invokevirtual 49, 3) := by decide +kernel
theorem dX7_lastOf_31 : decode cX7_lastOf 31 = .ok (.ifCond .eq 22, 3) := by decide +kernel
theorem dX7_lastOf_34 : decode cX7_lastOf 34 = .ok (.aload_n 1, 1) := by decide +kernel
theorem dX7_lastOf_35 : decode cX7_lastOf 35 = .ok (.iload_n 3, 1) := by decide +kernel
theorem dX7_lastOf_36 : decode cX7_lastOf 36 = .ok (.aload_n 0, 1) := by decide +kernel
theorem dX7_lastOf_37 : decode cX7_lastOf 37 = .ok (.getfield 9, 3) := by decide +kernel
theorem dX7_lastOf_40 : decode cX7_lastOf 40 = .ok (.iload 4, 2) := by decide +kernel
theorem dX7_lastOf_42 : decode cX7_lastOf 42 = .ok (.invokestatic 18, 3) := by decide +kernel
theorem dX7_lastOf_45 : decode cX7_lastOf 45 = .ok (.invokevirtual 53, 3) := by decide +kernel
theorem dX7_lastOf_48 : decode cX7_lastOf 48 = .ok (.ifCond .eq 5, 3) := by decide +kernel
theorem dX7_lastOf_51 : decode cX7_lastOf 51 = .ok (.iload_n 3, 1) := by decide +kernel
theorem dX7_lastOf_52 : decode cX7_lastOf 52 = .ok (.ireturn, 1) := by decide +kernel
theorem dX7_lastOf_53 : decode cX7_lastOf 53 = .ok (.iinc 3 1, 3) := by decide +kernel
theorem dX7_lastOf_56 : decode cX7_lastOf 56 = .ok (.goto (-54), 3) := by decide +kernel
theorem dX7_lastOf_59 : decode cX7_lastOf 59 = .ok (.iconst (-1), 1) := by decide +kernel
theorem dX7_lastOf_60 : decode cX7_lastOf 60 = .ok (.ireturn, 1) := by decide +kernel
theorem dX8_init_0 : decode cX8_init 0 = .ok (.aload_n 0, 1) := by decide +kernel
theorem dX8_init_1 : decode cX8_init 1 = .ok (.invokespecial 1, 3) := by decide +kernel
theorem dX8_init_4 : decode cX8_init 4 = .ok (.aload_n 0, 1) := by decide +kernel
theorem dX8_init_5 : decode cX8_init 5 = .ok (.new 7, 3) := by decide +kernel
theorem dX8_init_8 : decode cX8_init 8 = .ok (.dup, 1) := by decide +kernel
theorem dX8_init_9 : decode cX8_init 9 = .ok (.invokespecial 9, 3) := by decide +kernel
theorem dX8_init_12 : decode cX8_init 12 = .ok (.putfield 10, 3) := by decide +kernel
theorem dX8_init_15 : decode cX8_init 15 = .ok (.aload_n 0, 1) := by decide +kernel
theorem dX8_init_16 : decode cX8_init 16 = .ok (.new 16, 3) := by decide +kernel
theorem dX8_init_19 : decode cX8_init 19 = .ok (.dup, 1) := by decide +kernel
theorem dX8_init_20 : decode cX8_init 20 = .ok (.invokespecial 18, 3) := by decide +kernel
theorem dX8_init_23 : decode cX8_init 23 = .ok (.putfield 19, 3) := by decide +kernel
theorem dX8_init_26 : decode cX8_init 26 = .ok (.aload_n 0, 1) := by decide +kernel
theorem dX8_init_27 : decode cX8_init 27 = .ok (.new 23, 3) := by decide +kernel
theorem dX8_init_30 : decode cX8_init 30 = .ok (.dup, 1) := by decide +kernel
theorem dX8_init_31 : decode cX8_init 31 = .ok (.invokespecial 25, 3) := by decide +kernel
theorem dX8_init_34 : decode cX8_init 34 = .ok (.putfield 26, 3) := by decide +kernel
theorem dX8_init_37 : decode cX8_init 37 = .ok (.aload_n 0, 1) := by decide +kernel
theorem dX8_init_38 : decode cX8_init 38 = .ok (.new 30, 3) := by decide +kernel
theorem dX8_init_41 : decode cX8_init 41 = .ok (.dup, 1) := by decide +kernel
theorem dX8_init_42 : decode cX8_init 42 = .ok (.invokespecial 32, 3) := by decide +kernel
theorem dX8_init_45 : decode cX8_init 45 = .ok (.putfield 33, 3) := by decide +kernel
theorem dX8_init_48 : decode cX8_init 48 = .ok (.aload_n 0, 1) := by decide +kernel
theorem dX8_init_49 : decode cX8_init 49 = .ok (.new 37, 3) := by decide +kernel
theorem dX8_init_52 : decode cX8_init 52 = .ok (.dup, 1) := by decide +kernel
theorem dX8_init_53 : decode cX8_init 53 = .ok (.bipush 10, 2) := by decide +kernel
theorem dX8_init_55 : decode cX8_init 55 = .ok (.invokespecial 39, 3) := by decide +kernel
theorem dX8_init_58 : decode cX8_init 58 = .ok (.putfield 42, 3) := by decide +kernel
theorem dX8_init_61 : decode cX8_init 61 = .ok (.aload_n 0, 1) := by decide +kernel
theorem dX8_init_62 : decode cX8_init 62 = .ok (.new 37, 3) := by decide +kernel
theorem dX8_init_65 : decode cX8_init 65 = .ok (.dup, 1) := by decide +kernel
theorem dX8_init_66 : decode cX8_init 66 = .ok (.iconst 2, 1) := by decide +kernel
theorem dX8_init_67 : decode cX8_init 67 = .ok (.invokespecial 39, 3) := by decide +kernel
theorem dX8_init_70 : decode cX8_init 70 = .ok (.putfield 46, 3) := by decide +kernel
theorem dX8_init_73 : decode cX8_init 73 = .ok (.aload_n 0, 1) := by decide +kernel
theorem dX8_init_74 : decode cX8_init 74 = .ok (.new 49, 3) := by decide +kernel
theorem dX8_init_77 : decode cX8_init 77 = .ok (.dup, 1) := by decide +kernel
theorem dX8_init_78 : decode cX8_init 78 = .ok (.invokespecial 51, 3) := by decide +kernel
theorem dX8_init_81 : decode cX8_init 81 = .ok (.putfield 52, 3) := by decide +kernel
theorem dX8_init_84 : decode cX8_init 84 = .ok (.aload_n 0, 1) := by decide +kernel
theorem dX8_init_85 : decode cX8_init 85 = .ok (.new 56, 3) := by decide +kernel
theorem dX8_init_88 : decode cX8_init 88 = .ok (.dup, 1) := by decide +kernel
theorem dX8_init_89 : decode cX8_init 89 = .ok (.invokespecial 58, 3) := by decide +kernel
theorem dX8_init_92 : decode cX8_init 92 = .ok (.putfield 59, 3) := by decide +kernel
theorem dX8_init_95 : decode cX8_init 95 = .ok (.aload_n 0, 1) := by decide +kernel
theorem dX8_init_96 : decode cX8_init 96 = .ok (.bipush 6, 2) := by decide +kernel
theorem dX8_init_98 : decode cX8_init 98 = .ok (.newarray .int, 2) := by decide +kernel
theorem dX8_init_100 : decode cX8_init 100 = .ok (.putfield 63, 3) := by decide +kernel
theorem dX8_init_103 : decode cX8_init 103 = .ok (.aload_n 0, 1) := by decide +kernel
theorem dX8_init_104 : decode cX8_init 104 = .ok (.bipush 6, 2) := by decide +kernel
theorem dX8_init_106 : decode cX8_init 106 = .ok (.newarray .int, 2) := by decide +kernel
theorem dX8_init_108 : decode cX8_init 108 = .ok (.putfield 67, 3) := by decide +kernel
theorem dX8_init_111 : decode cX8_init 111 = .ok (.return_, 1) := by decide +kernel
theorem dX8_type_0 : decode cX8_type 0 = .ok (.iload_n 3, 1) := by decide +kernel
theorem dX8_type_1 : decode cX8_type 1 = .ok (.iconst 1, 1) := by decide +kernel
theorem dX8_type_2 : decode cX8_type 2 = .ok (.if_icmp .lt 9, 3) := by decide +kernel
theorem dX8_type_5 : decode cX8_type 5 = .ok (.iload_n 3, 1) := by decide +kernel
theorem dX8_type_6 : decode cX8_type 6 = .ok (.bipush 8, 2) := by decide +kernel
theorem dX8_type_8 : decode cX8_type 8 = .ok (.if_icmp .le 5, 3) := by decide +kernel
theorem dX8_type_11 : decode cX8_type 11 = .ok (.iconst (-1), 1) := by decide +kernel
theorem dX8_type_12 : decode cX8_type 12 = .ok (.ireturn, 1) := by decide +kernel
theorem dX8_type_13 : decode cX8_type 13 = .ok (.aload_n 0, 1) := by decide +kernel
theorem dX8_type_14 : decode cX8_type 14 = .ok (.getfield 10, 3) := by decide +kernel
theorem dX8_type_17 : decode cX8_type 17 = .ok (.getfield 70, 3) := by decide +kernel
theorem dX8_type_20 : decode cX8_type 20 = .ok (.iload_n 3, 1) := by decide +kernel
theorem dX8_type_21 : decode cX8_type 21 = .ok (.iadd, 1) := by decide +kernel
theorem dX8_type_22 : decode cX8_type 22 = .ok (.sipush 300, 3) := by decide +kernel
theorem dX8_type_25 : decode cX8_type 25 = .ok (.if_icmp .le 6, 3) := by decide +kernel
theorem dX8_type_28 : decode cX8_type 28 = .ok (.bipush (-3), 2) := by decide +kernel
theorem dX8_type_30 : decode cX8_type 30 = .ok (.ireturn, 1) := by decide +kernel
theorem dX8_type_31 : decode cX8_type 31 = .ok (.iload_n 3, 1) := by decide +kernel
theorem dX8_type_32 : decode cX8_type 32 = .ok (.iconst 1, 1) := by decide +kernel
theorem dX8_type_33 : decode cX8_type 33 = .ok (.isub, 1) := by decide +kernel
theorem dX8_type_34 : decode cX8_type 34 = .ok (.istore 4, 2) := by decide +kernel
theorem dX8_type_36 : decode cX8_type 36 = .ok (.iload 4, 2) := by decide +kernel
theorem dX8_type_38 : decode cX8_type 38 = .ok (.ifCond .lt 24, 3) := by decide +kernel
theorem dX8_type_41 : decode cX8_type 41 = .ok (.aload_n 0, 1) := by decide +kernel
theorem dX8_type_42 : decode cX8_type 42 = .ok (.getfield 10, 3) := by decide +kernel
theorem dX8_type_45 : decode cX8_type 45 = .ok (.lload_n 1, 1) := by decide +kernel
theorem dX8_type_46 : decode cX8_type 46 = .ok (.bipush 8, 2) := by decide +kernel
theorem dX8_type_48 : decode cX8_type 48 = .ok (.iload 4, 2) := by decide +kernel
theorem dX8_type_50 : decode cX8_type 50 = .ok (.imul, 1) := by decide +kernel
theorem dX8_type_51 : decode cX8_type 51 = .ok (.lshr, 1) := by decide +kernel
theorem dX8_type_52 : decode cX8_type 52 = .ok (.l2i, 1) := by decide +kernel
theorem dX8_type_53 : decode cX8_type 53 = .ok (.invokevirtual 74, 3) := by decide +kernel
theorem dX8_type_56 : decode cX8_type 56 = .ok (.iinc 4 (-1), 3) := by decide +kernel
theorem dX8_type_59 : decode cX8_type 59 = .ok (.goto (-23), 3) := by decide +kernel
theorem dX8_type_62 : decode cX8_type 62 = .ok (.aload_n 0, 1) := by decide +kernel
theorem dX8_type_63 : decode cX8_type 63 = .ok (.getfield 10, 3) := by decide +kernel
theorem dX8_type_66 : decode cX8_type 66 = .ok (.getfield 70, 3) := by decide +kernel
theorem dX8_type_69 : decode cX8_type 69 = .ok (.ireturn, 1) := by decide +kernel
theorem dX8_clear_0 : decode cX8_clear 0 = .ok (.aload_n 0, 1) := by decide +kernel
theorem dX8_clear_1 : decode cX8_clear 1 = .ok (.getfield 10, 3) := by decide +kernel
theorem dX8_clear_4 : decode cX8_clear 4 = .ok (.getfield 70, 3) := by decide +kernel
theorem dX8_clear_7 : decode cX8_clear 7 = .ok (.istore_n 1, 1) := by decide +kernel
theorem dX8_clear_8 : decode cX8_clear 8 = .ok (.aload_n 0, 1) := by decide +kernel
theorem dX8_clear_9 : decode cX8_clear 9 = .ok (.getfield 10, 3) := by decide +kernel
theorem dX8_clear_12 : decode cX8_clear 12 = .ok (.iconst 0, 1) := by decide +kernel
theorem dX8_clear_13 : decode cX8_clear 13 = .ok (.putfield 70, 3) := by decide +kernel
theorem dX8_clear_16 : decode cX8_clear 16 = .ok (.iload_n 1, 1) := by decide +kernel
theorem dX8_clear_17 : decode cX8_clear 17 = .ok (.ireturn, 1) := by decide +kernel
theorem dX8_house_0 : decode cX8_house 0 = .ok (.aload_n 0, 1) := by decide +kernel
theorem dX8_house_1 : decode cX8_house 1 = .ok (.getfield 26, 3) := by decide +kernel
theorem dX8_house_4 : decode cX8_house 4 = .ok (.aload_n 0, 1) := by decide +kernel
theorem dX8_house_5 : decode cX8_house 5 = .ok (.getfield 10, 3) := by decide +kernel
theorem dX8_house_8 : decode cX8_house 8 = .ok (.invokevirtual 77, 3) := by decide +kernel
theorem dX8_house_11 : decode cX8_house 11 = .ok (.istore_n 1, 1) := by decide +kernel
theorem dX8_house_12 : decode cX8_house 12 = .ok (.iload_n 1, 1) := by decide +kernel
theorem dX8_house_13 : decode cX8_house 13 = .ok (.ifCond .ge 5, 3) := by decide +kernel
theorem dX8_house_16 : decode cX8_house 16 = .ok (.iload_n 1, 1) := by decide +kernel
theorem dX8_house_17 : decode cX8_house 17 = .ok (.ireturn, 1) := by decide +kernel
theorem dX8_house_18 : decode cX8_house 18 = .ok (.aload_n 0, 1) := by decide +kernel
theorem dX8_house_19 : decode cX8_house 19 = .ok (.getfield 19, 3) := by decide +kernel
theorem dX8_house_22 : decode cX8_house 22 = .ok (.aload_n 0, 1) := by decide +kernel
theorem dX8_house_23 : decode cX8_house 23 = .ok (.getfield 26, 3) := by decide +kernel
theorem dX8_house_26 : decode cX8_house 26 = .ok (.getfield 81, 3) := by decide +kernel
theorem dX8_house_29 : decode cX8_house 29 = .ok (.invokevirtual 84, 3) := by decide +kernel
theorem dX8_house_32 : decode cX8_house 32 = .ok (.aload_n 0, 1) := by decide +kernel
theorem dX8_house_33 : decode cX8_house 33 = .ok (.getfield 33, 3) := by decide +kernel
theorem dX8_house_36 : decode cX8_house 36 = .ok (.aload_n 0, 1) := by decide +kernel
theorem dX8_house_37 : decode cX8_house 37 = .ok (.getfield 19, 3) := by decide +kernel
theorem dX8_house_40 : decode cX8_house 40 = .ok (.getfield 88, 3) := by decide +kernel
theorem dX8_house_43 : decode cX8_house 43 = .ok (.invokevirtual 91, 3) := by decide +kernel
theorem dX8_house_46 : decode cX8_house 46 = .ok (.aload_n 0, 1) := by decide +kernel
theorem dX8_house_47 : decode cX8_house 47 = .ok (.getfield 10, 3) := by decide +kernel
theorem dX8_house_50 : decode cX8_house 50 = .ok (.iconst 0, 1) := by decide +kernel
theorem dX8_house_51 : decode cX8_house 51 = .ok (.putfield 70, 3) := by decide +kernel
theorem dX8_house_54 : decode cX8_house 54 = .ok (.aload_n 0, 1) := by decide +kernel
theorem dX8_house_55 : decode cX8_house 55 = .ok (.iconst 0, 1) := by decide +kernel
theorem dX8_house_56 : decode cX8_house 56 = .ok (.putfield 94, 3) := by decide +kernel
theorem dX8_house_59 : decode cX8_house 59 = .ok (.aload_n 0, 1) := by decide +kernel
theorem dX8_house_60 : decode cX8_house 60 = .ok (.iconst 0, 1) := by decide +kernel
theorem dX8_house_61 : decode cX8_house 61 = .ok (.putfield 97, 3) := by decide +kernel
theorem dX8_house_64 : decode cX8_house 64 = .ok (.aload_n 0, 1) := by decide +kernel
theorem dX8_house_65 : decode cX8_house 65 = .ok (.iconst 0, 1) := by decide +kernel
theorem dX8_house_66 : decode cX8_house 66 = .ok (.putfield 100, 3) := by decide +kernel
theorem dX8_house_69 : decode cX8_house 69 = .ok (.iload_n 1, 1) := by decide +kernel
theorem dX8_house_70 : decode cX8_house 70 = .ok (.ireturn, 1) := by decide +kernel
theorem dX8_knocker_0 : decode cX8_knocker 0 = .ok (.aload_n 0, 1) := by decide +kernel
theorem dX8_knocker_1 : decode cX8_knocker 1 = .ok (.iload_n 1, 1) := by decide +kernel
theorem dX8_knocker_2 : decode cX8_knocker 2 = .ok (.invokevirtual 103, 3) := by decide +kernel
theorem dX8_knocker_5 : decode cX8_knocker 5 = .ok (.ifCond .ne 5, 3) := by decide +kernel
theorem dX8_knocker_8 : decode cX8_knocker 8 = .ok (.iconst (-1), 1) := by decide +kernel
theorem dX8_knocker_9 : decode cX8_knocker 9 = .ok (.ireturn, 1) := by decide +kernel
theorem dX8_knocker_10 : decode cX8_knocker 10 = .ok (.iload_n 2, 1) := by decide +kernel
theorem dX8_knocker_11 : decode cX8_knocker 11 = .ok (.tableswitch 77 0 3 #[29, 41, 47, 59], 29) := by decide +kernel
theorem dX8_knocker_40 : decode cX8_knocker 40 = .ok (.aload_n 0, 1) := by decide +kernel
theorem dX8_knocker_41 : decode cX8_knocker 41 = .ok (.getfield 19, 3) := by decide +kernel
theorem dX8_knocker_44 : decode cX8_knocker 44 = .ok (.getfield 107, 3) := by decide +kernel
theorem dX8_knocker_47 : decode cX8_knocker 47 = .ok (.iload_n 1, 1) := by decide +kernel
theorem dX8_knocker_48 : decode cX8_knocker 48 = .ok (.invokestatic 110, 3) := by decide +kernel
theorem dX8_knocker_51 : decode cX8_knocker 51 = .ok (.ireturn, 1) := by decide +kernel
theorem dX8_knocker_52 : decode cX8_knocker 52 = .ok (.aload_n 0, 1) := by decide +kernel
theorem dX8_knocker_53 : decode cX8_knocker 53 = .ok (.iload_n 1, 1) := by decide +kernel
theorem dX8_knocker_54 : decode cX8_knocker 54 = .ok (.invokevirtual 114, 3) := by decide +kernel
theorem dX8_knocker_57 : decode cX8_knocker 57 = .ok (.ireturn, 1) := by decide +kernel
theorem dX8_knocker_58 : decode cX8_knocker 58 = .ok (.aload_n 0, 1) := by decide +kernel
theorem dX8_knocker_59 : decode cX8_knocker 59 = .ok (.getfield 33, 3) := by decide +kernel
theorem dX8_knocker_62 : decode cX8_knocker 62 = .ok (.getfield 118, 3) := by decide +kernel
theorem dX8_knocker_65 : decode cX8_knocker 65 = .ok (.iload_n 1, 1) := by decide +kernel
theorem dX8_knocker_66 : decode cX8_knocker 66 = .ok (.invokestatic 110, 3) := by decide +kernel
theorem dX8_knocker_69 : decode cX8_knocker 69 = .ok (.ireturn, 1) := by decide +kernel
theorem dX8_knocker_70 : decode cX8_knocker 70 = .ok (.aload_n 0, 1) := by decide +kernel
theorem dX8_knocker_71 : decode cX8_knocker 71 = .ok (.aload_n 0, 1) := by decide +kernel
theorem dX8_knocker_72 : decode cX8_knocker 72 = .ok (.iload_n 1, 1) := by decide +kernel
theorem dX8_knocker_73 : decode cX8_knocker 73 = .ok (.invokevirtual 114, 3) := by decide +kernel
theorem dX8_knocker_76 : decode cX8_knocker 76 = .ok (.invokevirtual 121, 3) := by decide +kernel
theorem dX8_knocker_79 : decode cX8_knocker 79 = .ok (.ifCond .eq 7, 3) := by decide +kernel
theorem dX8_knocker_82 : decode cX8_knocker 82 = .ok (.iconst 1, 1) := by decide +kernel
theorem dX8_knocker_83 : decode cX8_knocker 83 = .ok (.goto 4, 3) := by decide +kernel
theorem dX8_knocker_86 : decode cX8_knocker 86 = .ok (.iconst 0, 1) := by decide +kernel
theorem dX8_knocker_87 : decode cX8_knocker 87 = .ok (.ireturn, 1) := by decide +kernel
theorem dX8_knocker_88 : decode cX8_knocker 88 = .ok (.iconst (-1), 1) := by decide +kernel
theorem dX8_knocker_89 : decode cX8_knocker 89 = .ok (.ireturn, 1) := by decide +kernel
theorem dX8_errand_0 : decode cX8_errand 0 = .ok (.aload_n 0, 1) := by decide +kernel
theorem dX8_errand_1 : decode cX8_errand 1 = .ok (.iload_n 1, 1) := by decide +kernel
theorem dX8_errand_2 : decode cX8_errand 2 = .ok (.invokevirtual 124, 3) := by decide +kernel
theorem dX8_errand_5 : decode cX8_errand 5 = .ok (.ifCond .ne 5, 3) := by decide +kernel
theorem dX8_errand_8 : decode cX8_errand 8 = .ok (.iconst (-1), 1) := by decide +kernel
theorem dX8_errand_9 : decode cX8_errand 9 = .ok (.ireturn, 1) := by decide +kernel
theorem dX8_errand_10 : decode cX8_errand 10 = .ok (.iload_n 2, 1) := by decide +kernel
theorem dX8_errand_11 : decode cX8_errand 11 = .ok (.tableswitch 61 0 2 #[25, 37, 49], 25) := by decide +kernel
theorem dX8_errand_36 : decode cX8_errand 36 = .ok (.aload_n 0, 1) := by decide +kernel
theorem dX8_errand_37 : decode cX8_errand 37 = .ok (.getfield 19, 3) := by decide +kernel
theorem dX8_errand_40 : decode cX8_errand 40 = .ok (.getfield 127, 3) := by decide +kernel
theorem dX8_errand_43 : decode cX8_errand 43 = .ok (.iload_n 1, 1) := by decide +kernel
theorem dX8_errand_44 : decode cX8_errand 44 = .ok (.invokestatic 110, 3) := by decide +kernel
theorem dX8_errand_47 : decode cX8_errand 47 = .ok (.ireturn, 1) := by decide +kernel
theorem dX8_errand_48 : decode cX8_errand 48 = .ok (.aload_n 0, 1) := by decide +kernel
theorem dX8_errand_49 : decode cX8_errand 49 = .ok (.getfield 19, 3) := by decide +kernel
theorem dX8_errand_52 : decode cX8_errand 52 = .ok (.getfield 130, 3) := by decide +kernel
theorem dX8_errand_55 : decode cX8_errand 55 = .ok (.iload_n 1, 1) := by decide +kernel
theorem dX8_errand_56 : decode cX8_errand 56 = .ok (.invokestatic 110, 3) := by decide +kernel
theorem dX8_errand_59 : decode cX8_errand 59 = .ok (.ireturn, 1) := by decide +kernel
theorem dX8_errand_60 : decode cX8_errand 60 = .ok (.aload_n 0, 1) := by decide +kernel
theorem dX8_errand_61 : decode cX8_errand 61 = .ok (.getfield 19, 3) := by decide +kernel
theorem dX8_errand_64 : decode cX8_errand 64 = .ok (.getfield 133, 3) := by decide +kernel
theorem dX8_errand_67 : decode cX8_errand 67 = .ok (.iload_n 1, 1) := by decide +kernel
theorem dX8_errand_68 : decode cX8_errand 68 = .ok (.invokestatic 110, 3) := by decide +kernel
theorem dX8_errand_71 : decode cX8_errand 71 = .ok (.ireturn, 1) := by decide +kernel
theorem dX8_errand_72 : decode cX8_errand 72 = .ok (.iconst (-1), 1) := by decide +kernel
theorem dX8_errand_73 : decode cX8_errand 73 = .ok (.ireturn, 1) := by decide +kernel
theorem dX8_rule_0 : decode cX8_rule 0 = .ok (.aload_n 0, 1) := by decide +kernel
theorem dX8_rule_1 : decode cX8_rule 1 = .ok (.iload_n 1, 1) := by decide +kernel
theorem dX8_rule_2 : decode cX8_rule 2 = .ok (.invokevirtual 136, 3) := by decide +kernel
theorem dX8_rule_5 : decode cX8_rule 5 = .ok (.ifCond .eq 10, 3) := by decide +kernel
theorem dX8_rule_8 : decode cX8_rule 8 = .ok (.iload_n 2, 1) := by decide +kernel
theorem dX8_rule_9 : decode cX8_rule 9 = .ok (.invokestatic 139, 3) := by decide +kernel
theorem dX8_rule_12 : decode cX8_rule 12 = .ok (.ifCond .ne 5, 3) := by decide +kernel
theorem dX8_rule_15 : decode cX8_rule 15 = .ok (.iconst (-1), 1) := by decide +kernel
theorem dX8_rule_16 : decode cX8_rule 16 = .ok (.ireturn, 1) := by decide +kernel
theorem dX8_rule_17 : decode cX8_rule 17 = .ok (.iload_n 2, 1) := by decide +kernel
theorem dX8_rule_18 : decode cX8_rule 18 = .ok (.ifCond .ne 17, 3) := by decide +kernel
theorem dX8_rule_21 : decode cX8_rule 21 = .ok (.aload_n 0, 1) := by decide +kernel
theorem dX8_rule_22 : decode cX8_rule 22 = .ok (.getfield 33, 3) := by decide +kernel
theorem dX8_rule_25 : decode cX8_rule 25 = .ok (.getfield 142, 3) := by decide +kernel
theorem dX8_rule_28 : decode cX8_rule 28 = .ok (.iload_n 1, 1) := by decide +kernel
theorem dX8_rule_29 : decode cX8_rule 29 = .ok (.invokestatic 110, 3) := by decide +kernel
theorem dX8_rule_32 : decode cX8_rule 32 = .ok (.goto 14, 3) := by decide +kernel
theorem dX8_rule_35 : decode cX8_rule 35 = .ok (.aload_n 0, 1) := by decide +kernel
theorem dX8_rule_36 : decode cX8_rule 36 = .ok (.getfield 33, 3) := by decide +kernel
theorem dX8_rule_39 : decode cX8_rule 39 = .ok (.getfield 145, 3) := by decide +kernel
theorem dX8_rule_42 : decode cX8_rule 42 = .ok (.iload_n 1, 1) := by decide +kernel
theorem dX8_rule_43 : decode cX8_rule 43 = .ok (.invokestatic 110, 3) := by decide +kernel
theorem dX8_rule_46 : decode cX8_rule 46 = .ok (.ireturn, 1) := by decide +kernel
theorem dX8_runs_0 : decode cX8_runs 0 = .ok (.aload_n 0, 1) := by decide +kernel
theorem dX8_runs_1 : decode cX8_runs 1 = .ok (.iload_n 1, 1) := by decide +kernel
theorem dX8_runs_2 : decode cX8_runs 2 = .ok (.invokevirtual 103, 3) := by decide +kernel
theorem dX8_runs_5 : decode cX8_runs 5 = .ok (.ifCond .eq 11, 3) := by decide +kernel
theorem dX8_runs_8 : decode cX8_runs 8 = .ok (.aload_n 0, 1) := by decide +kernel
theorem dX8_runs_9 : decode cX8_runs 9 = .ok (.iload_n 2, 1) := by decide +kernel
theorem dX8_runs_10 : decode cX8_runs 10 = .ok (.invokevirtual 124, 3) := by decide +kernel
theorem dX8_runs_13 : decode cX8_runs 13 = .ok (.ifCond .ne 5, 3) := by decide +kernel
theorem dX8_runs_16 : decode cX8_runs 16 = .ok (.iconst (-1), 1) := by decide +kernel
theorem dX8_runs_17 : decode cX8_runs 17 = .ok (.ireturn, 1) := by decide +kernel
theorem dX8_runs_18 : decode cX8_runs 18 = .ok (.aload_n 0, 1) := by decide +kernel
theorem dX8_runs_19 : decode cX8_runs 19 = .ok (.getfield 33, 3) := by decide +kernel
theorem dX8_runs_22 : decode cX8_runs 22 = .ok (.getfield 118, 3) := by decide +kernel
theorem dX8_runs_25 : decode cX8_runs 25 = .ok (.iload_n 1, 1) := by decide +kernel
theorem dX8_runs_26 : decode cX8_runs 26 = .ok (.invokestatic 110, 3) := by decide +kernel
theorem dX8_runs_29 : decode cX8_runs 29 = .ok (.aload_n 0, 1) := by decide +kernel
theorem dX8_runs_30 : decode cX8_runs 30 = .ok (.getfield 19, 3) := by decide +kernel
theorem dX8_runs_33 : decode cX8_runs 33 = .ok (.getfield 130, 3) := by decide +kernel
theorem dX8_runs_36 : decode cX8_runs 36 = .ok (.iload_n 2, 1) := by decide +kernel
theorem dX8_runs_37 : decode cX8_runs 37 = .ok (.invokestatic 110, 3) := by decide +kernel
theorem dX8_runs_40 : decode cX8_runs 40 = .ok (.iadd, 1) := by decide +kernel
theorem dX8_runs_41 : decode cX8_runs 41 = .ok (.istore_n 3, 1) := by decide +kernel
theorem dX8_runs_42 : decode cX8_runs 42 = .ok (.iload_n 3, 1) := by decide +kernel
theorem dX8_runs_43 : decode cX8_runs 43 = .ok (.bipush 99, 2) := by decide +kernel
theorem dX8_runs_45 : decode cX8_runs 45 = .ok (.if_icmp .gt 19, 3) := by decide +kernel
theorem dX8_runs_48 : decode cX8_runs 48 = .ok (.aload_n 0, 1) := by decide +kernel
theorem dX8_runs_49 : decode cX8_runs 49 = .ok (.getfield 19, 3) := by decide +kernel
theorem dX8_runs_52 : decode cX8_runs 52 = .ok (.iload_n 2, 1) := by decide +kernel
theorem dX8_runs_53 : decode cX8_runs 53 = .ok (.aload_n 0, 1) := by decide +kernel
theorem dX8_runs_54 : decode cX8_runs 54 = .ok (.iload_n 1, 1) := by decide +kernel
theorem dX8_runs_55 : decode cX8_runs 55 = .ok (.invokevirtual 114, 3) := by decide +kernel
theorem dX8_runs_58 : decode cX8_runs 58 = .ok (.invokevirtual 148, 3) := by decide +kernel
theorem dX8_runs_61 : decode cX8_runs 61 = .ok (.ifCond .ne 6, 3) := by decide +kernel
theorem dX8_runs_64 : decode cX8_runs 64 = .ok (.bipush (-2), 2) := by decide +kernel
theorem dX8_runs_66 : decode cX8_runs 66 = .ok (.ireturn, 1) := by decide +kernel
theorem dX8_runs_67 : decode cX8_runs 67 = .ok (.aload_n 0, 1) := by decide +kernel
theorem dX8_runs_68 : decode cX8_runs 68 = .ok (.invokevirtual 152, 3) := by decide +kernel
theorem dX8_runs_71 : decode cX8_runs 71 = .ok (.aload_n 0, 1) := by decide +kernel
theorem dX8_runs_72 : decode cX8_runs 72 = .ok (.getfield 33, 3) := by decide +kernel
theorem dX8_runs_75 : decode cX8_runs 75 = .ok (.getfield 155, 3) := by decide +kernel
theorem dX8_runs_78 : decode cX8_runs 78 = .ok (.iload_n 1, 1) := by decide +kernel
theorem dX8_runs_79 : decode cX8_runs 79 = .ok (.aload_n 0, 1) := by decide +kernel
theorem dX8_runs_80 : decode cX8_runs 80 = .ok (.iload_n 1, 1) := by decide +kernel
theorem dX8_runs_81 : decode cX8_runs 81 = .ok (.invokevirtual 114, 3) := by decide +kernel
theorem dX8_runs_84 : decode cX8_runs 84 = .ok (.iconst 1, 1) := by decide +kernel
theorem dX8_runs_85 : decode cX8_runs 85 = .ok (.aload_n 0, 1) := by decide +kernel
theorem dX8_runs_86 : decode cX8_runs 86 = .ok (.getfield 19, 3) := by decide +kernel
theorem dX8_runs_89 : decode cX8_runs 89 = .ok (.getfield 127, 3) := by decide +kernel
theorem dX8_runs_92 : decode cX8_runs 92 = .ok (.iload_n 2, 1) := by decide +kernel
theorem dX8_runs_93 : decode cX8_runs 93 = .ok (.invokestatic 110, 3) := by decide +kernel
theorem dX8_runs_96 : decode cX8_runs 96 = .ok (.ishl, 1) := by decide +kernel
theorem dX8_runs_97 : decode cX8_runs 97 = .ok (.ior, 1) := by decide +kernel
theorem dX8_runs_98 : decode cX8_runs 98 = .ok (.invokestatic 158, 3) := by decide +kernel
theorem dX8_runs_101 : decode cX8_runs 101 = .ok (.aload_n 0, 1) := by decide +kernel
theorem dX8_runs_102 : decode cX8_runs 102 = .ok (.getfield 33, 3) := by decide +kernel
theorem dX8_runs_105 : decode cX8_runs 105 = .ok (.getfield 118, 3) := by decide +kernel
theorem dX8_runs_108 : decode cX8_runs 108 = .ok (.iload_n 1, 1) := by decide +kernel
theorem dX8_runs_109 : decode cX8_runs 109 = .ok (.iload_n 3, 1) := by decide +kernel
theorem dX8_runs_110 : decode cX8_runs 110 = .ok (.invokestatic 158, 3) := by decide +kernel
theorem dX8_runs_113 : decode cX8_runs 113 = .ok (.iload_n 3, 1) := by decide +kernel
theorem dX8_runs_114 : decode cX8_runs 114 = .ok (.ireturn, 1) := by decide +kernel
theorem dX8_knocks_0 : decode cX8_knocks 0 = .ok (.iload_n 2, 1) := by decide +kernel
theorem dX8_knocks_1 : decode cX8_knocks 1 = .ok (.bipush (-9), 2) := by decide +kernel
theorem dX8_knocks_3 : decode cX8_knocks 3 = .ok (.if_icmp .ne 7, 3) := by decide +kernel
theorem dX8_knocks_6 : decode cX8_knocks 6 = .ok (.iconst 1, 1) := by decide +kernel
theorem dX8_knocks_7 : decode cX8_knocks 7 = .ok (.goto 4, 3) := by decide +kernel
theorem dX8_knocks_10 : decode cX8_knocks 10 = .ok (.iconst 0, 1) := by decide +kernel
theorem dX8_knocks_11 : decode cX8_knocks 11 = .ok (.istore_n 3, 1) := by decide +kernel
theorem dX8_knocks_12 : decode cX8_knocks 12 = .ok (.aload_n 0, 1) := by decide +kernel
theorem dX8_knocks_13 : decode cX8_knocks 13 = .ok (.iload_n 1, 1) := by decide +kernel
theorem dX8_knocks_14 : decode cX8_knocks 14 = .ok (.invokevirtual 103, 3) := by decide +kernel
theorem dX8_knocks_17 : decode cX8_knocks 17 = .ok (.ifCond .eq 20, 3) := by decide +kernel
theorem dX8_knocks_20 : decode cX8_knocks 20 = .ok (.iload_n 1, 1) := by decide +kernel
theorem dX8_knocks_21 : decode cX8_knocks 21 = .ok (.iload_n 2, 1) := by decide +kernel
theorem dX8_knocks_22 : decode cX8_knocks 22 = .ok (.if_icmp .eq 15, 3) := by decide +kernel
theorem dX8_knocks_25 : decode cX8_knocks 25 = .ok (.iload_n 3, 1) := by decide +kernel
theorem dX8_knocks_26 : decode cX8_knocks 26 = .ok (.ifCond .ne 13, 3) := by decide +kernel
theorem dX8_knocks_29 : decode cX8_knocks 29 = .ok (.aload_n 0, 1) := by decide +kernel
theorem dX8_knocks_30 : decode cX8_knocks 30 = .ok (.iload_n 2, 1) := by decide +kernel
theorem dX8_knocks_31 : decode cX8_knocks 31 = .ok (.invokevirtual 103, 3) := by decide +kernel
theorem dX8_knocks_34 : decode cX8_knocks 34 = .ok (.ifCond .ne 5, 3) := by decide +kernel
theorem dX8_knocks_37 : decode cX8_knocks 37 = .ok (.iconst (-1), 1) := by decide +kernel
theorem dX8_knocks_38 : decode cX8_knocks 38 = .ok (.ireturn, 1) := by decide +kernel
theorem dX8_knocks_39 : decode cX8_knocks 39 = .ok (.aload_n 0, 1) := by decide +kernel
theorem dX8_knocks_40 : decode cX8_knocks 40 = .ok (.invokevirtual 152, 3) := by decide +kernel
theorem dX8_knocks_43 : decode cX8_knocks 43 = .ok (.aload_n 0, 1) := by decide +kernel
theorem dX8_knocks_44 : decode cX8_knocks 44 = .ok (.iload_n 1, 1) := by decide +kernel
theorem dX8_knocks_45 : decode cX8_knocks 45 = .ok (.invokevirtual 114, 3) := by decide +kernel
theorem dX8_knocks_48 : decode cX8_knocks 48 = .ok (.aload_n 0, 1) := by decide +kernel
theorem dX8_knocks_49 : decode cX8_knocks 49 = .ok (.getfield 19, 3) := by decide +kernel
theorem dX8_knocks_52 : decode cX8_knocks 52 = .ok (.getfield 162, 3) := by decide +kernel
theorem dX8_knocks_55 : decode cX8_knocks 55 = .ok (.iand, 1) := by decide +kernel
theorem dX8_knocks_56 : decode cX8_knocks 56 = .ok (.aload_n 0, 1) := by decide +kernel
theorem dX8_knocks_57 : decode cX8_knocks 57 = .ok (.invokevirtual 165, 3) := by decide +kernel
theorem dX8_knocks_60 : decode cX8_knocks 60 = .ok (.iand, 1) := by decide +kernel
theorem dX8_knocks_61 : decode cX8_knocks 61 = .ok (.istore 4, 2) := by decide +kernel
theorem dX8_knocks_63 : decode cX8_knocks 63 = .ok (.iload_n 3, 1) := by decide +kernel
theorem dX8_knocks_64 : decode cX8_knocks 64 = .ok (.ifCond .ne 22, 3) := by decide +kernel
theorem dX8_knocks_67 : decode cX8_knocks 67 = .ok (.aload_n 0, 1) := by decide +kernel
theorem dX8_knocks_68 : decode cX8_knocks 68 = .ok (.getfield 33, 3) := by decide +kernel
theorem dX8_knocks_71 : decode cX8_knocks 71 = .ok (.getfield 155, 3) := by decide +kernel
theorem dX8_knocks_74 : decode cX8_knocks 74 = .ok (.iload_n 2, 1) := by decide +kernel
theorem dX8_knocks_75 : decode cX8_knocks 75 = .ok (.aload_n 0, 1) := by decide +kernel
theorem dX8_knocks_76 : decode cX8_knocks 76 = .ok (.iload_n 2, 1) := by decide +kernel
theorem dX8_knocks_77 : decode cX8_knocks 77 = .ok (.invokevirtual 114, 3) := by decide +kernel
theorem dX8_knocks_80 : decode cX8_knocks 80 = .ok (.iload 4, 2) := by decide +kernel
theorem dX8_knocks_82 : decode cX8_knocks 82 = .ok (.ior, 1) := by decide +kernel
theorem dX8_knocks_83 : decode cX8_knocks 83 = .ok (.invokestatic 158, 3) := by decide +kernel
theorem dX8_knocks_86 : decode cX8_knocks 86 = .ok (.aload_n 0, 1) := by decide +kernel
theorem dX8_knocks_87 : decode cX8_knocks 87 = .ok (.aload_n 0, 1) := by decide +kernel
theorem dX8_knocks_88 : decode cX8_knocks 88 = .ok (.iload_n 1, 1) := by decide +kernel
theorem dX8_knocks_89 : decode cX8_knocks 89 = .ok (.invokevirtual 114, 3) := by decide +kernel
theorem dX8_knocks_92 : decode cX8_knocks 92 = .ok (.invokevirtual 121, 3) := by decide +kernel
theorem dX8_knocks_95 : decode cX8_knocks 95 = .ok (.ifCond .eq 7, 3) := by decide +kernel
theorem dX8_knocks_98 : decode cX8_knocks 98 = .ok (.iconst 1, 1) := by decide +kernel
theorem dX8_knocks_99 : decode cX8_knocks 99 = .ok (.goto 4, 3) := by decide +kernel
theorem dX8_knocks_102 : decode cX8_knocks 102 = .ok (.iconst 0, 1) := by decide +kernel
theorem dX8_knocks_103 : decode cX8_knocks 103 = .ok (.ireturn, 1) := by decide +kernel
theorem dX8_hoarse_0 : decode cX8_hoarse 0 = .ok (.aload_n 0, 1) := by decide +kernel
theorem dX8_hoarse_1 : decode cX8_hoarse 1 = .ok (.iload_n 1, 1) := by decide +kernel
theorem dX8_hoarse_2 : decode cX8_hoarse 2 = .ok (.invokevirtual 103, 3) := by decide +kernel
theorem dX8_hoarse_5 : decode cX8_hoarse 5 = .ok (.ifCond .eq 10, 3) := by decide +kernel
theorem dX8_hoarse_8 : decode cX8_hoarse 8 = .ok (.iload_n 2, 1) := by decide +kernel
theorem dX8_hoarse_9 : decode cX8_hoarse 9 = .ok (.invokestatic 169, 3) := by decide +kernel
theorem dX8_hoarse_12 : decode cX8_hoarse 12 = .ok (.ifCond .ne 5, 3) := by decide +kernel
theorem dX8_hoarse_15 : decode cX8_hoarse 15 = .ok (.iconst (-1), 1) := by decide +kernel
theorem dX8_hoarse_16 : decode cX8_hoarse 16 = .ok (.ireturn, 1) := by decide +kernel
theorem dX8_hoarse_17 : decode cX8_hoarse 17 = .ok (.aload_n 0, 1) := by decide +kernel
theorem dX8_hoarse_18 : decode cX8_hoarse 18 = .ok (.iload_n 1, 1) := by decide +kernel
theorem dX8_hoarse_19 : decode cX8_hoarse 19 = .ok (.invokevirtual 114, 3) := by decide +kernel
theorem dX8_hoarse_22 : decode cX8_hoarse 22 = .ok (.iload_n 2, 1) := by decide +kernel
theorem dX8_hoarse_23 : decode cX8_hoarse 23 = .ok (.invokestatic 172, 3) := by decide +kernel
theorem dX8_hoarse_26 : decode cX8_hoarse 26 = .ok (.ifCond .ne 6, 3) := by decide +kernel
theorem dX8_hoarse_29 : decode cX8_hoarse 29 = .ok (.bipush (-2), 2) := by decide +kernel
theorem dX8_hoarse_31 : decode cX8_hoarse 31 = .ok (.ireturn, 1) := by decide +kernel
theorem dX8_hoarse_32 : decode cX8_hoarse 32 = .ok (.aload_n 0, 1) := by decide +kernel
theorem dX8_hoarse_33 : decode cX8_hoarse 33 = .ok (.invokevirtual 152, 3) := by decide +kernel
theorem dX8_hoarse_36 : decode cX8_hoarse 36 = .ok (.aload_n 0, 1) := by decide +kernel
theorem dX8_hoarse_37 : decode cX8_hoarse 37 = .ok (.getfield 33, 3) := by decide +kernel
theorem dX8_hoarse_40 : decode cX8_hoarse 40 = .ok (.getfield 155, 3) := by decide +kernel
theorem dX8_hoarse_43 : decode cX8_hoarse 43 = .ok (.iload_n 1, 1) := by decide +kernel
theorem dX8_hoarse_44 : decode cX8_hoarse 44 = .ok (.aload_n 0, 1) := by decide +kernel
theorem dX8_hoarse_45 : decode cX8_hoarse 45 = .ok (.iload_n 1, 1) := by decide +kernel
theorem dX8_hoarse_46 : decode cX8_hoarse 46 = .ok (.invokevirtual 114, 3) := by decide +kernel
theorem dX8_hoarse_49 : decode cX8_hoarse 49 = .ok (.iconst 1, 1) := by decide +kernel
theorem dX8_hoarse_50 : decode cX8_hoarse 50 = .ok (.iload_n 2, 1) := by decide +kernel
theorem dX8_hoarse_51 : decode cX8_hoarse 51 = .ok (.ishl, 1) := by decide +kernel
theorem dX8_hoarse_52 : decode cX8_hoarse 52 = .ok (.iconst (-1), 1) := by decide +kernel
theorem dX8_hoarse_53 : decode cX8_hoarse 53 = .ok (.ixor, 1) := by decide +kernel
theorem dX8_hoarse_54 : decode cX8_hoarse 54 = .ok (.iand, 1) := by decide +kernel
theorem dX8_hoarse_55 : decode cX8_hoarse 55 = .ok (.invokestatic 158, 3) := by decide +kernel
theorem dX8_hoarse_58 : decode cX8_hoarse 58 = .ok (.aload_n 0, 1) := by decide +kernel
theorem dX8_hoarse_59 : decode cX8_hoarse 59 = .ok (.iload_n 1, 1) := by decide +kernel
theorem dX8_hoarse_60 : decode cX8_hoarse 60 = .ok (.invokevirtual 114, 3) := by decide +kernel
theorem dX8_hoarse_63 : decode cX8_hoarse 63 = .ok (.invokestatic 175, 3) := by decide +kernel
theorem dX8_hoarse_66 : decode cX8_hoarse 66 = .ok (.ireturn, 1) := by decide +kernel
theorem dX8_change_0 : decode cX8_change 0 = .ok (.aload_n 0, 1) := by decide +kernel
theorem dX8_change_1 : decode cX8_change 1 = .ok (.iload_n 1, 1) := by decide +kernel
theorem dX8_change_2 : decode cX8_change 2 = .ok (.invokevirtual 136, 3) := by decide +kernel
theorem dX8_change_5 : decode cX8_change 5 = .ok (.ifCond .eq 15, 3) := by decide +kernel
theorem dX8_change_8 : decode cX8_change 8 = .ok (.iload_n 2, 1) := by decide +kernel
theorem dX8_change_9 : decode cX8_change 9 = .ok (.iconst 1, 1) := by decide +kernel
theorem dX8_change_10 : decode cX8_change 10 = .ok (.if_icmp .lt 10, 3) := by decide +kernel
theorem dX8_change_13 : decode cX8_change 13 = .ok (.iload_n 2, 1) := by decide +kernel
theorem dX8_change_14 : decode cX8_change 14 = .ok (.sipush 255, 3) := by decide +kernel
theorem dX8_change_17 : decode cX8_change 17 = .ok (.if_icmp .le 5, 3) := by decide +kernel
theorem dX8_change_20 : decode cX8_change 20 = .ok (.iconst (-1), 1) := by decide +kernel
theorem dX8_change_21 : decode cX8_change 21 = .ok (.ireturn, 1) := by decide +kernel
theorem dX8_change_22 : decode cX8_change 22 = .ok (.iload_n 3, 1) := by decide +kernel
theorem dX8_change_23 : decode cX8_change 23 = .ok (.iconst 1, 1) := by decide +kernel
theorem dX8_change_24 : decode cX8_change 24 = .ok (.if_icmp .lt 11, 3) := by decide +kernel
theorem dX8_change_27 : decode cX8_change 27 = .ok (.iload_n 3, 1) := by decide +kernel
theorem dX8_change_28 : decode cX8_change 28 = .ok (.iload_n 2, 1) := by decide +kernel
theorem dX8_change_29 : decode cX8_change 29 = .ok (.invokestatic 175, 3) := by decide +kernel
theorem dX8_change_32 : decode cX8_change 32 = .ok (.if_icmp .le 5, 3) := by decide +kernel
theorem dX8_change_35 : decode cX8_change 35 = .ok (.iconst (-1), 1) := by decide +kernel
theorem dX8_change_36 : decode cX8_change 36 = .ok (.ireturn, 1) := by decide +kernel
theorem dX8_change_37 : decode cX8_change 37 = .ok (.aload_n 0, 1) := by decide +kernel
theorem dX8_change_38 : decode cX8_change 38 = .ok (.invokevirtual 152, 3) := by decide +kernel
theorem dX8_change_41 : decode cX8_change 41 = .ok (.aload_n 0, 1) := by decide +kernel
theorem dX8_change_42 : decode cX8_change 42 = .ok (.getfield 33, 3) := by decide +kernel
theorem dX8_change_45 : decode cX8_change 45 = .ok (.getfield 142, 3) := by decide +kernel
theorem dX8_change_48 : decode cX8_change 48 = .ok (.iload_n 1, 1) := by decide +kernel
theorem dX8_change_49 : decode cX8_change 49 = .ok (.iload_n 2, 1) := by decide +kernel
theorem dX8_change_50 : decode cX8_change 50 = .ok (.invokestatic 158, 3) := by decide +kernel
theorem dX8_change_53 : decode cX8_change 53 = .ok (.aload_n 0, 1) := by decide +kernel
theorem dX8_change_54 : decode cX8_change 54 = .ok (.getfield 33, 3) := by decide +kernel
theorem dX8_change_57 : decode cX8_change 57 = .ok (.getfield 145, 3) := by decide +kernel
theorem dX8_change_60 : decode cX8_change 60 = .ok (.iload_n 1, 1) := by decide +kernel
theorem dX8_change_61 : decode cX8_change 61 = .ok (.iload_n 3, 1) := by decide +kernel
theorem dX8_change_62 : decode cX8_change 62 = .ok (.invokestatic 158, 3) := by decide +kernel
theorem dX8_change_65 : decode cX8_change 65 = .ok (.aload_n 0, 1) := by decide +kernel
theorem dX8_change_66 : decode cX8_change 66 = .ok (.invokevirtual 180, 3) := by decide +kernel
theorem dX8_change_69 : decode cX8_change 69 = .ok (.invokestatic 175, 3) := by decide +kernel
theorem dX8_change_72 : decode cX8_change 72 = .ok (.ireturn, 1) := by decide +kernel
theorem dX8_undo_0 : decode cX8_undo 0 = .ok (.aload_n 0, 1) := by decide +kernel
theorem dX8_undo_1 : decode cX8_undo 1 = .ok (.getfield 94, 3) := by decide +kernel
theorem dX8_undo_4 : decode cX8_undo 4 = .ok (.ifCond .ne 6, 3) := by decide +kernel
theorem dX8_undo_7 : decode cX8_undo 7 = .ok (.bipush (-2), 2) := by decide +kernel
theorem dX8_undo_9 : decode cX8_undo 9 = .ok (.ireturn, 1) := by decide +kernel
theorem dX8_undo_10 : decode cX8_undo 10 = .ok (.aload_n 0, 1) := by decide +kernel
theorem dX8_undo_11 : decode cX8_undo 11 = .ok (.dup, 1) := by decide +kernel
theorem dX8_undo_12 : decode cX8_undo 12 = .ok (.getfield 94, 3) := by decide +kernel
theorem dX8_undo_15 : decode cX8_undo 15 = .ok (.iconst 1, 1) := by decide +kernel
theorem dX8_undo_16 : decode cX8_undo 16 = .ok (.isub, 1) := by decide +kernel
theorem dX8_undo_17 : decode cX8_undo 17 = .ok (.putfield 94, 3) := by decide +kernel
theorem dX8_undo_20 : decode cX8_undo 20 = .ok (.aload_n 0, 1) := by decide +kernel
theorem dX8_undo_21 : decode cX8_undo 21 = .ok (.aload_n 0, 1) := by decide +kernel
theorem dX8_undo_22 : decode cX8_undo 22 = .ok (.getfield 183, 3) := by decide +kernel
theorem dX8_undo_25 : decode cX8_undo 25 = .ok (.ifCond .ne 8, 3) := by decide +kernel
theorem dX8_undo_28 : decode cX8_undo 28 = .ok (.bipush 9, 2) := by decide +kernel
theorem dX8_undo_30 : decode cX8_undo 30 = .ok (.goto 9, 3) := by decide +kernel
theorem dX8_undo_33 : decode cX8_undo 33 = .ok (.aload_n 0, 1) := by decide +kernel
theorem dX8_undo_34 : decode cX8_undo 34 = .ok (.getfield 183, 3) := by decide +kernel
theorem dX8_undo_37 : decode cX8_undo 37 = .ok (.iconst 1, 1) := by decide +kernel
theorem dX8_undo_38 : decode cX8_undo 38 = .ok (.isub, 1) := by decide +kernel
theorem dX8_undo_39 : decode cX8_undo 39 = .ok (.putfield 183, 3) := by decide +kernel
theorem dX8_undo_42 : decode cX8_undo 42 = .ok (.aload_n 0, 1) := by decide +kernel
theorem dX8_undo_43 : decode cX8_undo 43 = .ok (.getfield 42, 3) := by decide +kernel
theorem dX8_undo_46 : decode cX8_undo 46 = .ok (.aload_n 0, 1) := by decide +kernel
theorem dX8_undo_47 : decode cX8_undo 47 = .ok (.getfield 183, 3) := by decide +kernel
theorem dX8_undo_50 : decode cX8_undo 50 = .ok (.aload_n 0, 1) := by decide +kernel
theorem dX8_undo_51 : decode cX8_undo 51 = .ok (.getfield 33, 3) := by decide +kernel
theorem dX8_undo_54 : decode cX8_undo 54 = .ok (.invokevirtual 186, 3) := by decide +kernel
theorem dX8_undo_57 : decode cX8_undo 57 = .ok (.aload_n 0, 1) := by decide +kernel
theorem dX8_undo_58 : decode cX8_undo 58 = .ok (.getfield 94, 3) := by decide +kernel
theorem dX8_undo_61 : decode cX8_undo 61 = .ok (.ireturn, 1) := by decide +kernel
theorem dX8_now_0 : decode cX8_now 0 = .ok (.iload_n 1, 1) := by decide +kernel
theorem dX8_now_1 : decode cX8_now 1 = .ok (.tableswitch 77 0 4 #[35, 40, 52, 64, 69], 35) := by decide +kernel
theorem dX8_now_36 : decode cX8_now 36 = .ok (.aload_n 0, 1) := by decide +kernel
theorem dX8_now_37 : decode cX8_now 37 = .ok (.invokevirtual 180, 3) := by decide +kernel
theorem dX8_now_40 : decode cX8_now 40 = .ok (.ireturn, 1) := by decide +kernel
theorem dX8_now_41 : decode cX8_now 41 = .ok (.aload_n 0, 1) := by decide +kernel
theorem dX8_now_42 : decode cX8_now 42 = .ok (.invokevirtual 180, 3) := by decide +kernel
theorem dX8_now_45 : decode cX8_now 45 = .ok (.aload_n 0, 1) := by decide +kernel
theorem dX8_now_46 : decode cX8_now 46 = .ok (.invokevirtual 190, 3) := by decide +kernel
theorem dX8_now_49 : decode cX8_now 49 = .ok (.iconst (-1), 1) := by decide +kernel
theorem dX8_now_50 : decode cX8_now 50 = .ok (.ixor, 1) := by decide +kernel
theorem dX8_now_51 : decode cX8_now 51 = .ok (.iand, 1) := by decide +kernel
theorem dX8_now_52 : decode cX8_now 52 = .ok (.ireturn, 1) := by decide +kernel
theorem dX8_now_53 : decode cX8_now 53 = .ok (.aload_n 0, 1) := by decide +kernel
theorem dX8_now_54 : decode cX8_now 54 = .ok (.invokevirtual 190, 3) := by decide +kernel
theorem dX8_now_57 : decode cX8_now 57 = .ok (.aload_n 0, 1) := by decide +kernel
theorem dX8_now_58 : decode cX8_now 58 = .ok (.invokevirtual 180, 3) := by decide +kernel
theorem dX8_now_61 : decode cX8_now 61 = .ok (.iconst (-1), 1) := by decide +kernel
theorem dX8_now_62 : decode cX8_now 62 = .ok (.ixor, 1) := by decide +kernel
theorem dX8_now_63 : decode cX8_now 63 = .ok (.iand, 1) := by decide +kernel
theorem dX8_now_64 : decode cX8_now 64 = .ok (.ireturn, 1) := by decide +kernel
theorem dX8_now_65 : decode cX8_now 65 = .ok (.aload_n 0, 1) := by decide +kernel
theorem dX8_now_66 : decode cX8_now 66 = .ok (.getfield 94, 3) := by decide +kernel
theorem dX8_now_69 : decode cX8_now 69 = .ok (.ireturn, 1) := by decide +kernel
theorem dX8_now_70 : decode cX8_now 70 = .ok (.aload_n 0, 1) := by decide +kernel
theorem dX8_now_71 : decode cX8_now 71 = .ok (.getfield 19, 3) := by decide +kernel
theorem dX8_now_74 : decode cX8_now 74 = .ok (.getfield 162, 3) := by decide +kernel
theorem dX8_now_77 : decode cX8_now 77 = .ok (.ireturn, 1) := by decide +kernel
theorem dX8_now_78 : decode cX8_now 78 = .ok (.iconst (-1), 1) := by decide +kernel
theorem dX8_now_79 : decode cX8_now 79 = .ok (.ireturn, 1) := by decide +kernel
theorem dX8_soonest_0 : decode cX8_soonest 0 = .ok (.aload_n 0, 1) := by decide +kernel
theorem dX8_soonest_1 : decode cX8_soonest 1 = .ok (.iload_n 1, 1) := by decide +kernel
theorem dX8_soonest_2 : decode cX8_soonest 2 = .ok (.invokevirtual 103, 3) := by decide +kernel
theorem dX8_soonest_5 : decode cX8_soonest 5 = .ok (.ifCond .eq 10, 3) := by decide +kernel
theorem dX8_soonest_8 : decode cX8_soonest 8 = .ok (.iload_n 2, 1) := by decide +kernel
theorem dX8_soonest_9 : decode cX8_soonest 9 = .ok (.invokestatic 139, 3) := by decide +kernel
theorem dX8_soonest_12 : decode cX8_soonest 12 = .ok (.ifCond .ne 5, 3) := by decide +kernel
theorem dX8_soonest_15 : decode cX8_soonest 15 = .ok (.iconst (-1), 1) := by decide +kernel
theorem dX8_soonest_16 : decode cX8_soonest 16 = .ok (.ireturn, 1) := by decide +kernel
theorem dX8_soonest_17 : decode cX8_soonest 17 = .ok (.aload_n 0, 1) := by decide +kernel
theorem dX8_soonest_18 : decode cX8_soonest 18 = .ok (.iload_n 1, 1) := by decide +kernel
theorem dX8_soonest_19 : decode cX8_soonest 19 = .ok (.iconst 0, 1) := by decide +kernel
theorem dX8_soonest_20 : decode cX8_soonest 20 = .ok (.invokevirtual 193, 3) := by decide +kernel
theorem dX8_soonest_23 : decode cX8_soonest 23 = .ok (.istore_n 3, 1) := by decide +kernel
theorem dX8_soonest_24 : decode cX8_soonest 24 = .ok (.iload_n 3, 1) := by decide +kernel
theorem dX8_soonest_25 : decode cX8_soonest 25 = .ok (.ifCond .ge 6, 3) := by decide +kernel
theorem dX8_soonest_28 : decode cX8_soonest 28 = .ok (.bipush (-9), 2) := by decide +kernel
theorem dX8_soonest_30 : decode cX8_soonest 30 = .ok (.ireturn, 1) := by decide +kernel
theorem dX8_soonest_31 : decode cX8_soonest 31 = .ok (.iload_n 2, 1) := by decide +kernel
theorem dX8_soonest_32 : decode cX8_soonest 32 = .ok (.ifCond .ne 17, 3) := by decide +kernel
theorem dX8_soonest_35 : decode cX8_soonest 35 = .ok (.aload_n 0, 1) := by decide +kernel
theorem dX8_soonest_36 : decode cX8_soonest 36 = .ok (.getfield 52, 3) := by decide +kernel
theorem dX8_soonest_39 : decode cX8_soonest 39 = .ok (.getfield 197, 3) := by decide +kernel
theorem dX8_soonest_42 : decode cX8_soonest 42 = .ok (.iload_n 3, 1) := by decide +kernel
theorem dX8_soonest_43 : decode cX8_soonest 43 = .ok (.invokestatic 110, 3) := by decide +kernel
theorem dX8_soonest_46 : decode cX8_soonest 46 = .ok (.goto 4, 3) := by decide +kernel
theorem dX8_soonest_49 : decode cX8_soonest 49 = .ok (.iload_n 3, 1) := by decide +kernel
theorem dX8_soonest_50 : decode cX8_soonest 50 = .ok (.ireturn, 1) := by decide +kernel
theorem dX8_bar_0 : decode cX8_bar 0 = .ok (.aload_n 0, 1) := by decide +kernel
theorem dX8_bar_1 : decode cX8_bar 1 = .ok (.iload_n 1, 1) := by decide +kernel
theorem dX8_bar_2 : decode cX8_bar 2 = .ok (.invokevirtual 103, 3) := by decide +kernel
theorem dX8_bar_5 : decode cX8_bar 5 = .ok (.ifCond .eq 10, 3) := by decide +kernel
theorem dX8_bar_8 : decode cX8_bar 8 = .ok (.iload_n 2, 1) := by decide +kernel
theorem dX8_bar_9 : decode cX8_bar 9 = .ok (.invokestatic 198, 3) := by decide +kernel
theorem dX8_bar_12 : decode cX8_bar 12 = .ok (.ifCond .ne 5, 3) := by decide +kernel
theorem dX8_bar_15 : decode cX8_bar 15 = .ok (.iconst (-1), 1) := by decide +kernel
theorem dX8_bar_16 : decode cX8_bar 16 = .ok (.ireturn, 1) := by decide +kernel
theorem dX8_bar_17 : decode cX8_bar 17 = .ok (.aload_n 0, 1) := by decide +kernel
theorem dX8_bar_18 : decode cX8_bar 18 = .ok (.iload_n 1, 1) := by decide +kernel
theorem dX8_bar_19 : decode cX8_bar 19 = .ok (.iconst 0, 1) := by decide +kernel
theorem dX8_bar_20 : decode cX8_bar 20 = .ok (.iload_n 2, 1) := by decide +kernel
theorem dX8_bar_21 : decode cX8_bar 21 = .ok (.invokevirtual 201, 3) := by decide +kernel
theorem dX8_bar_24 : decode cX8_bar 24 = .ok (.ifCond .ne 6, 3) := by decide +kernel
theorem dX8_bar_27 : decode cX8_bar 27 = .ok (.bipush (-5), 2) := by decide +kernel
theorem dX8_bar_29 : decode cX8_bar 29 = .ok (.ireturn, 1) := by decide +kernel
theorem dX8_bar_30 : decode cX8_bar 30 = .ok (.iconst 0, 1) := by decide +kernel
theorem dX8_bar_31 : decode cX8_bar 31 = .ok (.istore_n 3, 1) := by decide +kernel
theorem dX8_bar_32 : decode cX8_bar 32 = .ok (.iload_n 3, 1) := by decide +kernel
theorem dX8_bar_33 : decode cX8_bar 33 = .ok (.aload_n 0, 1) := by decide +kernel
theorem dX8_bar_34 : decode cX8_bar 34 = .ok (.getfield 19, 3) := by decide +kernel
theorem dX8_bar_37 : decode cX8_bar 37 = .ok (.getfield 205, 3) := by decide +kernel
theorem dX8_bar_40 : decode cX8_bar 40 = .ok (.if_icmp .ge 23, 3) := by decide +kernel
theorem dX8_bar_43 : decode cX8_bar 43 = .ok (.aload_n 0, 1) := by decide +kernel
theorem dX8_bar_44 : decode cX8_bar 44 = .ok (.iload_n 1, 1) := by decide +kernel
theorem dX8_bar_45 : decode cX8_bar 45 = .ok (.iconst 1, 1) := by decide +kernel
theorem dX8_bar_46 : decode cX8_bar 46 = .ok (.iload_n 3, 1) := by decide +kernel
theorem dX8_bar_47 : decode cX8_bar 47 = .ok (.ishl, 1) := by decide +kernel
theorem dX8_bar_48 : decode cX8_bar 48 = .ok (.iload_n 2, 1) := by decide +kernel
theorem dX8_bar_49 : decode cX8_bar 49 = .ok (.invokevirtual 201, 3) := by decide +kernel
theorem dX8_bar_52 : decode cX8_bar 52 = .ok (.ifCond .ne 5, 3) := by decide +kernel
theorem dX8_bar_55 : decode cX8_bar 55 = .ok (.iload_n 3, 1) := by decide +kernel
theorem dX8_bar_56 : decode cX8_bar 56 = .ok (.ireturn, 1) := by decide +kernel
theorem dX8_bar_57 : decode cX8_bar 57 = .ok (.iinc 3 1, 3) := by decide +kernel
theorem dX8_bar_60 : decode cX8_bar 60 = .ok (.goto (-28), 3) := by decide +kernel
theorem dX8_bar_63 : decode cX8_bar 63 = .ok (.bipush (-9), 2) := by decide +kernel
theorem dX8_bar_65 : decode cX8_bar 65 = .ok (.ireturn, 1) := by decide +kernel
theorem dX8_ask_0 : decode cX8_ask 0 = .ok (.iload_n 1, 1) := by decide +kernel
theorem dX8_ask_1 : decode cX8_ask 1 = .ok (.invokestatic 139, 3) := by decide +kernel
theorem dX8_ask_4 : decode cX8_ask 4 = .ok (.ifCond .ne 5, 3) := by decide +kernel
theorem dX8_ask_7 : decode cX8_ask 7 = .ok (.iconst (-1), 1) := by decide +kernel
theorem dX8_ask_8 : decode cX8_ask 8 = .ok (.ireturn, 1) := by decide +kernel
theorem dX8_ask_9 : decode cX8_ask 9 = .ok (.aload_n 0, 1) := by decide +kernel
theorem dX8_ask_10 : decode cX8_ask 10 = .ok (.iconst 0, 1) := by decide +kernel
theorem dX8_ask_11 : decode cX8_ask 11 = .ok (.iload_n 1, 1) := by decide +kernel
theorem dX8_ask_12 : decode cX8_ask 12 = .ok (.invokevirtual 208, 3) := by decide +kernel
theorem dX8_ask_15 : decode cX8_ask 15 = .ok (.ireturn, 1) := by decide +kernel
theorem dX8_safe_0 : decode cX8_safe 0 = .ok (.iload_n 1, 1) := by decide +kernel
theorem dX8_safe_1 : decode cX8_safe 1 = .ok (.invokestatic 198, 3) := by decide +kernel
theorem dX8_safe_4 : decode cX8_safe 4 = .ok (.ifCond .eq 10, 3) := by decide +kernel
theorem dX8_safe_7 : decode cX8_safe 7 = .ok (.iload_n 2, 1) := by decide +kernel
theorem dX8_safe_8 : decode cX8_safe 8 = .ok (.invokestatic 139, 3) := by decide +kernel
theorem dX8_safe_11 : decode cX8_safe 11 = .ok (.ifCond .ne 5, 3) := by decide +kernel
theorem dX8_safe_14 : decode cX8_safe 14 = .ok (.iconst (-1), 1) := by decide +kernel
theorem dX8_safe_15 : decode cX8_safe 15 = .ok (.ireturn, 1) := by decide +kernel
theorem dX8_safe_16 : decode cX8_safe 16 = .ok (.aload_n 0, 1) := by decide +kernel
theorem dX8_safe_17 : decode cX8_safe 17 = .ok (.iload_n 1, 1) := by decide +kernel
theorem dX8_safe_18 : decode cX8_safe 18 = .ok (.iload_n 2, 1) := by decide +kernel
theorem dX8_safe_19 : decode cX8_safe 19 = .ok (.invokevirtual 208, 3) := by decide +kernel
theorem dX8_safe_22 : decode cX8_safe 22 = .ok (.ireturn, 1) := by decide +kernel
theorem dX8_odds_0 : decode cX8_odds 0 = .ok (.aload_n 0, 1) := by decide +kernel
theorem dX8_odds_1 : decode cX8_odds 1 = .ok (.iload_n 1, 1) := by decide +kernel
theorem dX8_odds_2 : decode cX8_odds 2 = .ok (.invokevirtual 103, 3) := by decide +kernel
theorem dX8_odds_5 : decode cX8_odds 5 = .ok (.ifCond .eq 20, 3) := by decide +kernel
theorem dX8_odds_8 : decode cX8_odds 8 = .ok (.iload_n 2, 1) := by decide +kernel
theorem dX8_odds_9 : decode cX8_odds 9 = .ok (.ifCond .lt 16, 3) := by decide +kernel
theorem dX8_odds_12 : decode cX8_odds 12 = .ok (.iload_n 2, 1) := by decide +kernel
theorem dX8_odds_13 : decode cX8_odds 13 = .ok (.bipush 10, 2) := by decide +kernel
theorem dX8_odds_15 : decode cX8_odds 15 = .ok (.if_icmp .gt 10, 3) := by decide +kernel
theorem dX8_odds_18 : decode cX8_odds 18 = .ok (.iload_n 3, 1) := by decide +kernel
theorem dX8_odds_19 : decode cX8_odds 19 = .ok (.invokestatic 139, 3) := by decide +kernel
theorem dX8_odds_22 : decode cX8_odds 22 = .ok (.ifCond .ne 7, 3) := by decide +kernel
theorem dX8_odds_25 : decode cX8_odds 25 = .ok (.ldc2_w 211, 3) := by decide +kernel
theorem dX8_odds_28 : decode cX8_odds 28 = .ok (.lreturn, 1) := by decide +kernel
theorem dX8_odds_29 : decode cX8_odds 29 = .ok (.aload_n 0, 1) := by decide +kernel
theorem dX8_odds_30 : decode cX8_odds 30 = .ok (.iload_n 1, 1) := by decide +kernel
theorem dX8_odds_31 : decode cX8_odds 31 = .ok (.invokevirtual 114, 3) := by decide +kernel
theorem dX8_odds_34 : decode cX8_odds 34 = .ok (.istore 4, 2) := by decide +kernel
theorem dX8_odds_36 : decode cX8_odds 36 = .ok (.iload 4, 2) := by decide +kernel
theorem dX8_odds_38 : decode cX8_odds 38 = .ok (.invokestatic 175, 3) := by decide +kernel
theorem dX8_odds_41 : decode cX8_odds 41 = .ok (.istore 5, 2) := by decide +kernel
theorem dX8_odds_43 : decode cX8_odds 43 = .ok (.lconst 0, 1) := by decide +kernel
theorem dX8_odds_44 : decode cX8_odds 44 = .ok (.lstore 6, 2) := by decide +kernel
theorem dX8_odds_46 : decode cX8_odds 46 = .ok (.iconst 0, 1) := by decide +kernel
theorem dX8_odds_47 : decode cX8_odds 47 = .ok (.istore 8, 2) := by decide +kernel
theorem dX8_odds_49 : decode cX8_odds 49 = .ok (.iload 8, 2) := by decide +kernel
theorem dX8_odds_51 : decode cX8_odds 51 = .ok (.sipush 255, 3) := by decide +kernel
theorem dX8_odds_54 : decode cX8_odds 54 = .ok (.if_icmp .gt 62, 3) := by decide +kernel
theorem dX8_odds_57 : decode cX8_odds 57 = .ok (.iload 8, 2) := by decide +kernel
theorem dX8_odds_59 : decode cX8_odds 59 = .ok (.iload 4, 2) := by decide +kernel
theorem dX8_odds_61 : decode cX8_odds 61 = .ok (.iconst (-1), 1) := by decide +kernel
theorem dX8_odds_62 : decode cX8_odds 62 = .ok (.ixor, 1) := by decide +kernel
theorem dX8_odds_63 : decode cX8_odds 63 = .ok (.iand, 1) := by decide +kernel
theorem dX8_odds_64 : decode cX8_odds 64 = .ok (.ifCond .ne 46, 3) := by decide +kernel
theorem dX8_odds_67 : decode cX8_odds 67 = .ok (.aload_n 0, 1) := by decide +kernel
theorem dX8_odds_68 : decode cX8_odds 68 = .ok (.iload 8, 2) := by decide +kernel
theorem dX8_odds_70 : decode cX8_odds 70 = .ok (.invokevirtual 121, 3) := by decide +kernel
theorem dX8_odds_73 : decode cX8_odds 73 = .ok (.ifCond .ne 6, 3) := by decide +kernel
theorem dX8_odds_76 : decode cX8_odds 76 = .ok (.goto 34, 3) := by decide +kernel
theorem dX8_odds_79 : decode cX8_odds 79 = .ok (.iload 8, 2) := by decide +kernel
theorem dX8_odds_81 : decode cX8_odds 81 = .ok (.invokestatic 175, 3) := by decide +kernel
theorem dX8_odds_84 : decode cX8_odds 84 = .ok (.istore 9, 2) := by decide +kernel
theorem dX8_odds_86 : decode cX8_odds 86 = .ok (.lload 6, 2) := by decide +kernel
theorem dX8_odds_88 : decode cX8_odds 88 = .ok (.bipush 10, 2) := by decide +kernel
theorem dX8_odds_90 : decode cX8_odds 90 = .ok (.iload_n 2, 1) := by decide +kernel
theorem dX8_odds_91 : decode cX8_odds 91 = .ok (.isub, 1) := by decide +kernel
theorem dX8_odds_92 : decode cX8_odds 92 = .ok (.iload 9, 2) := by decide +kernel
theorem dX8_odds_94 : decode cX8_odds 94 = .ok (.invokestatic 213, 3) := by decide +kernel
theorem dX8_odds_97 : decode cX8_odds 97 = .ok (.iload_n 2, 1) := by decide +kernel
theorem dX8_odds_98 : decode cX8_odds 98 = .ok (.iload 5, 2) := by decide +kernel
theorem dX8_odds_100 : decode cX8_odds 100 = .ok (.iload 9, 2) := by decide +kernel
theorem dX8_odds_102 : decode cX8_odds 102 = .ok (.isub, 1) := by decide +kernel
theorem dX8_odds_103 : decode cX8_odds 103 = .ok (.invokestatic 213, 3) := by decide +kernel
theorem dX8_odds_106 : decode cX8_odds 106 = .ok (.lmul, 1) := by decide +kernel
theorem dX8_odds_107 : decode cX8_odds 107 = .ok (.ladd, 1) := by decide +kernel
theorem dX8_odds_108 : decode cX8_odds 108 = .ok (.lstore 6, 2) := by decide +kernel
theorem dX8_odds_110 : decode cX8_odds 110 = .ok (.iinc 8 1, 3) := by decide +kernel
theorem dX8_odds_113 : decode cX8_odds 113 = .ok (.goto (-64), 3) := by decide +kernel
theorem dX8_odds_116 : decode cX8_odds 116 = .ok (.bipush 10, 2) := by decide +kernel
theorem dX8_odds_118 : decode cX8_odds 118 = .ok (.iload 5, 2) := by decide +kernel
theorem dX8_odds_120 : decode cX8_odds 120 = .ok (.invokestatic 213, 3) := by decide +kernel
theorem dX8_odds_123 : decode cX8_odds 123 = .ok (.lstore 8, 2) := by decide +kernel
theorem dX8_odds_125 : decode cX8_odds 125 = .ok (.lconst 1, 1) := by decide +kernel
theorem dX8_odds_126 : decode cX8_odds 126 = .ok (.lload 6, 2) := by decide +kernel
theorem dX8_odds_128 : decode cX8_odds 128 = .ok (.lload 8, 2) := by decide +kernel
theorem dX8_odds_130 : decode cX8_odds 130 = .ok (.invokestatic 217, 3) := by decide +kernel
theorem dX8_odds_133 : decode cX8_odds 133 = .ok (.invokestatic 221, 3) := by decide +kernel
theorem dX8_odds_136 : decode cX8_odds 136 = .ok (.lstore 10, 2) := by decide +kernel
theorem dX8_odds_138 : decode cX8_odds 138 = .ok (.iload_n 3, 1) := by decide +kernel
theorem dX8_odds_139 : decode cX8_odds 139 = .ok (.ifCond .ne 11, 3) := by decide +kernel
theorem dX8_odds_142 : decode cX8_odds 142 = .ok (.lload 6, 2) := by decide +kernel
theorem dX8_odds_144 : decode cX8_odds 144 = .ok (.lload 10, 2) := by decide +kernel
theorem dX8_odds_146 : decode cX8_odds 146 = .ok (.ldiv, 1) := by decide +kernel
theorem dX8_odds_147 : decode cX8_odds 147 = .ok (.goto 8, 3) := by decide +kernel
theorem dX8_odds_150 : decode cX8_odds 150 = .ok (.lload 8, 2) := by decide +kernel
theorem dX8_odds_152 : decode cX8_odds 152 = .ok (.lload 10, 2) := by decide +kernel
theorem dX8_odds_154 : decode cX8_odds 154 = .ok (.ldiv, 1) := by decide +kernel
theorem dX8_odds_155 : decode cX8_odds 155 = .ok (.lreturn, 1) := by decide +kernel
theorem dX8_shown_0 : decode cX8_shown 0 = .ok (.iload_n 1, 1) := by decide +kernel
theorem dX8_shown_1 : decode cX8_shown 1 = .ok (.invokestatic 169, 3) := by decide +kernel
theorem dX8_shown_4 : decode cX8_shown 4 = .ok (.ifCond .eq 10, 3) := by decide +kernel
theorem dX8_shown_7 : decode cX8_shown 7 = .ok (.iload_n 2, 1) := by decide +kernel
theorem dX8_shown_8 : decode cX8_shown 8 = .ok (.invokestatic 139, 3) := by decide +kernel
theorem dX8_shown_11 : decode cX8_shown 11 = .ok (.ifCond .ne 5, 3) := by decide +kernel
theorem dX8_shown_14 : decode cX8_shown 14 = .ok (.iconst (-1), 1) := by decide +kernel
theorem dX8_shown_15 : decode cX8_shown 15 = .ok (.ireturn, 1) := by decide +kernel
theorem dX8_shown_16 : decode cX8_shown 16 = .ok (.aload_n 0, 1) := by decide +kernel
theorem dX8_shown_17 : decode cX8_shown 17 = .ok (.getfield 100, 3) := by decide +kernel
theorem dX8_shown_20 : decode cX8_shown 20 = .ok (.bipush 6, 2) := by decide +kernel
theorem dX8_shown_22 : decode cX8_shown 22 = .ok (.if_icmp .lt 6, 3) := by decide +kernel
theorem dX8_shown_25 : decode cX8_shown 25 = .ok (.bipush (-3), 2) := by decide +kernel
theorem dX8_shown_27 : decode cX8_shown 27 = .ok (.ireturn, 1) := by decide +kernel
theorem dX8_shown_28 : decode cX8_shown 28 = .ok (.aload_n 0, 1) := by decide +kernel
theorem dX8_shown_29 : decode cX8_shown 29 = .ok (.getfield 63, 3) := by decide +kernel
theorem dX8_shown_32 : decode cX8_shown 32 = .ok (.aload_n 0, 1) := by decide +kernel
theorem dX8_shown_33 : decode cX8_shown 33 = .ok (.getfield 100, 3) := by decide +kernel
theorem dX8_shown_36 : decode cX8_shown 36 = .ok (.iload_n 1, 1) := by decide +kernel
theorem dX8_shown_37 : decode cX8_shown 37 = .ok (.invokestatic 158, 3) := by decide +kernel
theorem dX8_shown_40 : decode cX8_shown 40 = .ok (.aload_n 0, 1) := by decide +kernel
theorem dX8_shown_41 : decode cX8_shown 41 = .ok (.getfield 67, 3) := by decide +kernel
theorem dX8_shown_44 : decode cX8_shown 44 = .ok (.aload_n 0, 1) := by decide +kernel
theorem dX8_shown_45 : decode cX8_shown 45 = .ok (.getfield 100, 3) := by decide +kernel
theorem dX8_shown_48 : decode cX8_shown 48 = .ok (.iload_n 2, 1) := by decide +kernel
theorem dX8_shown_49 : decode cX8_shown 49 = .ok (.invokestatic 158, 3) := by decide +kernel
theorem dX8_shown_52 : decode cX8_shown 52 = .ok (.aload_n 0, 1) := by decide +kernel
theorem dX8_shown_53 : decode cX8_shown 53 = .ok (.dup, 1) := by decide +kernel
theorem dX8_shown_54 : decode cX8_shown 54 = .ok (.getfield 100, 3) := by decide +kernel
theorem dX8_shown_57 : decode cX8_shown 57 = .ok (.iconst 1, 1) := by decide +kernel
theorem dX8_shown_58 : decode cX8_shown 58 = .ok (.iadd, 1) := by decide +kernel
theorem dX8_shown_59 : decode cX8_shown 59 = .ok (.putfield 100, 3) := by decide +kernel
theorem dX8_shown_62 : decode cX8_shown 62 = .ok (.aload_n 0, 1) := by decide +kernel
theorem dX8_shown_63 : decode cX8_shown 63 = .ok (.getfield 100, 3) := by decide +kernel
theorem dX8_shown_66 : decode cX8_shown 66 = .ok (.ireturn, 1) := by decide +kernel
theorem dX8_forget_0 : decode cX8_forget 0 = .ok (.aload_n 0, 1) := by decide +kernel
theorem dX8_forget_1 : decode cX8_forget 1 = .ok (.getfield 100, 3) := by decide +kernel
theorem dX8_forget_4 : decode cX8_forget 4 = .ok (.istore_n 1, 1) := by decide +kernel
theorem dX8_forget_5 : decode cX8_forget 5 = .ok (.aload_n 0, 1) := by decide +kernel
theorem dX8_forget_6 : decode cX8_forget 6 = .ok (.iconst 0, 1) := by decide +kernel
theorem dX8_forget_7 : decode cX8_forget 7 = .ok (.putfield 100, 3) := by decide +kernel
theorem dX8_forget_10 : decode cX8_forget 10 = .ok (.iload_n 1, 1) := by decide +kernel
theorem dX8_forget_11 : decode cX8_forget 11 = .ok (.ireturn, 1) := by decide +kernel
theorem dX8_who_0 : decode cX8_who 0 = .ok (.iconst 0, 1) := by decide +kernel
theorem dX8_who_1 : decode cX8_who 1 = .ok (.istore_n 1, 1) := by decide +kernel
theorem dX8_who_2 : decode cX8_who 2 = .ok (.iconst 0, 1) := by decide +kernel
theorem dX8_who_3 : decode cX8_who 3 = .ok (.istore_n 2, 1) := by decide +kernel
theorem dX8_who_4 : decode cX8_who 4 = .ok (.iload_n 2, 1) := by decide +kernel
theorem dX8_who_5 : decode cX8_who 5 = .ok (.aload_n 0, 1) := by decide +kernel
theorem dX8_who_6 : decode cX8_who 6 = .ok (.getfield 19, 3) := by decide +kernel
theorem dX8_who_9 : decode cX8_who 9 = .ok (.getfield 226, 3) := by decide +kernel
theorem dX8_who_12 : decode cX8_who 12 = .ok (.if_icmp .ge 23, 3) := by decide +kernel
theorem dX8_who_15 : decode cX8_who 15 = .ok (.aload_n 0, 1) := by decide +kernel
theorem dX8_who_16 : decode cX8_who 16 = .ok (.iload_n 2, 1) := by decide +kernel
theorem dX8_who_17 : decode cX8_who 17 = .ok (.invokevirtual 229, 3) := by decide +kernel
theorem dX8_who_20 : decode cX8_who 20 = .ok (.ifCond .eq 9, 3) := by decide +kernel
theorem dX8_who_23 : decode cX8_who 23 = .ok (.iload_n 1, 1) := by decide +kernel
theorem dX8_who_24 : decode cX8_who 24 = .ok (.iconst 1, 1) := by decide +kernel
theorem dX8_who_25 : decode cX8_who 25 = .ok (.iload_n 2, 1) := by decide +kernel
theorem dX8_who_26 : decode cX8_who 26 = .ok (.ishl, 1) := by decide +kernel
theorem dX8_who_27 : decode cX8_who 27 = .ok (.ior, 1) := by decide +kernel
theorem dX8_who_28 : decode cX8_who 28 = .ok (.istore_n 1, 1) := by decide +kernel
theorem dX8_who_29 : decode cX8_who 29 = .ok (.iinc 2 1, 3) := by decide +kernel
theorem dX8_who_32 : decode cX8_who 32 = .ok (.goto (-28), 3) := by decide +kernel
theorem dX8_who_35 : decode cX8_who 35 = .ok (.iload_n 1, 1) := by decide +kernel
theorem dX8_who_36 : decode cX8_who 36 = .ok (.ireturn, 1) := by decide +kernel
theorem dX8_tell_0 : decode cX8_tell 0 = .ok (.iload_n 1, 1) := by decide +kernel
theorem dX8_tell_1 : decode cX8_tell 1 = .ok (.invokestatic 139, 3) := by decide +kernel
theorem dX8_tell_4 : decode cX8_tell 4 = .ok (.ifCond .ne 5, 3) := by decide +kernel
