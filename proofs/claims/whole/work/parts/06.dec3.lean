theorem dX9_type_1 : decode cX9_type 1 = .ok (.iconst 0, 1) := by decide +kernel
theorem dX9_type_2 : decode cX9_type 2 = .ok (.putfield 44, 3) := by decide +kernel
theorem dX9_type_5 : decode cX9_type 5 = .ok (.iload_n 3, 1) := by decide +kernel
theorem dX9_type_6 : decode cX9_type 6 = .ok (.iconst 1, 1) := by decide +kernel
theorem dX9_type_7 : decode cX9_type 7 = .ok (.bipush 8, 2) := by decide +kernel
theorem dX9_type_9 : decode cX9_type 9 = .ok (.invokestatic 48, 3) := by decide +kernel
theorem dX9_type_12 : decode cX9_type 12 = .ok (.ifCond .ne 5, 3) := by decide +kernel
theorem dX9_type_15 : decode cX9_type 15 = .ok (.iconst (-1), 1) := by decide +kernel
theorem dX9_type_16 : decode cX9_type 16 = .ok (.ireturn, 1) := by decide +kernel
theorem dX9_type_17 : decode cX9_type 17 = .ok (.aload_n 0, 1) := by decide +kernel
theorem dX9_type_18 : decode cX9_type 18 = .ok (.getfield 52, 3) := by decide +kernel
theorem dX9_type_21 : decode cX9_type 21 = .ok (.iload_n 3, 1) := by decide +kernel
theorem dX9_type_22 : decode cX9_type 22 = .ok (.iadd, 1) := by decide +kernel
theorem dX9_type_23 : decode cX9_type 23 = .ok (.sipush 300, 3) := by decide +kernel
theorem dX9_type_26 : decode cX9_type 26 = .ok (.if_icmp .le 6, 3) := by decide +kernel
theorem dX9_type_29 : decode cX9_type 29 = .ok (.bipush (-3), 2) := by decide +kernel
theorem dX9_type_31 : decode cX9_type 31 = .ok (.ireturn, 1) := by decide +kernel
theorem dX9_type_32 : decode cX9_type 32 = .ok (.iload_n 3, 1) := by decide +kernel
theorem dX9_type_33 : decode cX9_type 33 = .ok (.iconst 1, 1) := by decide +kernel
theorem dX9_type_34 : decode cX9_type 34 = .ok (.isub, 1) := by decide +kernel
theorem dX9_type_35 : decode cX9_type 35 = .ok (.istore 4, 2) := by decide +kernel
theorem dX9_type_37 : decode cX9_type 37 = .ok (.iload 4, 2) := by decide +kernel
theorem dX9_type_39 : decode cX9_type 39 = .ok (.ifCond .lt 40, 3) := by decide +kernel
theorem dX9_type_42 : decode cX9_type 42 = .ok (.aload_n 0, 1) := by decide +kernel
theorem dX9_type_43 : decode cX9_type 43 = .ok (.getfield 7, 3) := by decide +kernel
theorem dX9_type_46 : decode cX9_type 46 = .ok (.aload_n 0, 1) := by decide +kernel
theorem dX9_type_47 : decode cX9_type 47 = .ok (.getfield 52, 3) := by decide +kernel
theorem dX9_type_50 : decode cX9_type 50 = .ok (.lload_n 1, 1) := by decide +kernel
theorem dX9_type_51 : decode cX9_type 51 = .ok (.bipush 8, 2) := by decide +kernel
theorem dX9_type_53 : decode cX9_type 53 = .ok (.iload 4, 2) := by decide +kernel
theorem dX9_type_55 : decode cX9_type 55 = .ok (.imul, 1) := by decide +kernel
theorem dX9_type_56 : decode cX9_type 56 = .ok (.lshr, 1) := by decide +kernel
theorem dX9_type_57 : decode cX9_type 57 = .ok (.ldc2_w 55, 3) := by decide +kernel
theorem dX9_type_60 : decode cX9_type 60 = .ok (.land, 1) := by decide +kernel
theorem dX9_type_61 : decode cX9_type 61 = .ok (.l2i, 1) := by decide +kernel
theorem dX9_type_62 : decode cX9_type 62 = .ok (.iastore, 1) := by decide +kernel
theorem dX9_type_63 : decode cX9_type 63 = .ok (.aload_n 0, 1) := by decide +kernel
theorem dX9_type_64 : decode cX9_type 64 = .ok (.dup, 1) := by decide +kernel
theorem dX9_type_65 : decode cX9_type 65 = .ok (.getfield 52, 3) := by decide +kernel
theorem dX9_type_68 : decode cX9_type 68 = .ok (.iconst 1, 1) := by decide +kernel
theorem dX9_type_69 : decode cX9_type 69 = .ok (.iadd, 1) := by decide +kernel
theorem dX9_type_70 : decode cX9_type 70 = .ok (.putfield 52, 3) := by decide +kernel
theorem dX9_type_73 : decode cX9_type 73 = .ok (.iinc 4 (-1), 3) := by decide +kernel
theorem dX9_type_76 : decode cX9_type 76 = .ok (.goto (-39), 3) := by decide +kernel
theorem dX9_type_79 : decode cX9_type 79 = .ok (.aload_n 0, 1) := by decide +kernel
theorem dX9_type_80 : decode cX9_type 80 = .ok (.getfield 52, 3) := by decide +kernel
theorem dX9_type_83 : decode cX9_type 83 = .ok (.ireturn, 1) := by decide +kernel
theorem dX9_clear_0 : decode cX9_clear 0 = .ok (.aload_n 0, 1) := by decide +kernel
theorem dX9_clear_1 : decode cX9_clear 1 = .ok (.iconst 0, 1) := by decide +kernel
theorem dX9_clear_2 : decode cX9_clear 2 = .ok (.putfield 44, 3) := by decide +kernel
theorem dX9_clear_5 : decode cX9_clear 5 = .ok (.aload_n 0, 1) := by decide +kernel
theorem dX9_clear_6 : decode cX9_clear 6 = .ok (.getfield 52, 3) := by decide +kernel
theorem dX9_clear_9 : decode cX9_clear 9 = .ok (.istore_n 1, 1) := by decide +kernel
theorem dX9_clear_10 : decode cX9_clear 10 = .ok (.aload_n 0, 1) := by decide +kernel
theorem dX9_clear_11 : decode cX9_clear 11 = .ok (.iconst 0, 1) := by decide +kernel
theorem dX9_clear_12 : decode cX9_clear 12 = .ok (.putfield 52, 3) := by decide +kernel
theorem dX9_clear_15 : decode cX9_clear 15 = .ok (.iload_n 1, 1) := by decide +kernel
theorem dX9_clear_16 : decode cX9_clear 16 = .ok (.ireturn, 1) := by decide +kernel
theorem dX9_byteAt_0 : decode cX9_byteAt 0 = .ok (.iload_n 1, 1) := by decide +kernel
theorem dX9_byteAt_1 : decode cX9_byteAt 1 = .ok (.aload_n 0, 1) := by decide +kernel
theorem dX9_byteAt_2 : decode cX9_byteAt 2 = .ok (.getfield 52, 3) := by decide +kernel
theorem dX9_byteAt_5 : decode cX9_byteAt 5 = .ok (.if_icmp .ge 12, 3) := by decide +kernel
theorem dX9_byteAt_8 : decode cX9_byteAt 8 = .ok (.aload_n 0, 1) := by decide +kernel
theorem dX9_byteAt_9 : decode cX9_byteAt 9 = .ok (.getfield 7, 3) := by decide +kernel
theorem dX9_byteAt_12 : decode cX9_byteAt 12 = .ok (.iload_n 1, 1) := by decide +kernel
theorem dX9_byteAt_13 : decode cX9_byteAt 13 = .ok (.iaload, 1) := by decide +kernel
theorem dX9_byteAt_14 : decode cX9_byteAt 14 = .ok (.goto 4, 3) := by decide +kernel
theorem dX9_byteAt_17 : decode cX9_byteAt 17 = .ok (.iconst (-1), 1) := by decide +kernel
theorem dX9_byteAt_18 : decode cX9_byteAt 18 = .ok (.ireturn, 1) := by decide +kernel
theorem dX9_add_0 : decode cX9_add 0 = .ok (.iload_n 2, 1) := by decide +kernel
theorem dX9_add_1 : decode cX9_add 1 = .ok (.ifCond .ne 7, 3) := by decide +kernel
theorem dX9_add_4 : decode cX9_add 4 = .ok (.lload_n 0, 1) := by decide +kernel
theorem dX9_add_5 : decode cX9_add 5 = .ok (.goto 11, 3) := by decide +kernel
theorem dX9_add_8 : decode cX9_add 8 = .ok (.ldc2_w 57, 3) := by decide +kernel
theorem dX9_add_11 : decode cX9_add 11 = .ok (.lload_n 0, 1) := by decide +kernel
theorem dX9_add_12 : decode cX9_add 12 = .ok (.lmul, 1) := by decide +kernel
theorem dX9_add_13 : decode cX9_add 13 = .ok (.iload_n 2, 1) := by decide +kernel
theorem dX9_add_14 : decode cX9_add 14 = .ok (.i2l, 1) := by decide +kernel
theorem dX9_add_15 : decode cX9_add 15 = .ok (.ladd, 1) := by decide +kernel
theorem dX9_add_16 : decode cX9_add 16 = .ok (.lreturn, 1) := by decide +kernel
theorem dX9_named_0 : decode cX9_named 0 = .ok (.lconst 0, 1) := by decide +kernel
theorem dX9_named_1 : decode cX9_named 1 = .ok (.iload_n 0, 1) := by decide +kernel
theorem dX9_named_2 : decode cX9_named 2 = .ok (.invokestatic 59, 3) := by decide +kernel
theorem dX9_named_5 : decode cX9_named 5 = .ok (.iload_n 1, 1) := by decide +kernel
theorem dX9_named_6 : decode cX9_named 6 = .ok (.invokestatic 59, 3) := by decide +kernel
theorem dX9_named_9 : decode cX9_named 9 = .ok (.iload_n 2, 1) := by decide +kernel
theorem dX9_named_10 : decode cX9_named 10 = .ok (.invokestatic 59, 3) := by decide +kernel
theorem dX9_named_13 : decode cX9_named 13 = .ok (.iload_n 3, 1) := by decide +kernel
theorem dX9_named_14 : decode cX9_named 14 = .ok (.invokestatic 59, 3) := by decide +kernel
theorem dX9_named_17 : decode cX9_named 17 = .ok (.iload 4, 2) := by decide +kernel
theorem dX9_named_19 : decode cX9_named 19 = .ok (.invokestatic 59, 3) := by decide +kernel
theorem dX9_named_22 : decode cX9_named 22 = .ok (.iload 5, 2) := by decide +kernel
theorem dX9_named_24 : decode cX9_named 24 = .ok (.invokestatic 59, 3) := by decide +kernel
theorem dX9_named_27 : decode cX9_named 27 = .ok (.iload 6, 2) := by decide +kernel
theorem dX9_named_29 : decode cX9_named 29 = .ok (.invokestatic 59, 3) := by decide +kernel
theorem dX9_named_32 : decode cX9_named 32 = .ok (.lreturn, 1) := by decide +kernel
theorem dX9_wordOf_0 : decode cX9_wordOf 0 = .ok (.lload_n 0, 1) := by decide +kernel
theorem dX9_wordOf_1 : decode cX9_wordOf 1 = .ok (.bipush 108, 2) := by decide +kernel
theorem dX9_wordOf_3 : decode cX9_wordOf 3 = .ok (.bipush 111, 2) := by decide +kernel
theorem dX9_wordOf_5 : decode cX9_wordOf 5 = .ok (.bipush 117, 2) := by decide +kernel
theorem dX9_wordOf_7 : decode cX9_wordOf 7 = .ok (.bipush 100, 2) := by decide +kernel
theorem dX9_wordOf_9 : decode cX9_wordOf 9 = .ok (.iconst 0, 1) := by decide +kernel
theorem dX9_wordOf_10 : decode cX9_wordOf 10 = .ok (.iconst 0, 1) := by decide +kernel
theorem dX9_wordOf_11 : decode cX9_wordOf 11 = .ok (.iconst 0, 1) := by decide +kernel
theorem dX9_wordOf_12 : decode cX9_wordOf 12 = .ok (.invokestatic 63, 3) := by decide +kernel
theorem dX9_wordOf_15 : decode cX9_wordOf 15 = .ok (.lcmp, 1) := by decide +kernel
theorem dX9_wordOf_16 : decode cX9_wordOf 16 = .ok (.ifCond .ne 7, 3) := by decide +kernel
theorem dX9_wordOf_19 : decode cX9_wordOf 19 = .ok (.iconst 0, 1) := by decide +kernel
theorem dX9_wordOf_20 : decode cX9_wordOf 20 = .ok (.goto 31, 3) := by decide +kernel
theorem dX9_wordOf_23 : decode cX9_wordOf 23 = .ok (.lload_n 0, 1) := by decide +kernel
theorem dX9_wordOf_24 : decode cX9_wordOf 24 = .ok (.bipush 107, 2) := by decide +kernel
theorem dX9_wordOf_26 : decode cX9_wordOf 26 = .ok (.bipush 110, 2) := by decide +kernel
theorem dX9_wordOf_28 : decode cX9_wordOf 28 = .ok (.bipush 111, 2) := by decide +kernel
theorem dX9_wordOf_30 : decode cX9_wordOf 30 = .ok (.bipush 99, 2) := by decide +kernel
theorem dX9_wordOf_32 : decode cX9_wordOf 32 = .ok (.bipush 107, 2) := by decide +kernel
theorem dX9_wordOf_34 : decode cX9_wordOf 34 = .ok (.bipush 101, 2) := by decide +kernel
theorem dX9_wordOf_36 : decode cX9_wordOf 36 = .ok (.bipush 114, 2) := by decide +kernel
theorem dX9_wordOf_38 : decode cX9_wordOf 38 = .ok (.invokestatic 63, 3) := by decide +kernel
theorem dX9_wordOf_41 : decode cX9_wordOf 41 = .ok (.lcmp, 1) := by decide +kernel
theorem dX9_wordOf_42 : decode cX9_wordOf 42 = .ok (.ifCond .ne 7, 3) := by decide +kernel
theorem dX9_wordOf_45 : decode cX9_wordOf 45 = .ok (.iconst 1, 1) := by decide +kernel
theorem dX9_wordOf_46 : decode cX9_wordOf 46 = .ok (.goto 5, 3) := by decide +kernel
theorem dX9_wordOf_49 : decode cX9_wordOf 49 = .ok (.bipush (-9), 2) := by decide +kernel
theorem dX9_wordOf_51 : decode cX9_wordOf 51 = .ok (.istore_n 2, 1) := by decide +kernel
theorem dX9_wordOf_52 : decode cX9_wordOf 52 = .ok (.iload_n 2, 1) := by decide +kernel
theorem dX9_wordOf_53 : decode cX9_wordOf 53 = .ok (.bipush (-9), 2) := by decide +kernel
theorem dX9_wordOf_55 : decode cX9_wordOf 55 = .ok (.if_icmp .eq 7, 3) := by decide +kernel
theorem dX9_wordOf_58 : decode cX9_wordOf 58 = .ok (.iload_n 2, 1) := by decide +kernel
theorem dX9_wordOf_59 : decode cX9_wordOf 59 = .ok (.goto 53, 3) := by decide +kernel
theorem dX9_wordOf_62 : decode cX9_wordOf 62 = .ok (.lload_n 0, 1) := by decide +kernel
theorem dX9_wordOf_63 : decode cX9_wordOf 63 = .ok (.bipush 101, 2) := by decide +kernel
theorem dX9_wordOf_65 : decode cX9_wordOf 65 = .ok (.bipush 114, 2) := by decide +kernel
theorem dX9_wordOf_67 : decode cX9_wordOf 67 = .ok (.bipush 114, 2) := by decide +kernel
theorem dX9_wordOf_69 : decode cX9_wordOf 69 = .ok (.bipush 97, 2) := by decide +kernel
theorem dX9_wordOf_71 : decode cX9_wordOf 71 = .ok (.bipush 110, 2) := by decide +kernel
theorem dX9_wordOf_73 : decode cX9_wordOf 73 = .ok (.bipush 100, 2) := by decide +kernel
theorem dX9_wordOf_75 : decode cX9_wordOf 75 = .ok (.iconst 0, 1) := by decide +kernel
theorem dX9_wordOf_76 : decode cX9_wordOf 76 = .ok (.invokestatic 63, 3) := by decide +kernel
theorem dX9_wordOf_79 : decode cX9_wordOf 79 = .ok (.lcmp, 1) := by decide +kernel
theorem dX9_wordOf_80 : decode cX9_wordOf 80 = .ok (.ifCond .ne 7, 3) := by decide +kernel
theorem dX9_wordOf_83 : decode cX9_wordOf 83 = .ok (.iconst 2, 1) := by decide +kernel
theorem dX9_wordOf_84 : decode cX9_wordOf 84 = .ok (.goto 28, 3) := by decide +kernel
theorem dX9_wordOf_87 : decode cX9_wordOf 87 = .ok (.lload_n 0, 1) := by decide +kernel
theorem dX9_wordOf_88 : decode cX9_wordOf 88 = .ok (.bipush 114, 2) := by decide +kernel
theorem dX9_wordOf_90 : decode cX9_wordOf 90 = .ok (.bipush 117, 2) := by decide +kernel
theorem dX9_wordOf_92 : decode cX9_wordOf 92 = .ok (.bipush 108, 2) := by decide +kernel
theorem dX9_wordOf_94 : decode cX9_wordOf 94 = .ok (.bipush 101, 2) := by decide +kernel
theorem dX9_wordOf_96 : decode cX9_wordOf 96 = .ok (.iconst 0, 1) := by decide +kernel
theorem dX9_wordOf_97 : decode cX9_wordOf 97 = .ok (.iconst 0, 1) := by decide +kernel
theorem dX9_wordOf_98 : decode cX9_wordOf 98 = .ok (.iconst 0, 1) := by decide +kernel
theorem dX9_wordOf_99 : decode cX9_wordOf 99 = .ok (.invokestatic 63, 3) := by decide +kernel
theorem dX9_wordOf_102 : decode cX9_wordOf 102 = .ok (.lcmp, 1) := by decide +kernel
theorem dX9_wordOf_103 : decode cX9_wordOf 103 = .ok (.ifCond .ne 7, 3) := by decide +kernel
theorem dX9_wordOf_106 : decode cX9_wordOf 106 = .ok (.iconst 3, 1) := by decide +kernel
theorem dX9_wordOf_107 : decode cX9_wordOf 107 = .ok (.goto 5, 3) := by decide +kernel
theorem dX9_wordOf_110 : decode cX9_wordOf 110 = .ok (.bipush (-9), 2) := by decide +kernel
theorem dX9_wordOf_112 : decode cX9_wordOf 112 = .ok (.ireturn, 1) := by decide +kernel
theorem dX9_advances_0 : decode cX9_advances 0 = .ok (.aload_n 0, 1) := by decide +kernel
theorem dX9_advances_1 : decode cX9_advances 1 = .ok (.aload_n 0, 1) := by decide +kernel
theorem dX9_advances_2 : decode cX9_advances 2 = .ok (.getfield 67, 3) := by decide +kernel
theorem dX9_advances_5 : decode cX9_advances 5 = .ok (.invokevirtual 70, 3) := by decide +kernel
theorem dX9_advances_8 : decode cX9_advances 8 = .ok (.bipush 32, 2) := by decide +kernel
theorem dX9_advances_10 : decode cX9_advances 10 = .ok (.if_icmp .ne 16, 3) := by decide +kernel
theorem dX9_advances_13 : decode cX9_advances 13 = .ok (.aload_n 0, 1) := by decide +kernel
theorem dX9_advances_14 : decode cX9_advances 14 = .ok (.dup, 1) := by decide +kernel
theorem dX9_advances_15 : decode cX9_advances 15 = .ok (.getfield 67, 3) := by decide +kernel
theorem dX9_advances_18 : decode cX9_advances 18 = .ok (.iconst 1, 1) := by decide +kernel
theorem dX9_advances_19 : decode cX9_advances 19 = .ok (.iadd, 1) := by decide +kernel
theorem dX9_advances_20 : decode cX9_advances 20 = .ok (.putfield 67, 3) := by decide +kernel
theorem dX9_advances_23 : decode cX9_advances 23 = .ok (.goto (-23), 3) := by decide +kernel
theorem dX9_advances_26 : decode cX9_advances 26 = .ok (.aload_n 0, 1) := by decide +kernel
theorem dX9_advances_27 : decode cX9_advances 27 = .ok (.aload_n 0, 1) := by decide +kernel
theorem dX9_advances_28 : decode cX9_advances 28 = .ok (.getfield 67, 3) := by decide +kernel
theorem dX9_advances_31 : decode cX9_advances 31 = .ok (.putfield 74, 3) := by decide +kernel
theorem dX9_advances_34 : decode cX9_advances 34 = .ok (.aload_n 0, 1) := by decide +kernel
theorem dX9_advances_35 : decode cX9_advances 35 = .ok (.aload_n 0, 1) := by decide +kernel
theorem dX9_advances_36 : decode cX9_advances 36 = .ok (.getfield 67, 3) := by decide +kernel
theorem dX9_advances_39 : decode cX9_advances 39 = .ok (.invokevirtual 70, 3) := by decide +kernel
theorem dX9_advances_42 : decode cX9_advances 42 = .ok (.istore_n 1, 1) := by decide +kernel
theorem dX9_advances_43 : decode cX9_advances 43 = .ok (.iload_n 1, 1) := by decide +kernel
theorem dX9_advances_44 : decode cX9_advances 44 = .ok (.ifCond .ge 11, 3) := by decide +kernel
theorem dX9_advances_47 : decode cX9_advances 47 = .ok (.aload_n 0, 1) := by decide +kernel
theorem dX9_advances_48 : decode cX9_advances 48 = .ok (.iconst 0, 1) := by decide +kernel
theorem dX9_advances_49 : decode cX9_advances 49 = .ok (.putfield 77, 3) := by decide +kernel
theorem dX9_advances_52 : decode cX9_advances 52 = .ok (.goto 258, 3) := by decide +kernel
theorem dX9_advances_55 : decode cX9_advances 55 = .ok (.iload_n 1, 1) := by decide +kernel
theorem dX9_advances_56 : decode cX9_advances 56 = .ok (.bipush 97, 2) := by decide +kernel
theorem dX9_advances_58 : decode cX9_advances 58 = .ok (.bipush 122, 2) := by decide +kernel
theorem dX9_advances_60 : decode cX9_advances 60 = .ok (.invokestatic 48, 3) := by decide +kernel
theorem dX9_advances_63 : decode cX9_advances 63 = .ok (.ifCond .eq 96, 3) := by decide +kernel
theorem dX9_advances_66 : decode cX9_advances 66 = .ok (.lconst 0, 1) := by decide +kernel
theorem dX9_advances_67 : decode cX9_advances 67 = .ok (.lstore_n 2, 1) := by decide +kernel
theorem dX9_advances_68 : decode cX9_advances 68 = .ok (.aload_n 0, 1) := by decide +kernel
theorem dX9_advances_69 : decode cX9_advances 69 = .ok (.aload_n 0, 1) := by decide +kernel
theorem dX9_advances_70 : decode cX9_advances 70 = .ok (.getfield 67, 3) := by decide +kernel
theorem dX9_advances_73 : decode cX9_advances 73 = .ok (.invokevirtual 70, 3) := by decide +kernel
theorem dX9_advances_76 : decode cX9_advances 76 = .ok (.bipush 97, 2) := by decide +kernel
theorem dX9_advances_78 : decode cX9_advances 78 = .ok (.bipush 122, 2) := by decide +kernel
theorem dX9_advances_80 : decode cX9_advances 80 = .ok (.invokestatic 48, 3) := by decide +kernel
theorem dX9_advances_83 : decode cX9_advances 83 = .ok (.ifCond .eq 47, 3) := by decide +kernel
theorem dX9_advances_86 : decode cX9_advances 86 = .ok (.aload_n 0, 1) := by decide +kernel
theorem dX9_advances_87 : decode cX9_advances 87 = .ok (.getfield 67, 3) := by decide +kernel
theorem dX9_advances_90 : decode cX9_advances 90 = .ok (.aload_n 0, 1) := by decide +kernel
theorem dX9_advances_91 : decode cX9_advances 91 = .ok (.getfield 74, 3) := by decide +kernel
theorem dX9_advances_94 : decode cX9_advances 94 = .ok (.isub, 1) := by decide +kernel
theorem dX9_advances_95 : decode cX9_advances 95 = .ok (.bipush 7, 2) := by decide +kernel
theorem dX9_advances_97 : decode cX9_advances 97 = .ok (.if_icmp .ge 18, 3) := by decide +kernel
theorem dX9_advances_100 : decode cX9_advances 100 = .ok (.lload_n 2, 1) := by decide +kernel
theorem dX9_advances_101 : decode cX9_advances 101 = .ok (.aload_n 0, 1) := by decide +kernel
theorem dX9_advances_102 : decode cX9_advances 102 = .ok (.aload_n 0, 1) := by decide +kernel
theorem dX9_advances_103 : decode cX9_advances 103 = .ok (.getfield 67, 3) := by decide +kernel
theorem dX9_advances_106 : decode cX9_advances 106 = .ok (.invokevirtual 70, 3) := by decide +kernel
theorem dX9_advances_109 : decode cX9_advances 109 = .ok (.invokestatic 59, 3) := by decide +kernel
theorem dX9_advances_112 : decode cX9_advances 112 = .ok (.goto 4, 3) := by decide +kernel
theorem dX9_advances_115 : decode cX9_advances 115 = .ok (.lconst 0, 1) := by decide +kernel
theorem dX9_advances_116 : decode cX9_advances 116 = .ok (.lstore_n 2, 1) := by decide +kernel
theorem dX9_advances_117 : decode cX9_advances 117 = .ok (.aload_n 0, 1) := by decide +kernel
theorem dX9_advances_118 : decode cX9_advances 118 = .ok (.dup, 1) := by decide +kernel
theorem dX9_advances_119 : decode cX9_advances 119 = .ok (.getfield 67, 3) := by decide +kernel
theorem dX9_advances_122 : decode cX9_advances 122 = .ok (.iconst 1, 1) := by decide +kernel
theorem dX9_advances_123 : decode cX9_advances 123 = .ok (.iadd, 1) := by decide +kernel
theorem dX9_advances_124 : decode cX9_advances 124 = .ok (.putfield 67, 3) := by decide +kernel
theorem dX9_advances_127 : decode cX9_advances 127 = .ok (.goto (-59), 3) := by decide +kernel
theorem dX9_advances_130 : decode cX9_advances 130 = .ok (.aload_n 0, 1) := by decide +kernel
theorem dX9_advances_131 : decode cX9_advances 131 = .ok (.lload_n 2, 1) := by decide +kernel
theorem dX9_advances_132 : decode cX9_advances 132 = .ok (.invokestatic 80, 3) := by decide +kernel
theorem dX9_advances_135 : decode cX9_advances 135 = .ok (.putfield 84, 3) := by decide +kernel
theorem dX9_advances_138 : decode cX9_advances 138 = .ok (.aload_n 0, 1) := by decide +kernel
theorem dX9_advances_139 : decode cX9_advances 139 = .ok (.aload_n 0, 1) := by decide +kernel
theorem dX9_advances_140 : decode cX9_advances 140 = .ok (.getfield 84, 3) := by decide +kernel
theorem dX9_advances_143 : decode cX9_advances 143 = .ok (.bipush (-9), 2) := by decide +kernel
theorem dX9_advances_145 : decode cX9_advances 145 = .ok (.if_icmp .ne 7, 3) := by decide +kernel
theorem dX9_advances_148 : decode cX9_advances 148 = .ok (.iconst 4, 1) := by decide +kernel
theorem dX9_advances_149 : decode cX9_advances 149 = .ok (.goto 4, 3) := by decide +kernel
theorem dX9_advances_152 : decode cX9_advances 152 = .ok (.iconst 1, 1) := by decide +kernel
theorem dX9_advances_153 : decode cX9_advances 153 = .ok (.putfield 77, 3) := by decide +kernel
theorem dX9_advances_156 : decode cX9_advances 156 = .ok (.goto 154, 3) := by decide +kernel
theorem dX9_advances_159 : decode cX9_advances 159 = .ok (.iload_n 1, 1) := by decide +kernel
theorem dX9_advances_160 : decode cX9_advances 160 = .ok (.bipush 48, 2) := by decide +kernel
theorem dX9_advances_162 : decode cX9_advances 162 = .ok (.bipush 57, 2) := by decide +kernel
theorem dX9_advances_164 : decode cX9_advances 164 = .ok (.invokestatic 48, 3) := by decide +kernel
theorem dX9_advances_167 : decode cX9_advances 167 = .ok (.ifCond .eq 118, 3) := by decide +kernel
theorem dX9_advances_170 : decode cX9_advances 170 = .ok (.aload_n 0, 1) := by decide +kernel
theorem dX9_advances_171 : decode cX9_advances 171 = .ok (.iconst 0, 1) := by decide +kernel
theorem dX9_advances_172 : decode cX9_advances 172 = .ok (.putfield 84, 3) := by decide +kernel
theorem dX9_advances_175 : decode cX9_advances 175 = .ok (.aload_n 0, 1) := by decide +kernel
theorem dX9_advances_176 : decode cX9_advances 176 = .ok (.aload_n 0, 1) := by decide +kernel
theorem dX9_advances_177 : decode cX9_advances 177 = .ok (.getfield 67, 3) := by decide +kernel
theorem dX9_advances_180 : decode cX9_advances 180 = .ok (.invokevirtual 70, 3) := by decide +kernel
theorem dX9_advances_183 : decode cX9_advances 183 = .ok (.bipush 48, 2) := by decide +kernel
theorem dX9_advances_185 : decode cX9_advances 185 = .ok (.bipush 57, 2) := by decide +kernel
theorem dX9_advances_187 : decode cX9_advances 187 = .ok (.invokestatic 48, 3) := by decide +kernel
theorem dX9_advances_190 : decode cX9_advances 190 = .ok (.ifCond .eq 55, 3) := by decide +kernel
theorem dX9_advances_193 : decode cX9_advances 193 = .ok (.aload_n 0, 1) := by decide +kernel
theorem dX9_advances_194 : decode cX9_advances 194 = .ok (.aload_n 0, 1) := by decide +kernel
theorem dX9_advances_195 : decode cX9_advances 195 = .ok (.getfield 84, 3) := by decide +kernel
theorem dX9_advances_198 : decode cX9_advances 198 = .ok (.bipush 99, 2) := by decide +kernel
theorem dX9_advances_200 : decode cX9_advances 200 = .ok (.if_icmp .le 10, 3) := by decide +kernel
theorem dX9_advances_203 : decode cX9_advances 203 = .ok (.aload_n 0, 1) := by decide +kernel
theorem dX9_advances_204 : decode cX9_advances 204 = .ok (.getfield 84, 3) := by decide +kernel
theorem dX9_advances_207 : decode cX9_advances 207 = .ok (.goto 22, 3) := by decide +kernel
theorem dX9_advances_210 : decode cX9_advances 210 = .ok (.bipush 10, 2) := by decide +kernel
theorem dX9_advances_212 : decode cX9_advances 212 = .ok (.aload_n 0, 1) := by decide +kernel
theorem dX9_advances_213 : decode cX9_advances 213 = .ok (.getfield 84, 3) := by decide +kernel
theorem dX9_advances_216 : decode cX9_advances 216 = .ok (.imul, 1) := by decide +kernel
theorem dX9_advances_217 : decode cX9_advances 217 = .ok (.aload_n 0, 1) := by decide +kernel
theorem dX9_advances_218 : decode cX9_advances 218 = .ok (.aload_n 0, 1) := by decide +kernel
theorem dX9_advances_219 : decode cX9_advances 219 = .ok (.getfield 67, 3) := by decide +kernel
theorem dX9_advances_222 : decode cX9_advances 222 = .ok (.invokevirtual 70, 3) := by decide +kernel
theorem dX9_advances_225 : decode cX9_advances 225 = .ok (.iadd, 1) := by decide +kernel
theorem dX9_advances_226 : decode cX9_advances 226 = .ok (.bipush 48, 2) := by decide +kernel
theorem dX9_advances_228 : decode cX9_advances 228 = .ok (.isub, 1) := by decide +kernel
theorem dX9_advances_229 : decode cX9_advances 229 = .ok (.putfield 84, 3) := by decide +kernel
theorem dX9_advances_232 : decode cX9_advances 232 = .ok (.aload_n 0, 1) := by decide +kernel
theorem dX9_advances_233 : decode cX9_advances 233 = .ok (.dup, 1) := by decide +kernel
theorem dX9_advances_234 : decode cX9_advances 234 = .ok (.getfield 67, 3) := by decide +kernel
theorem dX9_advances_237 : decode cX9_advances 237 = .ok (.iconst 1, 1) := by decide +kernel
theorem dX9_advances_238 : decode cX9_advances 238 = .ok (.iadd, 1) := by decide +kernel
theorem dX9_advances_239 : decode cX9_advances 239 = .ok (.putfield 67, 3) := by decide +kernel
theorem dX9_advances_242 : decode cX9_advances 242 = .ok (.goto (-67), 3) := by decide +kernel
theorem dX9_advances_245 : decode cX9_advances 245 = .ok (.aload_n 0, 1) := by decide +kernel
theorem dX9_advances_246 : decode cX9_advances 246 = .ok (.aload_n 0, 1) := by decide +kernel
theorem dX9_advances_247 : decode cX9_advances 247 = .ok (.getfield 84, 3) := by decide +kernel
theorem dX9_advances_250 : decode cX9_advances 250 = .ok (.bipush 99, 2) := by decide +kernel
theorem dX9_advances_252 : decode cX9_advances 252 = .ok (.if_icmp .gt 22, 3) := by decide +kernel
theorem dX9_advances_255 : decode cX9_advances 255 = .ok (.iload_n 1, 1) := by decide +kernel
theorem dX9_advances_256 : decode cX9_advances 256 = .ok (.bipush 48, 2) := by decide +kernel
theorem dX9_advances_258 : decode cX9_advances 258 = .ok (.if_icmp .ne 20, 3) := by decide +kernel
theorem dX9_advances_261 : decode cX9_advances 261 = .ok (.aload_n 0, 1) := by decide +kernel
theorem dX9_advances_262 : decode cX9_advances 262 = .ok (.getfield 67, 3) := by decide +kernel
theorem dX9_advances_265 : decode cX9_advances 265 = .ok (.aload_n 0, 1) := by decide +kernel
theorem dX9_advances_266 : decode cX9_advances 266 = .ok (.getfield 74, 3) := by decide +kernel
theorem dX9_advances_269 : decode cX9_advances 269 = .ok (.isub, 1) := by decide +kernel
theorem dX9_advances_270 : decode cX9_advances 270 = .ok (.iconst 1, 1) := by decide +kernel
theorem dX9_advances_271 : decode cX9_advances 271 = .ok (.if_icmp .le 7, 3) := by decide +kernel
theorem dX9_advances_274 : decode cX9_advances 274 = .ok (.iconst 4, 1) := by decide +kernel
theorem dX9_advances_275 : decode cX9_advances 275 = .ok (.goto 4, 3) := by decide +kernel
theorem dX9_advances_278 : decode cX9_advances 278 = .ok (.iconst 2, 1) := by decide +kernel
theorem dX9_advances_279 : decode cX9_advances 279 = .ok (.putfield 77, 3) := by decide +kernel
theorem dX9_advances_282 : decode cX9_advances 282 = .ok (.goto 28, 3) := by decide +kernel
theorem dX9_advances_285 : decode cX9_advances 285 = .ok (.aload_n 0, 1) := by decide +kernel
theorem dX9_advances_286 : decode cX9_advances 286 = .ok (.dup, 1) := by decide +kernel
theorem dX9_advances_287 : decode cX9_advances 287 = .ok (.getfield 67, 3) := by decide +kernel
theorem dX9_advances_290 : decode cX9_advances 290 = .ok (.iconst 1, 1) := by decide +kernel
theorem dX9_advances_291 : decode cX9_advances 291 = .ok (.iadd, 1) := by decide +kernel
theorem dX9_advances_292 : decode cX9_advances 292 = .ok (.putfield 67, 3) := by decide +kernel
theorem dX9_advances_295 : decode cX9_advances 295 = .ok (.aload_n 0, 1) := by decide +kernel
theorem dX9_advances_296 : decode cX9_advances 296 = .ok (.iload_n 1, 1) := by decide +kernel
theorem dX9_advances_297 : decode cX9_advances 297 = .ok (.bipush 59, 2) := by decide +kernel
theorem dX9_advances_299 : decode cX9_advances 299 = .ok (.if_icmp .ne 7, 3) := by decide +kernel
theorem dX9_advances_302 : decode cX9_advances 302 = .ok (.iconst 3, 1) := by decide +kernel
theorem dX9_advances_303 : decode cX9_advances 303 = .ok (.goto 4, 3) := by decide +kernel
theorem dX9_advances_306 : decode cX9_advances 306 = .ok (.iconst 4, 1) := by decide +kernel
theorem dX9_advances_307 : decode cX9_advances 307 = .ok (.putfield 77, 3) := by decide +kernel
theorem dX9_advances_310 : decode cX9_advances 310 = .ok (.return_, 1) := by decide +kernel
theorem dX9_isWell_0 : decode cX9_isWell 0 = .ok (.aload_n 0, 1) := by decide +kernel
theorem dX9_isWell_1 : decode cX9_isWell 1 = .ok (.getfield 87, 3) := by decide +kernel
theorem dX9_isWell_4 : decode cX9_isWell 4 = .ok (.ifCond .ge 7, 3) := by decide +kernel
theorem dX9_isWell_7 : decode cX9_isWell 7 = .ok (.iconst 1, 1) := by decide +kernel
theorem dX9_isWell_8 : decode cX9_isWell 8 = .ok (.goto 4, 3) := by decide +kernel
theorem dX9_isWell_11 : decode cX9_isWell 11 = .ok (.iconst 0, 1) := by decide +kernel
theorem dX9_isWell_12 : decode cX9_isWell 12 = .ok (.ireturn, 1) := by decide +kernel
theorem dX9_takes_0 : decode cX9_takes 0 = .ok (.aload_n 0, 1) := by decide +kernel
theorem dX9_takes_1 : decode cX9_takes 1 = .ok (.invokevirtual 90, 3) := by decide +kernel
theorem dX9_takes_4 : decode cX9_takes 4 = .ok (.ifCond .ne 5, 3) := by decide +kernel
theorem dX9_takes_7 : decode cX9_takes 7 = .ok (.iconst 0, 1) := by decide +kernel
theorem dX9_takes_8 : decode cX9_takes 8 = .ok (.ireturn, 1) := by decide +kernel
theorem dX9_takes_9 : decode cX9_takes 9 = .ok (.iload_n 1, 1) := by decide +kernel
theorem dX9_takes_10 : decode cX9_takes 10 = .ok (.ifCond .ne 13, 3) := by decide +kernel
theorem dX9_takes_13 : decode cX9_takes 13 = .ok (.aload_n 0, 1) := by decide +kernel
theorem dX9_takes_14 : decode cX9_takes 14 = .ok (.aload_n 0, 1) := by decide +kernel
theorem dX9_takes_15 : decode cX9_takes 15 = .ok (.getfield 74, 3) := by decide +kernel
theorem dX9_takes_18 : decode cX9_takes 18 = .ok (.putfield 87, 3) := by decide +kernel
theorem dX9_takes_21 : decode cX9_takes 21 = .ok (.iconst 0, 1) := by decide +kernel
theorem dX9_takes_22 : decode cX9_takes 22 = .ok (.ireturn, 1) := by decide +kernel
theorem dX9_takes_23 : decode cX9_takes 23 = .ok (.aload_n 0, 1) := by decide +kernel
theorem dX9_takes_24 : decode cX9_takes 24 = .ok (.getfield 84, 3) := by decide +kernel
theorem dX9_takes_27 : decode cX9_takes 27 = .ok (.istore_n 2, 1) := by decide +kernel
theorem dX9_takes_28 : decode cX9_takes 28 = .ok (.aload_n 0, 1) := by decide +kernel
theorem dX9_takes_29 : decode cX9_takes 29 = .ok (.invokevirtual 94, 3) := by decide +kernel
theorem dX9_takes_32 : decode cX9_takes 32 = .ok (.iload_n 2, 1) := by decide +kernel
theorem dX9_takes_33 : decode cX9_takes 33 = .ok (.ireturn, 1) := by decide +kernel
theorem dX9_number_0 : decode cX9_number 0 = .ok (.aload_n 0, 1) := by decide +kernel
theorem dX9_number_1 : decode cX9_number 1 = .ok (.aload_n 0, 1) := by decide +kernel
theorem dX9_number_2 : decode cX9_number 2 = .ok (.getfield 77, 3) := by decide +kernel
theorem dX9_number_5 : decode cX9_number 5 = .ok (.iconst 2, 1) := by decide +kernel
theorem dX9_number_6 : decode cX9_number 6 = .ok (.if_icmp .ne 19, 3) := by decide +kernel
theorem dX9_number_9 : decode cX9_number 9 = .ok (.aload_n 0, 1) := by decide +kernel
theorem dX9_number_10 : decode cX9_number 10 = .ok (.getfield 84, 3) := by decide +kernel
theorem dX9_number_13 : decode cX9_number 13 = .ok (.iload_n 1, 1) := by decide +kernel
theorem dX9_number_14 : decode cX9_number 14 = .ok (.iload_n 2, 1) := by decide +kernel
theorem dX9_number_15 : decode cX9_number 15 = .ok (.invokestatic 48, 3) := by decide +kernel
theorem dX9_number_18 : decode cX9_number 18 = .ok (.ifCond .eq 7, 3) := by decide +kernel
theorem dX9_number_21 : decode cX9_number 21 = .ok (.iconst 1, 1) := by decide +kernel
theorem dX9_number_22 : decode cX9_number 22 = .ok (.goto 4, 3) := by decide +kernel
theorem dX9_number_25 : decode cX9_number 25 = .ok (.iconst 0, 1) := by decide +kernel
theorem dX9_number_26 : decode cX9_number 26 = .ok (.invokevirtual 97, 3) := by decide +kernel
theorem dX9_number_29 : decode cX9_number 29 = .ok (.ireturn, 1) := by decide +kernel
theorem dX9_signSet_0 : decode cX9_signSet 0 = .ok (.iconst 0, 1) := by decide +kernel
theorem dX9_signSet_1 : decode cX9_signSet 1 = .ok (.istore_n 1, 1) := by decide +kernel
theorem dX9_signSet_2 : decode cX9_signSet 2 = .ok (.aload_n 0, 1) := by decide +kernel
theorem dX9_signSet_3 : decode cX9_signSet 3 = .ok (.invokevirtual 90, 3) := by decide +kernel
theorem dX9_signSet_6 : decode cX9_signSet 6 = .ok (.ifCond .eq 65, 3) := by decide +kernel
theorem dX9_signSet_9 : decode cX9_signSet 9 = .ok (.aload_n 0, 1) := by decide +kernel
theorem dX9_signSet_10 : decode cX9_signSet 10 = .ok (.getfield 77, 3) := by decide +kernel
theorem dX9_signSet_13 : decode cX9_signSet 13 = .ok (.iconst 2, 1) := by decide +kernel
theorem dX9_signSet_14 : decode cX9_signSet 14 = .ok (.if_icmp .ne 57, 3) := by decide +kernel
theorem dX9_signSet_17 : decode cX9_signSet 17 = .ok (.aload_n 0, 1) := by decide +kernel
theorem dX9_signSet_18 : decode cX9_signSet 18 = .ok (.aload_n 0, 1) := by decide +kernel
theorem dX9_signSet_19 : decode cX9_signSet 19 = .ok (.getfield 84, 3) := by decide +kernel
theorem dX9_signSet_22 : decode cX9_signSet 22 = .ok (.iconst 0, 1) := by decide +kernel
theorem dX9_signSet_23 : decode cX9_signSet 23 = .ok (.bipush 7, 2) := by decide +kernel
theorem dX9_signSet_25 : decode cX9_signSet 25 = .ok (.invokestatic 48, 3) := by decide +kernel
theorem dX9_signSet_28 : decode cX9_signSet 28 = .ok (.ifCond .eq 18, 3) := by decide +kernel
theorem dX9_signSet_31 : decode cX9_signSet 31 = .ok (.iload_n 1, 1) := by decide +kernel
theorem dX9_signSet_32 : decode cX9_signSet 32 = .ok (.aload_n 0, 1) := by decide +kernel
theorem dX9_signSet_33 : decode cX9_signSet 33 = .ok (.getfield 84, 3) := by decide +kernel
theorem dX9_signSet_36 : decode cX9_signSet 36 = .ok (.ishr, 1) := by decide +kernel
theorem dX9_signSet_37 : decode cX9_signSet 37 = .ok (.iconst 1, 1) := by decide +kernel
theorem dX9_signSet_38 : decode cX9_signSet 38 = .ok (.iand, 1) := by decide +kernel
theorem dX9_signSet_39 : decode cX9_signSet 39 = .ok (.ifCond .ne 7, 3) := by decide +kernel
theorem dX9_signSet_42 : decode cX9_signSet 42 = .ok (.iconst 1, 1) := by decide +kernel
theorem dX9_signSet_43 : decode cX9_signSet 43 = .ok (.goto 4, 3) := by decide +kernel
theorem dX9_signSet_46 : decode cX9_signSet 46 = .ok (.iconst 0, 1) := by decide +kernel
theorem dX9_signSet_47 : decode cX9_signSet 47 = .ok (.invokevirtual 97, 3) := by decide +kernel
theorem dX9_signSet_50 : decode cX9_signSet 50 = .ok (.istore_n 2, 1) := by decide +kernel
theorem dX9_signSet_51 : decode cX9_signSet 51 = .ok (.iload_n 1, 1) := by decide +kernel
theorem dX9_signSet_52 : decode cX9_signSet 52 = .ok (.aload_n 0, 1) := by decide +kernel
theorem dX9_signSet_53 : decode cX9_signSet 53 = .ok (.invokevirtual 90, 3) := by decide +kernel
theorem dX9_signSet_56 : decode cX9_signSet 56 = .ok (.ifCond .eq 9, 3) := by decide +kernel
theorem dX9_signSet_59 : decode cX9_signSet 59 = .ok (.iconst 1, 1) := by decide +kernel
theorem dX9_signSet_60 : decode cX9_signSet 60 = .ok (.iload_n 2, 1) := by decide +kernel
theorem dX9_signSet_61 : decode cX9_signSet 61 = .ok (.ishl, 1) := by decide +kernel
theorem dX9_signSet_62 : decode cX9_signSet 62 = .ok (.goto 4, 3) := by decide +kernel
theorem dX9_signSet_65 : decode cX9_signSet 65 = .ok (.iconst 0, 1) := by decide +kernel
theorem dX9_signSet_66 : decode cX9_signSet 66 = .ok (.ior, 1) := by decide +kernel
theorem dX9_signSet_67 : decode cX9_signSet 67 = .ok (.istore_n 1, 1) := by decide +kernel
theorem dX9_signSet_68 : decode cX9_signSet 68 = .ok (.goto (-66), 3) := by decide +kernel
theorem dX9_signSet_71 : decode cX9_signSet 71 = .ok (.iload_n 1, 1) := by decide +kernel
theorem dX9_signSet_72 : decode cX9_signSet 72 = .ok (.ireturn, 1) := by decide +kernel
theorem dX9_readsItem_0 : decode cX9_readsItem 0 = .ok (.iload_n 1, 1) := by decide +kernel
theorem dX9_readsItem_1 : decode cX9_readsItem 1 = .ok (.ifCond .ne 14, 3) := by decide +kernel
theorem dX9_readsItem_4 : decode cX9_readsItem 4 = .ok (.aload_n 0, 1) := by decide +kernel
theorem dX9_readsItem_5 : decode cX9_readsItem 5 = .ok (.aload_n 0, 1) := by decide +kernel
theorem dX9_readsItem_6 : decode cX9_readsItem 6 = .ok (.invokevirtual 101, 3) := by decide +kernel
theorem dX9_readsItem_9 : decode cX9_readsItem 9 = .ok (.putfield 105, 3) := by decide +kernel
theorem dX9_readsItem_12 : decode cX9_readsItem 12 = .ok (.goto 240, 3) := by decide +kernel
theorem dX9_readsItem_15 : decode cX9_readsItem 15 = .ok (.iload_n 1, 1) := by decide +kernel
theorem dX9_readsItem_16 : decode cX9_readsItem 16 = .ok (.iconst 1, 1) := by decide +kernel
theorem dX9_readsItem_17 : decode cX9_readsItem 17 = .ok (.if_icmp .ne 48, 3) := by decide +kernel
theorem dX9_readsItem_20 : decode cX9_readsItem 20 = .ok (.aload_n 0, 1) := by decide +kernel
theorem dX9_readsItem_21 : decode cX9_readsItem 21 = .ok (.getfield 13, 3) := by decide +kernel
theorem dX9_readsItem_24 : decode cX9_readsItem 24 = .ok (.iconst 5, 1) := by decide +kernel
theorem dX9_readsItem_25 : decode cX9_readsItem 25 = .ok (.aload_n 0, 1) := by decide +kernel
theorem dX9_readsItem_26 : decode cX9_readsItem 26 = .ok (.getfield 108, 3) := by decide +kernel
theorem dX9_readsItem_29 : decode cX9_readsItem 29 = .ok (.iadd, 1) := by decide +kernel
theorem dX9_readsItem_30 : decode cX9_readsItem 30 = .ok (.aload_n 0, 1) := by decide +kernel
theorem dX9_readsItem_31 : decode cX9_readsItem 31 = .ok (.iconst 0, 1) := by decide +kernel
theorem dX9_readsItem_32 : decode cX9_readsItem 32 = .ok (.iconst 1, 1) := by decide +kernel
theorem dX9_readsItem_33 : decode cX9_readsItem 33 = .ok (.invokevirtual 111, 3) := by decide +kernel
theorem dX9_readsItem_36 : decode cX9_readsItem 36 = .ok (.iastore, 1) := by decide +kernel
theorem dX9_readsItem_37 : decode cX9_readsItem 37 = .ok (.aload_n 0, 1) := by decide +kernel
theorem dX9_readsItem_38 : decode cX9_readsItem 38 = .ok (.getfield 16, 3) := by decide +kernel
theorem dX9_readsItem_41 : decode cX9_readsItem 41 = .ok (.iconst 5, 1) := by decide +kernel
theorem dX9_readsItem_42 : decode cX9_readsItem 42 = .ok (.aload_n 0, 1) := by decide +kernel
theorem dX9_readsItem_43 : decode cX9_readsItem 43 = .ok (.getfield 108, 3) := by decide +kernel
theorem dX9_readsItem_46 : decode cX9_readsItem 46 = .ok (.iadd, 1) := by decide +kernel
theorem dX9_readsItem_47 : decode cX9_readsItem 47 = .ok (.aload_n 0, 1) := by decide +kernel
theorem dX9_readsItem_48 : decode cX9_readsItem 48 = .ok (.invokevirtual 101, 3) := by decide +kernel
theorem dX9_readsItem_51 : decode cX9_readsItem 51 = .ok (.iastore, 1) := by decide +kernel
theorem dX9_readsItem_52 : decode cX9_readsItem 52 = .ok (.aload_n 0, 1) := by decide +kernel
theorem dX9_readsItem_53 : decode cX9_readsItem 53 = .ok (.dup, 1) := by decide +kernel
theorem dX9_readsItem_54 : decode cX9_readsItem 54 = .ok (.getfield 108, 3) := by decide +kernel
theorem dX9_readsItem_57 : decode cX9_readsItem 57 = .ok (.iconst 1, 1) := by decide +kernel
theorem dX9_readsItem_58 : decode cX9_readsItem 58 = .ok (.iadd, 1) := by decide +kernel
theorem dX9_readsItem_59 : decode cX9_readsItem 59 = .ok (.putfield 108, 3) := by decide +kernel
theorem dX9_readsItem_62 : decode cX9_readsItem 62 = .ok (.goto 190, 3) := by decide +kernel
theorem dX9_readsItem_65 : decode cX9_readsItem 65 = .ok (.iload_n 1, 1) := by decide +kernel
theorem dX9_readsItem_66 : decode cX9_readsItem 66 = .ok (.iconst 2, 1) := by decide +kernel
theorem dX9_readsItem_67 : decode cX9_readsItem 67 = .ok (.if_icmp .ne 101, 3) := by decide +kernel
theorem dX9_readsItem_70 : decode cX9_readsItem 70 = .ok (.bipush 18, 2) := by decide +kernel
theorem dX9_readsItem_72 : decode cX9_readsItem 72 = .ok (.iconst 3, 1) := by decide +kernel
theorem dX9_readsItem_73 : decode cX9_readsItem 73 = .ok (.aload_n 0, 1) := by decide +kernel
theorem dX9_readsItem_74 : decode cX9_readsItem 74 = .ok (.getfield 115, 3) := by decide +kernel
theorem dX9_readsItem_77 : decode cX9_readsItem 77 = .ok (.imul, 1) := by decide +kernel
theorem dX9_readsItem_78 : decode cX9_readsItem 78 = .ok (.iadd, 1) := by decide +kernel
theorem dX9_readsItem_79 : decode cX9_readsItem 79 = .ok (.istore_n 2, 1) := by decide +kernel
theorem dX9_readsItem_80 : decode cX9_readsItem 80 = .ok (.aload_n 0, 1) := by decide +kernel
theorem dX9_readsItem_81 : decode cX9_readsItem 81 = .ok (.getfield 19, 3) := by decide +kernel
theorem dX9_readsItem_84 : decode cX9_readsItem 84 = .ok (.iload_n 2, 1) := by decide +kernel
theorem dX9_readsItem_85 : decode cX9_readsItem 85 = .ok (.aload_n 0, 1) := by decide +kernel
theorem dX9_readsItem_86 : decode cX9_readsItem 86 = .ok (.iconst 0, 1) := by decide +kernel
theorem dX9_readsItem_87 : decode cX9_readsItem 87 = .ok (.bipush 7, 2) := by decide +kernel
theorem dX9_readsItem_89 : decode cX9_readsItem 89 = .ok (.invokevirtual 111, 3) := by decide +kernel
theorem dX9_readsItem_92 : decode cX9_readsItem 92 = .ok (.iastore, 1) := by decide +kernel
theorem dX9_readsItem_93 : decode cX9_readsItem 93 = .ok (.aload_n 0, 1) := by decide +kernel
theorem dX9_readsItem_94 : decode cX9_readsItem 94 = .ok (.getfield 19, 3) := by decide +kernel
theorem dX9_readsItem_97 : decode cX9_readsItem 97 = .ok (.iload_n 2, 1) := by decide +kernel
theorem dX9_readsItem_98 : decode cX9_readsItem 98 = .ok (.iconst 1, 1) := by decide +kernel
theorem dX9_readsItem_99 : decode cX9_readsItem 99 = .ok (.iadd, 1) := by decide +kernel
theorem dX9_readsItem_100 : decode cX9_readsItem 100 = .ok (.aload_n 0, 1) := by decide +kernel
theorem dX9_readsItem_101 : decode cX9_readsItem 101 = .ok (.iconst 1, 1) := by decide +kernel
theorem dX9_readsItem_102 : decode cX9_readsItem 102 = .ok (.bipush 9, 2) := by decide +kernel
theorem dX9_readsItem_104 : decode cX9_readsItem 104 = .ok (.invokevirtual 111, 3) := by decide +kernel
theorem dX9_readsItem_107 : decode cX9_readsItem 107 = .ok (.iastore, 1) := by decide +kernel
theorem dX9_readsItem_108 : decode cX9_readsItem 108 = .ok (.aload_n 0, 1) := by decide +kernel
theorem dX9_readsItem_109 : decode cX9_readsItem 109 = .ok (.getfield 19, 3) := by decide +kernel
theorem dX9_readsItem_112 : decode cX9_readsItem 112 = .ok (.iload_n 2, 1) := by decide +kernel
theorem dX9_readsItem_113 : decode cX9_readsItem 113 = .ok (.iconst 2, 1) := by decide +kernel
theorem dX9_readsItem_114 : decode cX9_readsItem 114 = .ok (.iadd, 1) := by decide +kernel
theorem dX9_readsItem_115 : decode cX9_readsItem 115 = .ok (.aload_n 0, 1) := by decide +kernel
theorem dX9_readsItem_116 : decode cX9_readsItem 116 = .ok (.aload_n 0, 1) := by decide +kernel
theorem dX9_readsItem_117 : decode cX9_readsItem 117 = .ok (.getfield 77, 3) := by decide +kernel
theorem dX9_readsItem_120 : decode cX9_readsItem 120 = .ok (.iconst 2, 1) := by decide +kernel
theorem dX9_readsItem_121 : decode cX9_readsItem 121 = .ok (.if_icmp .ne 29, 3) := by decide +kernel
theorem dX9_readsItem_124 : decode cX9_readsItem 124 = .ok (.aload_n 0, 1) := by decide +kernel
theorem dX9_readsItem_125 : decode cX9_readsItem 125 = .ok (.getfield 84, 3) := by decide +kernel
theorem dX9_readsItem_128 : decode cX9_readsItem 128 = .ok (.iconst 0, 1) := by decide +kernel
theorem dX9_readsItem_129 : decode cX9_readsItem 129 = .ok (.bipush 7, 2) := by decide +kernel
theorem dX9_readsItem_131 : decode cX9_readsItem 131 = .ok (.invokestatic 48, 3) := by decide +kernel
theorem dX9_readsItem_134 : decode cX9_readsItem 134 = .ok (.ifCond .ne 12, 3) := by decide +kernel
theorem dX9_readsItem_137 : decode cX9_readsItem 137 = .ok (.aload_n 0, 1) := by decide +kernel
theorem dX9_readsItem_138 : decode cX9_readsItem 138 = .ok (.getfield 84, 3) := by decide +kernel
theorem dX9_readsItem_141 : decode cX9_readsItem 141 = .ok (.bipush 9, 2) := by decide +kernel
theorem dX9_readsItem_143 : decode cX9_readsItem 143 = .ok (.if_icmp .ne 7, 3) := by decide +kernel
theorem dX9_readsItem_146 : decode cX9_readsItem 146 = .ok (.iconst 1, 1) := by decide +kernel
theorem dX9_readsItem_147 : decode cX9_readsItem 147 = .ok (.goto 4, 3) := by decide +kernel
theorem dX9_readsItem_150 : decode cX9_readsItem 150 = .ok (.iconst 0, 1) := by decide +kernel
theorem dX9_readsItem_151 : decode cX9_readsItem 151 = .ok (.invokevirtual 97, 3) := by decide +kernel
theorem dX9_readsItem_154 : decode cX9_readsItem 154 = .ok (.iastore, 1) := by decide +kernel
theorem dX9_readsItem_155 : decode cX9_readsItem 155 = .ok (.aload_n 0, 1) := by decide +kernel
theorem dX9_readsItem_156 : decode cX9_readsItem 156 = .ok (.dup, 1) := by decide +kernel
theorem dX9_readsItem_157 : decode cX9_readsItem 157 = .ok (.getfield 115, 3) := by decide +kernel
theorem dX9_readsItem_160 : decode cX9_readsItem 160 = .ok (.iconst 1, 1) := by decide +kernel
theorem dX9_readsItem_161 : decode cX9_readsItem 161 = .ok (.iadd, 1) := by decide +kernel
theorem dX9_readsItem_162 : decode cX9_readsItem 162 = .ok (.putfield 115, 3) := by decide +kernel
theorem dX9_readsItem_165 : decode cX9_readsItem 165 = .ok (.goto 87, 3) := by decide +kernel
theorem dX9_readsItem_168 : decode cX9_readsItem 168 = .ok (.aload_n 0, 1) := by decide +kernel
theorem dX9_readsItem_169 : decode cX9_readsItem 169 = .ok (.iconst 1, 1) := by decide +kernel
theorem dX9_readsItem_170 : decode cX9_readsItem 170 = .ok (.bipush 8, 2) := by decide +kernel
theorem dX9_readsItem_172 : decode cX9_readsItem 172 = .ok (.invokevirtual 111, 3) := by decide +kernel
theorem dX9_readsItem_175 : decode cX9_readsItem 175 = .ok (.istore_n 2, 1) := by decide +kernel
theorem dX9_readsItem_176 : decode cX9_readsItem 176 = .ok (.aload_n 0, 1) := by decide +kernel
theorem dX9_readsItem_177 : decode cX9_readsItem 177 = .ok (.invokevirtual 101, 3) := by decide +kernel
theorem dX9_readsItem_180 : decode cX9_readsItem 180 = .ok (.istore_n 3, 1) := by decide +kernel
theorem dX9_readsItem_181 : decode cX9_readsItem 181 = .ok (.aload_n 0, 1) := by decide +kernel
theorem dX9_readsItem_182 : decode cX9_readsItem 182 = .ok (.invokevirtual 90, 3) := by decide +kernel
theorem dX9_readsItem_185 : decode cX9_readsItem 185 = .ok (.ifCond .eq 27, 3) := by decide +kernel
theorem dX9_readsItem_188 : decode cX9_readsItem 188 = .ok (.iload_n 3, 1) := by decide +kernel
theorem dX9_readsItem_189 : decode cX9_readsItem 189 = .ok (.invokestatic 118, 3) := by decide +kernel
theorem dX9_readsItem_192 : decode cX9_readsItem 192 = .ok (.iload_n 2, 1) := by decide +kernel
theorem dX9_readsItem_193 : decode cX9_readsItem 193 = .ok (.if_icmp .lt 11, 3) := by decide +kernel
theorem dX9_readsItem_196 : decode cX9_readsItem 196 = .ok (.aload_n 0, 1) := by decide +kernel
theorem dX9_readsItem_197 : decode cX9_readsItem 197 = .ok (.getfield 77, 3) := by decide +kernel
theorem dX9_readsItem_200 : decode cX9_readsItem 200 = .ok (.iconst 3, 1) := by decide +kernel
theorem dX9_readsItem_201 : decode cX9_readsItem 201 = .ok (.if_icmp .eq 11, 3) := by decide +kernel
theorem dX9_readsItem_204 : decode cX9_readsItem 204 = .ok (.aload_n 0, 1) := by decide +kernel
theorem dX9_readsItem_205 : decode cX9_readsItem 205 = .ok (.aload_n 0, 1) := by decide +kernel
theorem dX9_readsItem_206 : decode cX9_readsItem 206 = .ok (.getfield 74, 3) := by decide +kernel
theorem dX9_readsItem_209 : decode cX9_readsItem 209 = .ok (.putfield 87, 3) := by decide +kernel
theorem dX9_readsItem_212 : decode cX9_readsItem 212 = .ok (.aload_n 0, 1) := by decide +kernel
theorem dX9_readsItem_213 : decode cX9_readsItem 213 = .ok (.getfield 22, 3) := by decide +kernel
theorem dX9_readsItem_216 : decode cX9_readsItem 216 = .ok (.bipush 8, 2) := by decide +kernel
theorem dX9_readsItem_218 : decode cX9_readsItem 218 = .ok (.iconst 2, 1) := by decide +kernel
theorem dX9_readsItem_219 : decode cX9_readsItem 219 = .ok (.aload_n 0, 1) := by decide +kernel
theorem dX9_readsItem_220 : decode cX9_readsItem 220 = .ok (.getfield 121, 3) := by decide +kernel
theorem dX9_readsItem_223 : decode cX9_readsItem 223 = .ok (.imul, 1) := by decide +kernel
theorem dX9_readsItem_224 : decode cX9_readsItem 224 = .ok (.iadd, 1) := by decide +kernel
theorem dX9_readsItem_225 : decode cX9_readsItem 225 = .ok (.iload_n 3, 1) := by decide +kernel
theorem dX9_readsItem_226 : decode cX9_readsItem 226 = .ok (.iastore, 1) := by decide +kernel
theorem dX9_readsItem_227 : decode cX9_readsItem 227 = .ok (.aload_n 0, 1) := by decide +kernel
theorem dX9_readsItem_228 : decode cX9_readsItem 228 = .ok (.getfield 22, 3) := by decide +kernel
theorem dX9_readsItem_231 : decode cX9_readsItem 231 = .ok (.bipush 9, 2) := by decide +kernel
theorem dX9_readsItem_233 : decode cX9_readsItem 233 = .ok (.iconst 2, 1) := by decide +kernel
theorem dX9_readsItem_234 : decode cX9_readsItem 234 = .ok (.aload_n 0, 1) := by decide +kernel
theorem dX9_readsItem_235 : decode cX9_readsItem 235 = .ok (.getfield 121, 3) := by decide +kernel
theorem dX9_readsItem_238 : decode cX9_readsItem 238 = .ok (.imul, 1) := by decide +kernel
theorem dX9_readsItem_239 : decode cX9_readsItem 239 = .ok (.iadd, 1) := by decide +kernel
theorem dX9_readsItem_240 : decode cX9_readsItem 240 = .ok (.iload_n 2, 1) := by decide +kernel
theorem dX9_readsItem_241 : decode cX9_readsItem 241 = .ok (.iastore, 1) := by decide +kernel
theorem dX9_readsItem_242 : decode cX9_readsItem 242 = .ok (.aload_n 0, 1) := by decide +kernel
theorem dX9_readsItem_243 : decode cX9_readsItem 243 = .ok (.dup, 1) := by decide +kernel
theorem dX9_readsItem_244 : decode cX9_readsItem 244 = .ok (.getfield 121, 3) := by decide +kernel
theorem dX9_readsItem_247 : decode cX9_readsItem 247 = .ok (.iconst 1, 1) := by decide +kernel
theorem dX9_readsItem_248 : decode cX9_readsItem 248 = .ok (.iadd, 1) := by decide +kernel
theorem dX9_readsItem_249 : decode cX9_readsItem 249 = .ok (.putfield 121, 3) := by decide +kernel
theorem dX9_readsItem_252 : decode cX9_readsItem 252 = .ok (.return_, 1) := by decide +kernel
theorem dX9_house_0 : decode cX9_house 0 = .ok (.aload_n 0, 1) := by decide +kernel
theorem dX9_house_1 : decode cX9_house 1 = .ok (.iconst 0, 1) := by decide +kernel
theorem dX9_house_2 : decode cX9_house 2 = .ok (.putfield 44, 3) := by decide +kernel
theorem dX9_house_5 : decode cX9_house 5 = .ok (.aload_n 0, 1) := by decide +kernel
theorem dX9_house_6 : decode cX9_house 6 = .ok (.iconst (-1), 1) := by decide +kernel
theorem dX9_house_7 : decode cX9_house 7 = .ok (.putfield 87, 3) := by decide +kernel
theorem dX9_house_10 : decode cX9_house 10 = .ok (.aload_n 0, 1) := by decide +kernel
theorem dX9_house_11 : decode cX9_house 11 = .ok (.iconst 0, 1) := by decide +kernel
theorem dX9_house_12 : decode cX9_house 12 = .ok (.putfield 67, 3) := by decide +kernel
theorem dX9_house_15 : decode cX9_house 15 = .ok (.iconst 0, 1) := by decide +kernel
theorem dX9_house_16 : decode cX9_house 16 = .ok (.istore_n 1, 1) := by decide +kernel
theorem dX9_house_17 : decode cX9_house 17 = .ok (.aload_n 0, 1) := by decide +kernel
theorem dX9_house_18 : decode cX9_house 18 = .ok (.bipush (-9), 2) := by decide +kernel
theorem dX9_house_20 : decode cX9_house 20 = .ok (.putfield 105, 3) := by decide +kernel
theorem dX9_house_23 : decode cX9_house 23 = .ok (.aload_n 0, 1) := by decide +kernel
theorem dX9_house_24 : decode cX9_house 24 = .ok (.iconst 0, 1) := by decide +kernel
theorem dX9_house_25 : decode cX9_house 25 = .ok (.putfield 108, 3) := by decide +kernel
theorem dX9_house_28 : decode cX9_house 28 = .ok (.aload_n 0, 1) := by decide +kernel
theorem dX9_house_29 : decode cX9_house 29 = .ok (.iconst 0, 1) := by decide +kernel
theorem dX9_house_30 : decode cX9_house 30 = .ok (.putfield 115, 3) := by decide +kernel
theorem dX9_house_33 : decode cX9_house 33 = .ok (.aload_n 0, 1) := by decide +kernel
theorem dX9_house_34 : decode cX9_house 34 = .ok (.iconst 0, 1) := by decide +kernel
theorem dX9_house_35 : decode cX9_house 35 = .ok (.putfield 121, 3) := by decide +kernel
theorem dX9_house_38 : decode cX9_house 38 = .ok (.aload_n 0, 1) := by decide +kernel
theorem dX9_house_39 : decode cX9_house 39 = .ok (.invokevirtual 94, 3) := by decide +kernel
theorem dX9_house_42 : decode cX9_house 42 = .ok (.aload_n 0, 1) := by decide +kernel
theorem dX9_house_43 : decode cX9_house 43 = .ok (.invokevirtual 90, 3) := by decide +kernel
theorem dX9_house_46 : decode cX9_house 46 = .ok (.ifCond .eq 155, 3) := by decide +kernel
theorem dX9_house_49 : decode cX9_house 49 = .ok (.aload_n 0, 1) := by decide +kernel
theorem dX9_house_50 : decode cX9_house 50 = .ok (.getfield 77, 3) := by decide +kernel
theorem dX9_house_53 : decode cX9_house 53 = .ok (.ifCond .eq 148, 3) := by decide +kernel
theorem dX9_house_56 : decode cX9_house 56 = .ok (.aload_n 0, 1) := by decide +kernel
theorem dX9_house_57 : decode cX9_house 57 = .ok (.getfield 84, 3) := by decide +kernel
theorem dX9_house_60 : decode cX9_house 60 = .ok (.ifCond .ne 20, 3) := by decide +kernel
theorem dX9_house_63 : decode cX9_house 63 = .ok (.aload_n 0, 1) := by decide +kernel
theorem dX9_house_64 : decode cX9_house 64 = .ok (.getfield 105, 3) := by decide +kernel
theorem dX9_house_67 : decode cX9_house 67 = .ok (.bipush (-9), 2) := by decide +kernel
theorem dX9_house_69 : decode cX9_house 69 = .ok (.if_icmp .ne 7, 3) := by decide +kernel
theorem dX9_house_72 : decode cX9_house 72 = .ok (.iconst 1, 1) := by decide +kernel
theorem dX9_house_73 : decode cX9_house 73 = .ok (.goto 69, 3) := by decide +kernel
theorem dX9_house_76 : decode cX9_house 76 = .ok (.iconst 0, 1) := by decide +kernel
theorem dX9_house_77 : decode cX9_house 77 = .ok (.goto 65, 3) := by decide +kernel
theorem dX9_house_80 : decode cX9_house 80 = .ok (.aload_n 0, 1) := by decide +kernel
theorem dX9_house_81 : decode cX9_house 81 = .ok (.getfield 84, 3) := by decide +kernel
theorem dX9_house_84 : decode cX9_house 84 = .ok (.iconst 1, 1) := by decide +kernel
theorem dX9_house_85 : decode cX9_house 85 = .ok (.if_icmp .ne 19, 3) := by decide +kernel
theorem dX9_house_88 : decode cX9_house 88 = .ok (.aload_n 0, 1) := by decide +kernel
theorem dX9_house_89 : decode cX9_house 89 = .ok (.getfield 108, 3) := by decide +kernel
theorem dX9_house_92 : decode cX9_house 92 = .ok (.iconst 5, 1) := by decide +kernel
theorem dX9_house_93 : decode cX9_house 93 = .ok (.if_icmp .ge 7, 3) := by decide +kernel
theorem dX9_house_96 : decode cX9_house 96 = .ok (.iconst 1, 1) := by decide +kernel
theorem dX9_house_97 : decode cX9_house 97 = .ok (.goto 45, 3) := by decide +kernel
theorem dX9_house_100 : decode cX9_house 100 = .ok (.iconst 0, 1) := by decide +kernel
theorem dX9_house_101 : decode cX9_house 101 = .ok (.goto 41, 3) := by decide +kernel
theorem dX9_house_104 : decode cX9_house 104 = .ok (.aload_n 0, 1) := by decide +kernel
theorem dX9_house_105 : decode cX9_house 105 = .ok (.getfield 84, 3) := by decide +kernel
theorem dX9_house_108 : decode cX9_house 108 = .ok (.iconst 2, 1) := by decide +kernel
theorem dX9_house_109 : decode cX9_house 109 = .ok (.if_icmp .ne 20, 3) := by decide +kernel
theorem dX9_house_112 : decode cX9_house 112 = .ok (.aload_n 0, 1) := by decide +kernel
theorem dX9_house_113 : decode cX9_house 113 = .ok (.getfield 115, 3) := by decide +kernel
theorem dX9_house_116 : decode cX9_house 116 = .ok (.bipush 6, 2) := by decide +kernel
theorem dX9_house_118 : decode cX9_house 118 = .ok (.if_icmp .ge 7, 3) := by decide +kernel
theorem dX9_house_121 : decode cX9_house 121 = .ok (.iconst 1, 1) := by decide +kernel
theorem dX9_house_122 : decode cX9_house 122 = .ok (.goto 20, 3) := by decide +kernel
theorem dX9_house_125 : decode cX9_house 125 = .ok (.iconst 0, 1) := by decide +kernel
theorem dX9_house_126 : decode cX9_house 126 = .ok (.goto 16, 3) := by decide +kernel
theorem dX9_house_129 : decode cX9_house 129 = .ok (.aload_n 0, 1) := by decide +kernel
theorem dX9_house_130 : decode cX9_house 130 = .ok (.getfield 121, 3) := by decide +kernel
theorem dX9_house_133 : decode cX9_house 133 = .ok (.iconst 4, 1) := by decide +kernel
theorem dX9_house_134 : decode cX9_house 134 = .ok (.if_icmp .ge 7, 3) := by decide +kernel
theorem dX9_house_137 : decode cX9_house 137 = .ok (.iconst 1, 1) := by decide +kernel
theorem dX9_house_138 : decode cX9_house 138 = .ok (.goto 4, 3) := by decide +kernel
theorem dX9_house_141 : decode cX9_house 141 = .ok (.iconst 0, 1) := by decide +kernel
theorem dX9_house_142 : decode cX9_house 142 = .ok (.istore_n 2, 1) := by decide +kernel
theorem dX9_house_143 : decode cX9_house 143 = .ok (.aload_n 0, 1) := by decide +kernel
theorem dX9_house_144 : decode cX9_house 144 = .ok (.aload_n 0, 1) := by decide +kernel
theorem dX9_house_145 : decode cX9_house 145 = .ok (.getfield 77, 3) := by decide +kernel
theorem dX9_house_148 : decode cX9_house 148 = .ok (.iconst 1, 1) := by decide +kernel
theorem dX9_house_149 : decode cX9_house 149 = .ok (.if_icmp .ne 11, 3) := by decide +kernel
theorem dX9_house_152 : decode cX9_house 152 = .ok (.iload_n 2, 1) := by decide +kernel
theorem dX9_house_153 : decode cX9_house 153 = .ok (.ifCond .eq 7, 3) := by decide +kernel
theorem dX9_house_156 : decode cX9_house 156 = .ok (.iconst 1, 1) := by decide +kernel
theorem dX9_house_157 : decode cX9_house 157 = .ok (.goto 4, 3) := by decide +kernel
theorem dX9_house_160 : decode cX9_house 160 = .ok (.iconst 0, 1) := by decide +kernel
theorem dX9_house_161 : decode cX9_house 161 = .ok (.invokevirtual 97, 3) := by decide +kernel
theorem dX9_house_164 : decode cX9_house 164 = .ok (.istore_n 3, 1) := by decide +kernel
theorem dX9_house_165 : decode cX9_house 165 = .ok (.aload_n 0, 1) := by decide +kernel
theorem dX9_house_166 : decode cX9_house 166 = .ok (.invokevirtual 90, 3) := by decide +kernel
theorem dX9_house_169 : decode cX9_house 169 = .ok (.ifCond .eq 8, 3) := by decide +kernel
theorem dX9_house_172 : decode cX9_house 172 = .ok (.aload_n 0, 1) := by decide +kernel
theorem dX9_house_173 : decode cX9_house 173 = .ok (.iload_n 3, 1) := by decide +kernel
theorem dX9_house_174 : decode cX9_house 174 = .ok (.invokevirtual 124, 3) := by decide +kernel
theorem dX9_house_177 : decode cX9_house 177 = .ok (.aload_n 0, 1) := by decide +kernel
theorem dX9_house_178 : decode cX9_house 178 = .ok (.aload_n 0, 1) := by decide +kernel
theorem dX9_house_179 : decode cX9_house 179 = .ok (.getfield 77, 3) := by decide +kernel
theorem dX9_house_182 : decode cX9_house 182 = .ok (.iconst 3, 1) := by decide +kernel
theorem dX9_house_183 : decode cX9_house 183 = .ok (.if_icmp .ne 7, 3) := by decide +kernel
theorem dX9_house_186 : decode cX9_house 186 = .ok (.iconst 1, 1) := by decide +kernel
theorem dX9_house_187 : decode cX9_house 187 = .ok (.goto 4, 3) := by decide +kernel
theorem dX9_house_190 : decode cX9_house 190 = .ok (.iconst 0, 1) := by decide +kernel
theorem dX9_house_191 : decode cX9_house 191 = .ok (.invokevirtual 97, 3) := by decide +kernel
theorem dX9_house_194 : decode cX9_house 194 = .ok (.pop, 1) := by decide +kernel
theorem dX9_house_195 : decode cX9_house 195 = .ok (.iinc 1 1, 3) := by decide +kernel
theorem dX9_house_198 : decode cX9_house 198 = .ok (.goto (-156), 3) := by decide +kernel
theorem dX9_house_201 : decode cX9_house 201 = .ok (.aload_n 0, 1) := by decide +kernel
theorem dX9_house_202 : decode cX9_house 202 = .ok (.invokevirtual 90, 3) := by decide +kernel
theorem dX9_house_205 : decode cX9_house 205 = .ok (.ifCond .ne 11, 3) := by decide +kernel
theorem dX9_house_208 : decode cX9_house 208 = .ok (.bipush (-10), 2) := by decide +kernel
theorem dX9_house_210 : decode cX9_house 210 = .ok (.aload_n 0, 1) := by decide +kernel
theorem dX9_house_211 : decode cX9_house 211 = .ok (.getfield 87, 3) := by decide +kernel
theorem dX9_house_214 : decode cX9_house 214 = .ok (.isub, 1) := by decide +kernel
theorem dX9_house_215 : decode cX9_house 215 = .ok (.ireturn, 1) := by decide +kernel
theorem dX9_house_216 : decode cX9_house 216 = .ok (.aload_n 0, 1) := by decide +kernel
theorem dX9_house_217 : decode cX9_house 217 = .ok (.invokevirtual 128, 3) := by decide +kernel
theorem dX9_house_220 : decode cX9_house 220 = .ok (.iload_n 1, 1) := by decide +kernel
theorem dX9_house_221 : decode cX9_house 221 = .ok (.ireturn, 1) := by decide +kernel
theorem dX9_settles_0 : decode cX9_settles 0 = .ok (.aload_n 0, 1) := by decide +kernel
theorem dX9_settles_1 : decode cX9_settles 1 = .ok (.aload_n 0, 1) := by decide +kernel
theorem dX9_settles_2 : decode cX9_settles 2 = .ok (.getfield 105, 3) := by decide +kernel
theorem dX9_settles_5 : decode cX9_settles 5 = .ok (.bipush (-9), 2) := by decide +kernel
theorem dX9_settles_7 : decode cX9_settles 7 = .ok (.if_icmp .ne 7, 3) := by decide +kernel
theorem dX9_settles_10 : decode cX9_settles 10 = .ok (.iconst 0, 1) := by decide +kernel
theorem dX9_settles_11 : decode cX9_settles 11 = .ok (.goto 7, 3) := by decide +kernel
theorem dX9_settles_14 : decode cX9_settles 14 = .ok (.aload_n 0, 1) := by decide +kernel
theorem dX9_settles_15 : decode cX9_settles 15 = .ok (.getfield 105, 3) := by decide +kernel
theorem dX9_settles_18 : decode cX9_settles 18 = .ok (.putfield 131, 3) := by decide +kernel
theorem dX9_settles_21 : decode cX9_settles 21 = .ok (.aload_n 0, 1) := by decide +kernel
theorem dX9_settles_22 : decode cX9_settles 22 = .ok (.aload_n 0, 1) := by decide +kernel
theorem dX9_settles_23 : decode cX9_settles 23 = .ok (.getfield 108, 3) := by decide +kernel
theorem dX9_settles_26 : decode cX9_settles 26 = .ok (.putfield 134, 3) := by decide +kernel
theorem dX9_settles_29 : decode cX9_settles 29 = .ok (.aload_n 0, 1) := by decide +kernel
theorem dX9_settles_30 : decode cX9_settles 30 = .ok (.aload_n 0, 1) := by decide +kernel
theorem dX9_settles_31 : decode cX9_settles 31 = .ok (.getfield 115, 3) := by decide +kernel
theorem dX9_settles_34 : decode cX9_settles 34 = .ok (.putfield 137, 3) := by decide +kernel
theorem dX9_settles_37 : decode cX9_settles 37 = .ok (.aload_n 0, 1) := by decide +kernel
theorem dX9_settles_38 : decode cX9_settles 38 = .ok (.aload_n 0, 1) := by decide +kernel
theorem dX9_settles_39 : decode cX9_settles 39 = .ok (.getfield 121, 3) := by decide +kernel
theorem dX9_settles_42 : decode cX9_settles 42 = .ok (.putfield 140, 3) := by decide +kernel
theorem dX9_settles_45 : decode cX9_settles 45 = .ok (.iconst 0, 1) := by decide +kernel
theorem dX9_settles_46 : decode cX9_settles 46 = .ok (.istore_n 1, 1) := by decide +kernel
theorem dX9_settles_47 : decode cX9_settles 47 = .ok (.iload_n 1, 1) := by decide +kernel
theorem dX9_settles_48 : decode cX9_settles 48 = .ok (.iconst 5, 1) := by decide +kernel
theorem dX9_settles_49 : decode cX9_settles 49 = .ok (.if_icmp .ge 70, 3) := by decide +kernel
theorem dX9_settles_52 : decode cX9_settles 52 = .ok (.aload_n 0, 1) := by decide +kernel
theorem dX9_settles_53 : decode cX9_settles 53 = .ok (.getfield 13, 3) := by decide +kernel
theorem dX9_settles_56 : decode cX9_settles 56 = .ok (.iload_n 1, 1) := by decide +kernel
theorem dX9_settles_57 : decode cX9_settles 57 = .ok (.aload_n 0, 1) := by decide +kernel
theorem dX9_settles_58 : decode cX9_settles 58 = .ok (.getfield 13, 3) := by decide +kernel
theorem dX9_settles_61 : decode cX9_settles 61 = .ok (.iconst 5, 1) := by decide +kernel
theorem dX9_settles_62 : decode cX9_settles 62 = .ok (.iload_n 1, 1) := by decide +kernel
theorem dX9_settles_63 : decode cX9_settles 63 = .ok (.iadd, 1) := by decide +kernel
theorem dX9_settles_64 : decode cX9_settles 64 = .ok (.iaload, 1) := by decide +kernel
theorem dX9_settles_65 : decode cX9_settles 65 = .ok (.iastore, 1) := by decide +kernel
theorem dX9_settles_66 : decode cX9_settles 66 = .ok (.aload_n 0, 1) := by decide +kernel
theorem dX9_settles_67 : decode cX9_settles 67 = .ok (.getfield 16, 3) := by decide +kernel
theorem dX9_settles_70 : decode cX9_settles 70 = .ok (.iload_n 1, 1) := by decide +kernel
theorem dX9_settles_71 : decode cX9_settles 71 = .ok (.aload_n 0, 1) := by decide +kernel
theorem dX9_settles_72 : decode cX9_settles 72 = .ok (.getfield 16, 3) := by decide +kernel
theorem dX9_settles_75 : decode cX9_settles 75 = .ok (.iconst 5, 1) := by decide +kernel
theorem dX9_settles_76 : decode cX9_settles 76 = .ok (.iload_n 1, 1) := by decide +kernel
theorem dX9_settles_77 : decode cX9_settles 77 = .ok (.iadd, 1) := by decide +kernel
theorem dX9_settles_78 : decode cX9_settles 78 = .ok (.iaload, 1) := by decide +kernel
theorem dX9_settles_79 : decode cX9_settles 79 = .ok (.iastore, 1) := by decide +kernel
theorem dX9_settles_80 : decode cX9_settles 80 = .ok (.aload_n 0, 1) := by decide +kernel
theorem dX9_settles_81 : decode cX9_settles 81 = .ok (.getfield 25, 3) := by decide +kernel
theorem dX9_settles_84 : decode cX9_settles 84 = .ok (.iload_n 1, 1) := by decide +kernel
theorem dX9_settles_85 : decode cX9_settles 85 = .ok (.iload_n 1, 1) := by decide +kernel
theorem dX9_settles_86 : decode cX9_settles 86 = .ok (.aload_n 0, 1) := by decide +kernel
theorem dX9_settles_87 : decode cX9_settles 87 = .ok (.getfield 134, 3) := by decide +kernel
theorem dX9_settles_90 : decode cX9_settles 90 = .ok (.if_icmp .ge 12, 3) := by decide +kernel
theorem dX9_settles_93 : decode cX9_settles 93 = .ok (.aload_n 0, 1) := by decide +kernel
theorem dX9_settles_94 : decode cX9_settles 94 = .ok (.getfield 16, 3) := by decide +kernel
theorem dX9_settles_97 : decode cX9_settles 97 = .ok (.iload_n 1, 1) := by decide +kernel
theorem dX9_settles_98 : decode cX9_settles 98 = .ok (.iaload, 1) := by decide +kernel
theorem dX9_settles_99 : decode cX9_settles 99 = .ok (.goto 4, 3) := by decide +kernel
theorem dX9_settles_102 : decode cX9_settles 102 = .ok (.iconst 0, 1) := by decide +kernel
theorem dX9_settles_103 : decode cX9_settles 103 = .ok (.iastore, 1) := by decide +kernel
theorem dX9_settles_104 : decode cX9_settles 104 = .ok (.aload_n 0, 1) := by decide +kernel
theorem dX9_settles_105 : decode cX9_settles 105 = .ok (.getfield 25, 3) := by decide +kernel
theorem dX9_settles_108 : decode cX9_settles 108 = .ok (.iconst 5, 1) := by decide +kernel
theorem dX9_settles_109 : decode cX9_settles 109 = .ok (.iload_n 1, 1) := by decide +kernel
theorem dX9_settles_110 : decode cX9_settles 110 = .ok (.iadd, 1) := by decide +kernel
theorem dX9_settles_111 : decode cX9_settles 111 = .ok (.iconst 0, 1) := by decide +kernel
theorem dX9_settles_112 : decode cX9_settles 112 = .ok (.iastore, 1) := by decide +kernel
theorem dX9_settles_113 : decode cX9_settles 113 = .ok (.iinc 1 1, 3) := by decide +kernel
theorem dX9_settles_116 : decode cX9_settles 116 = .ok (.goto (-69), 3) := by decide +kernel
theorem dX9_settles_119 : decode cX9_settles 119 = .ok (.iconst 0, 1) := by decide +kernel
theorem dX9_settles_120 : decode cX9_settles 120 = .ok (.istore_n 1, 1) := by decide +kernel
theorem dX9_settles_121 : decode cX9_settles 121 = .ok (.iload_n 1, 1) := by decide +kernel
theorem dX9_settles_122 : decode cX9_settles 122 = .ok (.bipush 18, 2) := by decide +kernel
theorem dX9_settles_124 : decode cX9_settles 124 = .ok (.if_icmp .ge 24, 3) := by decide +kernel
theorem dX9_settles_127 : decode cX9_settles 127 = .ok (.aload_n 0, 1) := by decide +kernel
theorem dX9_settles_128 : decode cX9_settles 128 = .ok (.getfield 19, 3) := by decide +kernel
theorem dX9_settles_131 : decode cX9_settles 131 = .ok (.iload_n 1, 1) := by decide +kernel
theorem dX9_settles_132 : decode cX9_settles 132 = .ok (.aload_n 0, 1) := by decide +kernel
theorem dX9_settles_133 : decode cX9_settles 133 = .ok (.getfield 19, 3) := by decide +kernel
theorem dX9_settles_136 : decode cX9_settles 136 = .ok (.bipush 18, 2) := by decide +kernel
theorem dX9_settles_138 : decode cX9_settles 138 = .ok (.iload_n 1, 1) := by decide +kernel
theorem dX9_settles_139 : decode cX9_settles 139 = .ok (.iadd, 1) := by decide +kernel
theorem dX9_settles_140 : decode cX9_settles 140 = .ok (.iaload, 1) := by decide +kernel
theorem dX9_settles_141 : decode cX9_settles 141 = .ok (.iastore, 1) := by decide +kernel
theorem dX9_settles_142 : decode cX9_settles 142 = .ok (.iinc 1 1, 3) := by decide +kernel
theorem dX9_settles_145 : decode cX9_settles 145 = .ok (.goto (-24), 3) := by decide +kernel
theorem dX9_settles_148 : decode cX9_settles 148 = .ok (.iconst 0, 1) := by decide +kernel
theorem dX9_settles_149 : decode cX9_settles 149 = .ok (.istore_n 1, 1) := by decide +kernel
theorem dX9_settles_150 : decode cX9_settles 150 = .ok (.iload_n 1, 1) := by decide +kernel
theorem dX9_settles_151 : decode cX9_settles 151 = .ok (.iconst 4, 1) := by decide +kernel
theorem dX9_settles_152 : decode cX9_settles 152 = .ok (.if_icmp .ge 73, 3) := by decide +kernel
theorem dX9_settles_155 : decode cX9_settles 155 = .ok (.aload_n 0, 1) := by decide +kernel
theorem dX9_settles_156 : decode cX9_settles 156 = .ok (.getfield 25, 3) := by decide +kernel
theorem dX9_settles_159 : decode cX9_settles 159 = .ok (.bipush 10, 2) := by decide +kernel
theorem dX9_settles_161 : decode cX9_settles 161 = .ok (.iload_n 1, 1) := by decide +kernel
theorem dX9_settles_162 : decode cX9_settles 162 = .ok (.iadd, 1) := by decide +kernel
theorem dX9_settles_163 : decode cX9_settles 163 = .ok (.iload_n 1, 1) := by decide +kernel
theorem dX9_settles_164 : decode cX9_settles 164 = .ok (.aload_n 0, 1) := by decide +kernel
theorem dX9_settles_165 : decode cX9_settles 165 = .ok (.getfield 140, 3) := by decide +kernel
theorem dX9_settles_168 : decode cX9_settles 168 = .ok (.if_icmp .ge 17, 3) := by decide +kernel
theorem dX9_settles_171 : decode cX9_settles 171 = .ok (.aload_n 0, 1) := by decide +kernel
theorem dX9_settles_172 : decode cX9_settles 172 = .ok (.getfield 22, 3) := by decide +kernel
theorem dX9_settles_175 : decode cX9_settles 175 = .ok (.bipush 8, 2) := by decide +kernel
theorem dX9_settles_177 : decode cX9_settles 177 = .ok (.iconst 2, 1) := by decide +kernel
theorem dX9_settles_178 : decode cX9_settles 178 = .ok (.iload_n 1, 1) := by decide +kernel
theorem dX9_settles_179 : decode cX9_settles 179 = .ok (.imul, 1) := by decide +kernel
theorem dX9_settles_180 : decode cX9_settles 180 = .ok (.iadd, 1) := by decide +kernel
theorem dX9_settles_181 : decode cX9_settles 181 = .ok (.iaload, 1) := by decide +kernel
theorem dX9_settles_182 : decode cX9_settles 182 = .ok (.goto 4, 3) := by decide +kernel
theorem dX9_settles_185 : decode cX9_settles 185 = .ok (.iconst 0, 1) := by decide +kernel
theorem dX9_settles_186 : decode cX9_settles 186 = .ok (.iastore, 1) := by decide +kernel
theorem dX9_settles_187 : decode cX9_settles 187 = .ok (.aload_n 0, 1) := by decide +kernel
theorem dX9_settles_188 : decode cX9_settles 188 = .ok (.getfield 25, 3) := by decide +kernel
theorem dX9_settles_191 : decode cX9_settles 191 = .ok (.bipush 14, 2) := by decide +kernel
theorem dX9_settles_193 : decode cX9_settles 193 = .ok (.iload_n 1, 1) := by decide +kernel
theorem dX9_settles_194 : decode cX9_settles 194 = .ok (.iadd, 1) := by decide +kernel
theorem dX9_settles_195 : decode cX9_settles 195 = .ok (.iload_n 1, 1) := by decide +kernel
theorem dX9_settles_196 : decode cX9_settles 196 = .ok (.aload_n 0, 1) := by decide +kernel
theorem dX9_settles_197 : decode cX9_settles 197 = .ok (.getfield 140, 3) := by decide +kernel
theorem dX9_settles_200 : decode cX9_settles 200 = .ok (.if_icmp .ge 17, 3) := by decide +kernel
theorem dX9_settles_203 : decode cX9_settles 203 = .ok (.aload_n 0, 1) := by decide +kernel
theorem dX9_settles_204 : decode cX9_settles 204 = .ok (.getfield 22, 3) := by decide +kernel
theorem dX9_settles_207 : decode cX9_settles 207 = .ok (.bipush 9, 2) := by decide +kernel
theorem dX9_settles_209 : decode cX9_settles 209 = .ok (.iconst 2, 1) := by decide +kernel
theorem dX9_settles_210 : decode cX9_settles 210 = .ok (.iload_n 1, 1) := by decide +kernel
theorem dX9_settles_211 : decode cX9_settles 211 = .ok (.imul, 1) := by decide +kernel
theorem dX9_settles_212 : decode cX9_settles 212 = .ok (.iadd, 1) := by decide +kernel
theorem dX9_settles_213 : decode cX9_settles 213 = .ok (.iaload, 1) := by decide +kernel
theorem dX9_settles_214 : decode cX9_settles 214 = .ok (.goto 4, 3) := by decide +kernel
theorem dX9_settles_217 : decode cX9_settles 217 = .ok (.iconst 0, 1) := by decide +kernel
theorem dX9_settles_218 : decode cX9_settles 218 = .ok (.iastore, 1) := by decide +kernel
theorem dX9_settles_219 : decode cX9_settles 219 = .ok (.iinc 1 1, 3) := by decide +kernel
theorem dX9_settles_222 : decode cX9_settles 222 = .ok (.goto (-72), 3) := by decide +kernel
theorem dX9_settles_225 : decode cX9_settles 225 = .ok (.aload_n 0, 1) := by decide +kernel
theorem dX9_settles_226 : decode cX9_settles 226 = .ok (.iconst 0, 1) := by decide +kernel
theorem dX9_settles_227 : decode cX9_settles 227 = .ok (.putfield 52, 3) := by decide +kernel
theorem dX9_settles_230 : decode cX9_settles 230 = .ok (.aload_n 0, 1) := by decide +kernel
theorem dX9_settles_231 : decode cX9_settles 231 = .ok (.iconst 0, 1) := by decide +kernel
theorem dX9_settles_232 : decode cX9_settles 232 = .ok (.putfield 143, 3) := by decide +kernel
theorem dX9_settles_235 : decode cX9_settles 235 = .ok (.aload_n 0, 1) := by decide +kernel
theorem dX9_settles_236 : decode cX9_settles 236 = .ok (.iconst 0, 1) := by decide +kernel
theorem dX9_settles_237 : decode cX9_settles 237 = .ok (.putfield 146, 3) := by decide +kernel
theorem dX9_settles_240 : decode cX9_settles 240 = .ok (.aload_n 0, 1) := by decide +kernel
theorem dX9_settles_241 : decode cX9_settles 241 = .ok (.getfield 31, 3) := by decide +kernel
theorem dX9_settles_244 : decode cX9_settles 244 = .ok (.iconst 0, 1) := by decide +kernel
theorem dX9_settles_245 : decode cX9_settles 245 = .ok (.iconst 0, 1) := by decide +kernel
theorem dX9_settles_246 : decode cX9_settles 246 = .ok (.bastore, 1) := by decide +kernel
theorem dX9_settles_247 : decode cX9_settles 247 = .ok (.aload_n 0, 1) := by decide +kernel
theorem dX9_settles_248 : decode cX9_settles 248 = .ok (.getfield 31, 3) := by decide +kernel
theorem dX9_settles_251 : decode cX9_settles 251 = .ok (.iconst 1, 1) := by decide +kernel
theorem dX9_settles_252 : decode cX9_settles 252 = .ok (.iconst 0, 1) := by decide +kernel
theorem dX9_settles_253 : decode cX9_settles 253 = .ok (.bastore, 1) := by decide +kernel
theorem dX9_settles_254 : decode cX9_settles 254 = .ok (.return_, 1) := by decide +kernel
theorem dX9_isKnocker_0 : decode cX9_isKnocker 0 = .ok (.iload_n 1, 1) := by decide +kernel
theorem dX9_isKnocker_1 : decode cX9_isKnocker 1 = .ok (.iconst 0, 1) := by decide +kernel
theorem dX9_isKnocker_2 : decode cX9_isKnocker 2 = .ok (.aload_n 0, 1) := by decide +kernel
theorem dX9_isKnocker_3 : decode cX9_isKnocker 3 = .ok (.getfield 134, 3) := by decide +kernel
theorem dX9_isKnocker_6 : decode cX9_isKnocker 6 = .ok (.iconst 1, 1) := by decide +kernel
theorem dX9_isKnocker_7 : decode cX9_isKnocker 7 = .ok (.isub, 1) := by decide +kernel
theorem dX9_isKnocker_8 : decode cX9_isKnocker 8 = .ok (.invokestatic 48, 3) := by decide +kernel
theorem dX9_isKnocker_11 : decode cX9_isKnocker 11 = .ok (.ireturn, 1) := by decide +kernel
theorem dX9_isErrand_0 : decode cX9_isErrand 0 = .ok (.iload_n 1, 1) := by decide +kernel
theorem dX9_isErrand_1 : decode cX9_isErrand 1 = .ok (.iconst 0, 1) := by decide +kernel
theorem dX9_isErrand_2 : decode cX9_isErrand 2 = .ok (.aload_n 0, 1) := by decide +kernel
theorem dX9_isErrand_3 : decode cX9_isErrand 3 = .ok (.getfield 137, 3) := by decide +kernel
theorem dX9_isErrand_6 : decode cX9_isErrand 6 = .ok (.iconst 1, 1) := by decide +kernel
theorem dX9_isErrand_7 : decode cX9_isErrand 7 = .ok (.isub, 1) := by decide +kernel
theorem dX9_isErrand_8 : decode cX9_isErrand 8 = .ok (.invokestatic 48, 3) := by decide +kernel
theorem dX9_isErrand_11 : decode cX9_isErrand 11 = .ok (.ireturn, 1) := by decide +kernel
theorem dX9_isRule_0 : decode cX9_isRule 0 = .ok (.iload_n 1, 1) := by decide +kernel
theorem dX9_isRule_1 : decode cX9_isRule 1 = .ok (.iconst 0, 1) := by decide +kernel
theorem dX9_isRule_2 : decode cX9_isRule 2 = .ok (.aload_n 0, 1) := by decide +kernel
theorem dX9_isRule_3 : decode cX9_isRule 3 = .ok (.getfield 140, 3) := by decide +kernel
theorem dX9_isRule_6 : decode cX9_isRule 6 = .ok (.iconst 1, 1) := by decide +kernel
theorem dX9_isRule_7 : decode cX9_isRule 7 = .ok (.isub, 1) := by decide +kernel
theorem dX9_isRule_8 : decode cX9_isRule 8 = .ok (.invokestatic 48, 3) := by decide +kernel
theorem dX9_isRule_11 : decode cX9_isRule 11 = .ok (.ireturn, 1) := by decide +kernel
theorem dX9_hasEnough_0 : decode cX9_hasEnough 0 = .ok (.iload_n 1, 1) := by decide +kernel
theorem dX9_hasEnough_1 : decode cX9_hasEnough 1 = .ok (.aload_n 0, 1) := by decide +kernel
theorem dX9_hasEnough_2 : decode cX9_hasEnough 2 = .ok (.getfield 25, 3) := by decide +kernel
theorem dX9_hasEnough_5 : decode cX9_hasEnough 5 = .ok (.bipush 10, 2) := by decide +kernel
theorem dX9_hasEnough_7 : decode cX9_hasEnough 7 = .ok (.iload_n 2, 1) := by decide +kernel
theorem dX9_hasEnough_8 : decode cX9_hasEnough 8 = .ok (.iadd, 1) := by decide +kernel
theorem dX9_hasEnough_9 : decode cX9_hasEnough 9 = .ok (.iaload, 1) := by decide +kernel
theorem dX9_hasEnough_10 : decode cX9_hasEnough 10 = .ok (.iand, 1) := by decide +kernel
theorem dX9_hasEnough_11 : decode cX9_hasEnough 11 = .ok (.invokestatic 118, 3) := by decide +kernel
theorem dX9_hasEnough_14 : decode cX9_hasEnough 14 = .ok (.aload_n 0, 1) := by decide +kernel
theorem dX9_hasEnough_15 : decode cX9_hasEnough 15 = .ok (.getfield 25, 3) := by decide +kernel
theorem dX9_hasEnough_18 : decode cX9_hasEnough 18 = .ok (.bipush 14, 2) := by decide +kernel
theorem dX9_hasEnough_20 : decode cX9_hasEnough 20 = .ok (.iload_n 2, 1) := by decide +kernel
theorem dX9_hasEnough_21 : decode cX9_hasEnough 21 = .ok (.iadd, 1) := by decide +kernel
theorem dX9_hasEnough_22 : decode cX9_hasEnough 22 = .ok (.iaload, 1) := by decide +kernel
theorem dX9_hasEnough_23 : decode cX9_hasEnough 23 = .ok (.if_icmp .lt 7, 3) := by decide +kernel
theorem dX9_hasEnough_26 : decode cX9_hasEnough 26 = .ok (.iconst 1, 1) := by decide +kernel
theorem dX9_hasEnough_27 : decode cX9_hasEnough 27 = .ok (.goto 4, 3) := by decide +kernel
theorem dX9_hasEnough_30 : decode cX9_hasEnough 30 = .ok (.iconst 0, 1) := by decide +kernel
theorem dX9_hasEnough_31 : decode cX9_hasEnough 31 = .ok (.ireturn, 1) := by decide +kernel
theorem dX9_isLetIn_0 : decode cX9_isLetIn 0 = .ok (.iconst 1, 1) := by decide +kernel
theorem dX9_isLetIn_1 : decode cX9_isLetIn 1 = .ok (.istore_n 2, 1) := by decide +kernel
theorem dX9_isLetIn_2 : decode cX9_isLetIn 2 = .ok (.iconst 0, 1) := by decide +kernel
theorem dX9_isLetIn_3 : decode cX9_isLetIn 3 = .ok (.istore_n 3, 1) := by decide +kernel
theorem dX9_isLetIn_4 : decode cX9_isLetIn 4 = .ok (.iload_n 3, 1) := by decide +kernel
theorem dX9_isLetIn_5 : decode cX9_isLetIn 5 = .ok (.aload_n 0, 1) := by decide +kernel
theorem dX9_isLetIn_6 : decode cX9_isLetIn 6 = .ok (.getfield 140, 3) := by decide +kernel
theorem dX9_isLetIn_9 : decode cX9_isLetIn 9 = .ok (.if_icmp .ge 28, 3) := by decide +kernel
theorem dX9_isLetIn_12 : decode cX9_isLetIn 12 = .ok (.iload_n 2, 1) := by decide +kernel
theorem dX9_isLetIn_13 : decode cX9_isLetIn 13 = .ok (.ifCond .eq 16, 3) := by decide +kernel
theorem dX9_isLetIn_16 : decode cX9_isLetIn 16 = .ok (.aload_n 0, 1) := by decide +kernel
theorem dX9_isLetIn_17 : decode cX9_isLetIn 17 = .ok (.iload_n 1, 1) := by decide +kernel
theorem dX9_isLetIn_18 : decode cX9_isLetIn 18 = .ok (.iload_n 3, 1) := by decide +kernel
theorem dX9_isLetIn_19 : decode cX9_isLetIn 19 = .ok (.invokevirtual 149, 3) := by decide +kernel
theorem dX9_isLetIn_22 : decode cX9_isLetIn 22 = .ok (.ifCond .eq 7, 3) := by decide +kernel
theorem dX9_isLetIn_25 : decode cX9_isLetIn 25 = .ok (.iconst 1, 1) := by decide +kernel
theorem dX9_isLetIn_26 : decode cX9_isLetIn 26 = .ok (.goto 4, 3) := by decide +kernel
theorem dX9_isLetIn_29 : decode cX9_isLetIn 29 = .ok (.iconst 0, 1) := by decide +kernel
theorem dX9_isLetIn_30 : decode cX9_isLetIn 30 = .ok (.istore_n 2, 1) := by decide +kernel
theorem dX9_isLetIn_31 : decode cX9_isLetIn 31 = .ok (.iinc 3 1, 3) := by decide +kernel
theorem dX9_isLetIn_34 : decode cX9_isLetIn 34 = .ok (.goto (-30), 3) := by decide +kernel
theorem dX9_isLetIn_37 : decode cX9_isLetIn 37 = .ok (.iload_n 2, 1) := by decide +kernel
theorem dX9_isLetIn_38 : decode cX9_isLetIn 38 = .ok (.ireturn, 1) := by decide +kernel
theorem dX9_knocker_0 : decode cX9_knocker 0 = .ok (.aload_n 0, 1) := by decide +kernel
theorem dX9_knocker_1 : decode cX9_knocker 1 = .ok (.iconst 0, 1) := by decide +kernel
theorem dX9_knocker_2 : decode cX9_knocker 2 = .ok (.putfield 44, 3) := by decide +kernel
theorem dX9_knocker_5 : decode cX9_knocker 5 = .ok (.aload_n 0, 1) := by decide +kernel
theorem dX9_knocker_6 : decode cX9_knocker 6 = .ok (.iload_n 1, 1) := by decide +kernel
theorem dX9_knocker_7 : decode cX9_knocker 7 = .ok (.invokevirtual 153, 3) := by decide +kernel
theorem dX9_knocker_10 : decode cX9_knocker 10 = .ok (.ifCond .eq 12, 3) := by decide +kernel
theorem dX9_knocker_13 : decode cX9_knocker 13 = .ok (.iload_n 2, 1) := by decide +kernel
theorem dX9_knocker_14 : decode cX9_knocker 14 = .ok (.iconst 0, 1) := by decide +kernel
theorem dX9_knocker_15 : decode cX9_knocker 15 = .ok (.iconst 3, 1) := by decide +kernel
theorem dX9_knocker_16 : decode cX9_knocker 16 = .ok (.invokestatic 48, 3) := by decide +kernel
theorem dX9_knocker_19 : decode cX9_knocker 19 = .ok (.ifCond .ne 5, 3) := by decide +kernel
theorem dX9_knocker_22 : decode cX9_knocker 22 = .ok (.iconst (-1), 1) := by decide +kernel
theorem dX9_knocker_23 : decode cX9_knocker 23 = .ok (.ireturn, 1) := by decide +kernel
theorem dX9_knocker_24 : decode cX9_knocker 24 = .ok (.iload_n 2, 1) := by decide +kernel
theorem dX9_knocker_25 : decode cX9_knocker 25 = .ok (.iconst 2, 1) := by decide +kernel
