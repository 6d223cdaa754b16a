theorem dX8_tell_7 : decode cX8_tell 7 = .ok (.iconst (-1), 1) := by decide +kernel
theorem dX8_tell_8 : decode cX8_tell 8 = .ok (.ireturn, 1) := by decide +kernel
theorem dX8_tell_9 : decode cX8_tell 9 = .ok (.aload_n 0, 1) := by decide +kernel
theorem dX8_tell_10 : decode cX8_tell 10 = .ok (.invokevirtual 232, 3) := by decide +kernel
theorem dX8_tell_13 : decode cX8_tell 13 = .ok (.istore_n 2, 1) := by decide +kernel
theorem dX8_tell_14 : decode cX8_tell 14 = .ok (.iload_n 2, 1) := by decide +kernel
theorem dX8_tell_15 : decode cX8_tell 15 = .ok (.ifCond .ne 6, 3) := by decide +kernel
theorem dX8_tell_18 : decode cX8_tell 18 = .ok (.bipush (-9), 2) := by decide +kernel
theorem dX8_tell_20 : decode cX8_tell 20 = .ok (.ireturn, 1) := by decide +kernel
theorem dX8_tell_21 : decode cX8_tell 21 = .ok (.iconst 0, 1) := by decide +kernel
theorem dX8_tell_22 : decode cX8_tell 22 = .ok (.istore_n 3, 1) := by decide +kernel
theorem dX8_tell_23 : decode cX8_tell 23 = .ok (.iconst 1, 1) := by decide +kernel
theorem dX8_tell_24 : decode cX8_tell 24 = .ok (.istore 4, 2) := by decide +kernel
theorem dX8_tell_26 : decode cX8_tell 26 = .ok (.iload 4, 2) := by decide +kernel
theorem dX8_tell_28 : decode cX8_tell 28 = .ok (.bipush 8, 2) := by decide +kernel
theorem dX8_tell_30 : decode cX8_tell 30 = .ok (.if_icmp .ge 28, 3) := by decide +kernel
theorem dX8_tell_33 : decode cX8_tell 33 = .ok (.aload_n 0, 1) := by decide +kernel
theorem dX8_tell_34 : decode cX8_tell 34 = .ok (.iload_n 2, 1) := by decide +kernel
theorem dX8_tell_35 : decode cX8_tell 35 = .ok (.iload 4, 2) := by decide +kernel
theorem dX8_tell_37 : decode cX8_tell 37 = .ok (.invokevirtual 235, 3) := by decide +kernel
theorem dX8_tell_40 : decode cX8_tell 40 = .ok (.aload_n 0, 1) := by decide +kernel
theorem dX8_tell_41 : decode cX8_tell 41 = .ok (.iload_n 2, 1) := by decide +kernel
theorem dX8_tell_42 : decode cX8_tell 42 = .ok (.iload_n 3, 1) := by decide +kernel
theorem dX8_tell_43 : decode cX8_tell 43 = .ok (.invokevirtual 235, 3) := by decide +kernel
theorem dX8_tell_46 : decode cX8_tell 46 = .ok (.if_icmp .ge 6, 3) := by decide +kernel
theorem dX8_tell_49 : decode cX8_tell 49 = .ok (.iload 4, 2) := by decide +kernel
theorem dX8_tell_51 : decode cX8_tell 51 = .ok (.istore_n 3, 1) := by decide +kernel
theorem dX8_tell_52 : decode cX8_tell 52 = .ok (.iinc 4 1, 3) := by decide +kernel
theorem dX8_tell_55 : decode cX8_tell 55 = .ok (.goto (-29), 3) := by decide +kernel
theorem dX8_tell_58 : decode cX8_tell 58 = .ok (.iload_n 1, 1) := by decide +kernel
theorem dX8_tell_59 : decode cX8_tell 59 = .ok (.ifCond .ne 7, 3) := by decide +kernel
theorem dX8_tell_62 : decode cX8_tell 62 = .ok (.iload_n 3, 1) := by decide +kernel
theorem dX8_tell_63 : decode cX8_tell 63 = .ok (.goto 9, 3) := by decide +kernel
theorem dX8_tell_66 : decode cX8_tell 66 = .ok (.aload_n 0, 1) := by decide +kernel
theorem dX8_tell_67 : decode cX8_tell 67 = .ok (.iload_n 2, 1) := by decide +kernel
theorem dX8_tell_68 : decode cX8_tell 68 = .ok (.iload_n 3, 1) := by decide +kernel
theorem dX8_tell_69 : decode cX8_tell 69 = .ok (.invokevirtual 235, 3) := by decide +kernel
theorem dX8_tell_72 : decode cX8_tell 72 = .ok (.ireturn, 1) := by decide +kernel
theorem dX8_rate_0 : decode cX8_rate 0 = .ok (.aload_n 0, 1) := by decide +kernel
theorem dX8_rate_1 : decode cX8_rate 1 = .ok (.iload_n 2, 1) := by decide +kernel
theorem dX8_rate_2 : decode cX8_rate 2 = .ok (.invokevirtual 103, 3) := by decide +kernel
theorem dX8_rate_5 : decode cX8_rate 5 = .ok (.ifCond .ne 6, 3) := by decide +kernel
theorem dX8_rate_8 : decode cX8_rate 8 = .ok (.ldc 238, 2) := by decide +kernel
theorem dX8_rate_10 : decode cX8_rate 10 = .ok (.ireturn, 1) := by decide +kernel
theorem dX8_rate_11 : decode cX8_rate 11 = .ok (.iload_n 1, 1) := by decide +kernel
theorem dX8_rate_12 : decode cX8_rate 12 = .ok (.tableswitch 76 0 5 #[40, 46, 52, 58, 64, 70], 40) := by decide +kernel
theorem dX8_rate_52 : decode cX8_rate 52 = .ok (.aload_n 0, 1) := by decide +kernel
theorem dX8_rate_53 : decode cX8_rate 53 = .ok (.iload_n 2, 1) := by decide +kernel
theorem dX8_rate_54 : decode cX8_rate 54 = .ok (.invokevirtual 239, 3) := by decide +kernel
theorem dX8_rate_57 : decode cX8_rate 57 = .ok (.ireturn, 1) := by decide +kernel
theorem dX8_rate_58 : decode cX8_rate 58 = .ok (.aload_n 0, 1) := by decide +kernel
theorem dX8_rate_59 : decode cX8_rate 59 = .ok (.iload_n 2, 1) := by decide +kernel
theorem dX8_rate_60 : decode cX8_rate 60 = .ok (.invokevirtual 242, 3) := by decide +kernel
theorem dX8_rate_63 : decode cX8_rate 63 = .ok (.ireturn, 1) := by decide +kernel
theorem dX8_rate_64 : decode cX8_rate 64 = .ok (.aload_n 0, 1) := by decide +kernel
theorem dX8_rate_65 : decode cX8_rate 65 = .ok (.iload_n 2, 1) := by decide +kernel
theorem dX8_rate_66 : decode cX8_rate 66 = .ok (.invokevirtual 245, 3) := by decide +kernel
theorem dX8_rate_69 : decode cX8_rate 69 = .ok (.ireturn, 1) := by decide +kernel
theorem dX8_rate_70 : decode cX8_rate 70 = .ok (.aload_n 0, 1) := by decide +kernel
theorem dX8_rate_71 : decode cX8_rate 71 = .ok (.iload_n 2, 1) := by decide +kernel
theorem dX8_rate_72 : decode cX8_rate 72 = .ok (.invokevirtual 248, 3) := by decide +kernel
theorem dX8_rate_75 : decode cX8_rate 75 = .ok (.ireturn, 1) := by decide +kernel
theorem dX8_rate_76 : decode cX8_rate 76 = .ok (.aload_n 0, 1) := by decide +kernel
theorem dX8_rate_77 : decode cX8_rate 77 = .ok (.iload_n 2, 1) := by decide +kernel
theorem dX8_rate_78 : decode cX8_rate 78 = .ok (.invokevirtual 251, 3) := by decide +kernel
theorem dX8_rate_81 : decode cX8_rate 81 = .ok (.ireturn, 1) := by decide +kernel
theorem dX8_rate_82 : decode cX8_rate 82 = .ok (.aload_n 0, 1) := by decide +kernel
theorem dX8_rate_83 : decode cX8_rate 83 = .ok (.iload_n 2, 1) := by decide +kernel
theorem dX8_rate_84 : decode cX8_rate 84 = .ok (.invokevirtual 254, 3) := by decide +kernel
theorem dX8_rate_87 : decode cX8_rate 87 = .ok (.ireturn, 1) := by decide +kernel
theorem dX8_rate_88 : decode cX8_rate 88 = .ok (.ldc 238, 2) := by decide +kernel
theorem dX8_rate_90 : decode cX8_rate 90 = .ok (.ireturn, 1) := by decide +kernel
theorem dX8_keep_0 : decode cX8_keep 0 = .ok (.iload_n 1, 1) := by decide +kernel
theorem dX8_keep_1 : decode cX8_keep 1 = .ok (.invokestatic 257, 3) := by decide +kernel
theorem dX8_keep_4 : decode cX8_keep 4 = .ok (.ifCond .ne 5, 3) := by decide +kernel
theorem dX8_keep_7 : decode cX8_keep 7 = .ok (.iconst (-1), 1) := by decide +kernel
theorem dX8_keep_8 : decode cX8_keep 8 = .ok (.ireturn, 1) := by decide +kernel
theorem dX8_keep_9 : decode cX8_keep 9 = .ok (.aload_n 0, 1) := by decide +kernel
theorem dX8_keep_10 : decode cX8_keep 10 = .ok (.getfield 46, 3) := by decide +kernel
theorem dX8_keep_13 : decode cX8_keep 13 = .ok (.iload_n 1, 1) := by decide +kernel
theorem dX8_keep_14 : decode cX8_keep 14 = .ok (.aload_n 0, 1) := by decide +kernel
theorem dX8_keep_15 : decode cX8_keep 15 = .ok (.getfield 33, 3) := by decide +kernel
theorem dX8_keep_18 : decode cX8_keep 18 = .ok (.invokevirtual 260, 3) := by decide +kernel
theorem dX8_keep_21 : decode cX8_keep 21 = .ok (.aload_n 0, 1) := by decide +kernel
theorem dX8_keep_22 : decode cX8_keep 22 = .ok (.dup, 1) := by decide +kernel
theorem dX8_keep_23 : decode cX8_keep 23 = .ok (.getfield 97, 3) := by decide +kernel
theorem dX8_keep_26 : decode cX8_keep 26 = .ok (.iconst 1, 1) := by decide +kernel
theorem dX8_keep_27 : decode cX8_keep 27 = .ok (.iload_n 1, 1) := by decide +kernel
theorem dX8_keep_28 : decode cX8_keep 28 = .ok (.ishl, 1) := by decide +kernel
theorem dX8_keep_29 : decode cX8_keep 29 = .ok (.ior, 1) := by decide +kernel
theorem dX8_keep_30 : decode cX8_keep 30 = .ok (.putfield 97, 3) := by decide +kernel
theorem dX8_keep_33 : decode cX8_keep 33 = .ok (.aload_n 0, 1) := by decide +kernel
theorem dX8_keep_34 : decode cX8_keep 34 = .ok (.invokevirtual 180, 3) := by decide +kernel
theorem dX8_keep_37 : decode cX8_keep 37 = .ok (.invokestatic 175, 3) := by decide +kernel
theorem dX8_keep_40 : decode cX8_keep 40 = .ok (.ireturn, 1) := by decide +kernel
theorem dX8_back_0 : decode cX8_back 0 = .ok (.iload_n 1, 1) := by decide +kernel
theorem dX8_back_1 : decode cX8_back 1 = .ok (.invokestatic 257, 3) := by decide +kernel
theorem dX8_back_4 : decode cX8_back 4 = .ok (.ifCond .ne 5, 3) := by decide +kernel
theorem dX8_back_7 : decode cX8_back 7 = .ok (.iconst (-1), 1) := by decide +kernel
theorem dX8_back_8 : decode cX8_back 8 = .ok (.ireturn, 1) := by decide +kernel
theorem dX8_back_9 : decode cX8_back 9 = .ok (.aload_n 0, 1) := by decide +kernel
theorem dX8_back_10 : decode cX8_back 10 = .ok (.getfield 97, 3) := by decide +kernel
theorem dX8_back_13 : decode cX8_back 13 = .ok (.iload_n 1, 1) := by decide +kernel
theorem dX8_back_14 : decode cX8_back 14 = .ok (.invokestatic 172, 3) := by decide +kernel
theorem dX8_back_17 : decode cX8_back 17 = .ok (.ifCond .ne 6, 3) := by decide +kernel
theorem dX8_back_20 : decode cX8_back 20 = .ok (.bipush (-2), 2) := by decide +kernel
theorem dX8_back_22 : decode cX8_back 22 = .ok (.ireturn, 1) := by decide +kernel
theorem dX8_back_23 : decode cX8_back 23 = .ok (.aload_n 0, 1) := by decide +kernel
theorem dX8_back_24 : decode cX8_back 24 = .ok (.getfield 46, 3) := by decide +kernel
theorem dX8_back_27 : decode cX8_back 27 = .ok (.iload_n 1, 1) := by decide +kernel
theorem dX8_back_28 : decode cX8_back 28 = .ok (.aload_n 0, 1) := by decide +kernel
theorem dX8_back_29 : decode cX8_back 29 = .ok (.getfield 33, 3) := by decide +kernel
theorem dX8_back_32 : decode cX8_back 32 = .ok (.invokevirtual 186, 3) := by decide +kernel
theorem dX8_back_35 : decode cX8_back 35 = .ok (.aload_n 0, 1) := by decide +kernel
theorem dX8_back_36 : decode cX8_back 36 = .ok (.iconst 0, 1) := by decide +kernel
theorem dX8_back_37 : decode cX8_back 37 = .ok (.putfield 94, 3) := by decide +kernel
theorem dX8_back_40 : decode cX8_back 40 = .ok (.aload_n 0, 1) := by decide +kernel
theorem dX8_back_41 : decode cX8_back 41 = .ok (.invokevirtual 180, 3) := by decide +kernel
theorem dX8_back_44 : decode cX8_back 44 = .ok (.invokestatic 175, 3) := by decide +kernel
theorem dX8_back_47 : decode cX8_back 47 = .ok (.ireturn, 1) := by decide +kernel
theorem dX8_count_0 : decode cX8_count 0 = .ok (.iload_n 1, 1) := by decide +kernel
theorem dX8_count_1 : decode cX8_count 1 = .ok (.tableswitch 72 0 4 #[35, 43, 51, 59, 64], 35) := by decide +kernel
theorem dX8_count_36 : decode cX8_count 36 = .ok (.aload_n 0, 1) := by decide +kernel
theorem dX8_count_37 : decode cX8_count 37 = .ok (.getfield 19, 3) := by decide +kernel
theorem dX8_count_40 : decode cX8_count 40 = .ok (.getfield 226, 3) := by decide +kernel
theorem dX8_count_43 : decode cX8_count 43 = .ok (.ireturn, 1) := by decide +kernel
theorem dX8_count_44 : decode cX8_count 44 = .ok (.aload_n 0, 1) := by decide +kernel
theorem dX8_count_45 : decode cX8_count 45 = .ok (.getfield 19, 3) := by decide +kernel
theorem dX8_count_48 : decode cX8_count 48 = .ok (.getfield 205, 3) := by decide +kernel
theorem dX8_count_51 : decode cX8_count 51 = .ok (.ireturn, 1) := by decide +kernel
theorem dX8_count_52 : decode cX8_count 52 = .ok (.aload_n 0, 1) := by decide +kernel
theorem dX8_count_53 : decode cX8_count 53 = .ok (.getfield 19, 3) := by decide +kernel
theorem dX8_count_56 : decode cX8_count 56 = .ok (.getfield 263, 3) := by decide +kernel
theorem dX8_count_59 : decode cX8_count 59 = .ok (.ireturn, 1) := by decide +kernel
theorem dX8_count_60 : decode cX8_count 60 = .ok (.aload_n 0, 1) := by decide +kernel
theorem dX8_count_61 : decode cX8_count 61 = .ok (.getfield 100, 3) := by decide +kernel
theorem dX8_count_64 : decode cX8_count 64 = .ok (.ireturn, 1) := by decide +kernel
theorem dX8_count_65 : decode cX8_count 65 = .ok (.aload_n 0, 1) := by decide +kernel
theorem dX8_count_66 : decode cX8_count 66 = .ok (.getfield 10, 3) := by decide +kernel
theorem dX8_count_69 : decode cX8_count 69 = .ok (.getfield 70, 3) := by decide +kernel
theorem dX8_count_72 : decode cX8_count 72 = .ok (.ireturn, 1) := by decide +kernel
theorem dX8_count_73 : decode cX8_count 73 = .ok (.iconst (-1), 1) := by decide +kernel
theorem dX8_count_74 : decode cX8_count 74 = .ok (.ireturn, 1) := by decide +kernel
theorem dX8_trace_0 : decode cX8_trace 0 = .ok (.aload_n 0, 1) := by decide +kernel
theorem dX8_trace_1 : decode cX8_trace 1 = .ok (.getfield 266, 3) := by decide +kernel
theorem dX8_trace_4 : decode cX8_trace 4 = .ok (.lreturn, 1) := by decide +kernel
theorem dX8_isKnocker_0 : decode cX8_isKnocker 0 = .ok (.iload_n 1, 1) := by decide +kernel
theorem dX8_isKnocker_1 : decode cX8_isKnocker 1 = .ok (.ifCond .lt 18, 3) := by decide +kernel
theorem dX8_isKnocker_4 : decode cX8_isKnocker 4 = .ok (.iload_n 1, 1) := by decide +kernel
theorem dX8_isKnocker_5 : decode cX8_isKnocker 5 = .ok (.aload_n 0, 1) := by decide +kernel
theorem dX8_isKnocker_6 : decode cX8_isKnocker 6 = .ok (.getfield 19, 3) := by decide +kernel
theorem dX8_isKnocker_9 : decode cX8_isKnocker 9 = .ok (.getfield 226, 3) := by decide +kernel
theorem dX8_isKnocker_12 : decode cX8_isKnocker 12 = .ok (.if_icmp .ge 7, 3) := by decide +kernel
theorem dX8_isKnocker_15 : decode cX8_isKnocker 15 = .ok (.iconst 1, 1) := by decide +kernel
theorem dX8_isKnocker_16 : decode cX8_isKnocker 16 = .ok (.goto 4, 3) := by decide +kernel
theorem dX8_isKnocker_19 : decode cX8_isKnocker 19 = .ok (.iconst 0, 1) := by decide +kernel
theorem dX8_isKnocker_20 : decode cX8_isKnocker 20 = .ok (.ireturn, 1) := by decide +kernel
theorem dX8_isErrand_0 : decode cX8_isErrand 0 = .ok (.iload_n 1, 1) := by decide +kernel
theorem dX8_isErrand_1 : decode cX8_isErrand 1 = .ok (.ifCond .lt 18, 3) := by decide +kernel
theorem dX8_isErrand_4 : decode cX8_isErrand 4 = .ok (.iload_n 1, 1) := by decide +kernel
theorem dX8_isErrand_5 : decode cX8_isErrand 5 = .ok (.aload_n 0, 1) := by decide +kernel
theorem dX8_isErrand_6 : decode cX8_isErrand 6 = .ok (.getfield 19, 3) := by decide +kernel
theorem dX8_isErrand_9 : decode cX8_isErrand 9 = .ok (.getfield 205, 3) := by decide +kernel
theorem dX8_isErrand_12 : decode cX8_isErrand 12 = .ok (.if_icmp .ge 7, 3) := by decide +kernel
theorem dX8_isErrand_15 : decode cX8_isErrand 15 = .ok (.iconst 1, 1) := by decide +kernel
theorem dX8_isErrand_16 : decode cX8_isErrand 16 = .ok (.goto 4, 3) := by decide +kernel
theorem dX8_isErrand_19 : decode cX8_isErrand 19 = .ok (.iconst 0, 1) := by decide +kernel
theorem dX8_isErrand_20 : decode cX8_isErrand 20 = .ok (.ireturn, 1) := by decide +kernel
theorem dX8_isRule_0 : decode cX8_isRule 0 = .ok (.iload_n 1, 1) := by decide +kernel
theorem dX8_isRule_1 : decode cX8_isRule 1 = .ok (.ifCond .lt 18, 3) := by decide +kernel
theorem dX8_isRule_4 : decode cX8_isRule 4 = .ok (.iload_n 1, 1) := by decide +kernel
theorem dX8_isRule_5 : decode cX8_isRule 5 = .ok (.aload_n 0, 1) := by decide +kernel
theorem dX8_isRule_6 : decode cX8_isRule 6 = .ok (.getfield 19, 3) := by decide +kernel
theorem dX8_isRule_9 : decode cX8_isRule 9 = .ok (.getfield 263, 3) := by decide +kernel
theorem dX8_isRule_12 : decode cX8_isRule 12 = .ok (.if_icmp .ge 7, 3) := by decide +kernel
theorem dX8_isRule_15 : decode cX8_isRule 15 = .ok (.iconst 1, 1) := by decide +kernel
theorem dX8_isRule_16 : decode cX8_isRule 16 = .ok (.goto 4, 3) := by decide +kernel
theorem dX8_isRule_19 : decode cX8_isRule 19 = .ok (.iconst 0, 1) := by decide +kernel
theorem dX8_isRule_20 : decode cX8_isRule 20 = .ok (.ireturn, 1) := by decide +kernel
theorem dX8_isSign_0 : decode cX8_isSign 0 = .ok (.iload_n 0, 1) := by decide +kernel
theorem dX8_isSign_1 : decode cX8_isSign 1 = .ok (.ifCond .lt 13, 3) := by decide +kernel
theorem dX8_isSign_4 : decode cX8_isSign 4 = .ok (.iload_n 0, 1) := by decide +kernel
theorem dX8_isSign_5 : decode cX8_isSign 5 = .ok (.bipush 8, 2) := by decide +kernel
theorem dX8_isSign_7 : decode cX8_isSign 7 = .ok (.if_icmp .ge 7, 3) := by decide +kernel
theorem dX8_isSign_10 : decode cX8_isSign 10 = .ok (.iconst 1, 1) := by decide +kernel
theorem dX8_isSign_11 : decode cX8_isSign 11 = .ok (.goto 4, 3) := by decide +kernel
theorem dX8_isSign_14 : decode cX8_isSign 14 = .ok (.iconst 0, 1) := by decide +kernel
theorem dX8_isSign_15 : decode cX8_isSign 15 = .ok (.ireturn, 1) := by decide +kernel
theorem dX8_isHours_0 : decode cX8_isHours 0 = .ok (.iload_n 0, 1) := by decide +kernel
theorem dX8_isHours_1 : decode cX8_isHours 1 = .ok (.ifCond .lt 13, 3) := by decide +kernel
theorem dX8_isHours_4 : decode cX8_isHours 4 = .ok (.iload_n 0, 1) := by decide +kernel
theorem dX8_isHours_5 : decode cX8_isHours 5 = .ok (.bipush 99, 2) := by decide +kernel
theorem dX8_isHours_7 : decode cX8_isHours 7 = .ok (.if_icmp .gt 7, 3) := by decide +kernel
theorem dX8_isHours_10 : decode cX8_isHours 10 = .ok (.iconst 1, 1) := by decide +kernel
theorem dX8_isHours_11 : decode cX8_isHours 11 = .ok (.goto 4, 3) := by decide +kernel
theorem dX8_isHours_14 : decode cX8_isHours 14 = .ok (.iconst 0, 1) := by decide +kernel
theorem dX8_isHours_15 : decode cX8_isHours 15 = .ok (.ireturn, 1) := by decide +kernel
theorem dX8_isBit_0 : decode cX8_isBit 0 = .ok (.iload_n 0, 1) := by decide +kernel
theorem dX8_isBit_1 : decode cX8_isBit 1 = .ok (.ifCond .eq 8, 3) := by decide +kernel
theorem dX8_isBit_4 : decode cX8_isBit 4 = .ok (.iload_n 0, 1) := by decide +kernel
theorem dX8_isBit_5 : decode cX8_isBit 5 = .ok (.iconst 1, 1) := by decide +kernel
theorem dX8_isBit_6 : decode cX8_isBit 6 = .ok (.if_icmp .ne 7, 3) := by decide +kernel
theorem dX8_isBit_9 : decode cX8_isBit 9 = .ok (.iconst 1, 1) := by decide +kernel
theorem dX8_isBit_10 : decode cX8_isBit 10 = .ok (.goto 4, 3) := by decide +kernel
theorem dX8_isBit_13 : decode cX8_isBit 13 = .ok (.iconst 0, 1) := by decide +kernel
theorem dX8_isBit_14 : decode cX8_isBit 14 = .ok (.ireturn, 1) := by decide +kernel
theorem dX8_isImage_0 : decode cX8_isImage 0 = .ok (.iload_n 0, 1) := by decide +kernel
theorem dX8_isImage_1 : decode cX8_isImage 1 = .ok (.ifCond .lt 12, 3) := by decide +kernel
theorem dX8_isImage_4 : decode cX8_isImage 4 = .ok (.iload_n 0, 1) := by decide +kernel
theorem dX8_isImage_5 : decode cX8_isImage 5 = .ok (.iconst 2, 1) := by decide +kernel
theorem dX8_isImage_6 : decode cX8_isImage 6 = .ok (.if_icmp .ge 7, 3) := by decide +kernel
theorem dX8_isImage_9 : decode cX8_isImage 9 = .ok (.iconst 1, 1) := by decide +kernel
theorem dX8_isImage_10 : decode cX8_isImage 10 = .ok (.goto 4, 3) := by decide +kernel
theorem dX8_isImage_13 : decode cX8_isImage 13 = .ok (.iconst 0, 1) := by decide +kernel
theorem dX8_isImage_14 : decode cX8_isImage 14 = .ok (.ireturn, 1) := by decide +kernel
theorem dX8_at_0 : decode cX8_at 0 = .ok (.iload_n 1, 1) := by decide +kernel
theorem dX8_at_1 : decode cX8_at 1 = .ok (.ifCond .lt 15, 3) := by decide +kernel
theorem dX8_at_4 : decode cX8_at 4 = .ok (.iload_n 1, 1) := by decide +kernel
theorem dX8_at_5 : decode cX8_at 5 = .ok (.aload_n 0, 1) := by decide +kernel
theorem dX8_at_6 : decode cX8_at 6 = .ok (.arraylength, 1) := by decide +kernel
theorem dX8_at_7 : decode cX8_at 7 = .ok (.if_icmp .ge 9, 3) := by decide +kernel
theorem dX8_at_10 : decode cX8_at 10 = .ok (.aload_n 0, 1) := by decide +kernel
theorem dX8_at_11 : decode cX8_at 11 = .ok (.iload_n 1, 1) := by decide +kernel
theorem dX8_at_12 : decode cX8_at 12 = .ok (.iaload, 1) := by decide +kernel
theorem dX8_at_13 : decode cX8_at 13 = .ok (.goto 4, 3) := by decide +kernel
theorem dX8_at_16 : decode cX8_at 16 = .ok (.iconst 0, 1) := by decide +kernel
theorem dX8_at_17 : decode cX8_at 17 = .ok (.ireturn, 1) := by decide +kernel
theorem dX8_put_0 : decode cX8_put 0 = .ok (.iload_n 1, 1) := by decide +kernel
theorem dX8_put_1 : decode cX8_put 1 = .ok (.ifCond .lt 13, 3) := by decide +kernel
theorem dX8_put_4 : decode cX8_put 4 = .ok (.iload_n 1, 1) := by decide +kernel
theorem dX8_put_5 : decode cX8_put 5 = .ok (.aload_n 0, 1) := by decide +kernel
theorem dX8_put_6 : decode cX8_put 6 = .ok (.arraylength, 1) := by decide +kernel
theorem dX8_put_7 : decode cX8_put 7 = .ok (.if_icmp .ge 7, 3) := by decide +kernel
theorem dX8_put_10 : decode cX8_put 10 = .ok (.aload_n 0, 1) := by decide +kernel
theorem dX8_put_11 : decode cX8_put 11 = .ok (.iload_n 1, 1) := by decide +kernel
theorem dX8_put_12 : decode cX8_put 12 = .ok (.iload_n 2, 1) := by decide +kernel
theorem dX8_put_13 : decode cX8_put 13 = .ok (.iastore, 1) := by decide +kernel
theorem dX8_put_14 : decode cX8_put 14 = .ok (.return_, 1) := by decide +kernel
theorem dX8_copyRow_0 : decode cX8_copyRow 0 = .ok (.aload_n 0, 1) := by decide +kernel
theorem dX8_copyRow_1 : decode cX8_copyRow 1 = .ok (.iconst 0, 1) := by decide +kernel
theorem dX8_copyRow_2 : decode cX8_copyRow 2 = .ok (.aload_n 1, 1) := by decide +kernel
theorem dX8_copyRow_3 : decode cX8_copyRow 3 = .ok (.iconst 0, 1) := by decide +kernel
theorem dX8_copyRow_4 : decode cX8_copyRow 4 = .ok (.aload_n 0, 1) := by decide +kernel
theorem dX8_copyRow_5 : decode cX8_copyRow 5 = .ok (.arraylength, 1) := by decide +kernel
theorem dX8_copyRow_6 : decode cX8_copyRow 6 = .ok (.aload_n 1, 1) := by decide +kernel
theorem dX8_copyRow_7 : decode cX8_copyRow 7 = .ok (.arraylength, 1) := by decide +kernel
theorem dX8_copyRow_8 : decode cX8_copyRow 8 = .ok (.invokestatic 270, 3) := by decide +kernel
theorem dX8_copyRow_11 : decode cX8_copyRow 11 = .ok (.invokestatic 273, 3) := by decide +kernel
theorem dX8_copyRow_14 : decode cX8_copyRow 14 = .ok (.return_, 1) := by decide +kernel
theorem dX8_has_0 : decode cX8_has 0 = .ok (.iload_n 0, 1) := by decide +kernel
theorem dX8_has_1 : decode cX8_has 1 = .ok (.iload_n 1, 1) := by decide +kernel
theorem dX8_has_2 : decode cX8_has 2 = .ok (.ishr, 1) := by decide +kernel
theorem dX8_has_3 : decode cX8_has 3 = .ok (.iconst 1, 1) := by decide +kernel
theorem dX8_has_4 : decode cX8_has 4 = .ok (.iand, 1) := by decide +kernel
theorem dX8_has_5 : decode cX8_has 5 = .ok (.iconst 1, 1) := by decide +kernel
theorem dX8_has_6 : decode cX8_has 6 = .ok (.if_icmp .ne 7, 3) := by decide +kernel
theorem dX8_has_9 : decode cX8_has 9 = .ok (.iconst 1, 1) := by decide +kernel
theorem dX8_has_10 : decode cX8_has 10 = .ok (.goto 4, 3) := by decide +kernel
theorem dX8_has_13 : decode cX8_has 13 = .ok (.iconst 0, 1) := by decide +kernel
theorem dX8_has_14 : decode cX8_has 14 = .ok (.ireturn, 1) := by decide +kernel
theorem dX8_power_0 : decode cX8_power 0 = .ok (.lconst 1, 1) := by decide +kernel
theorem dX8_power_1 : decode cX8_power 1 = .ok (.lstore_n 2, 1) := by decide +kernel
theorem dX8_power_2 : decode cX8_power 2 = .ok (.iconst 0, 1) := by decide +kernel
theorem dX8_power_3 : decode cX8_power 3 = .ok (.istore 4, 2) := by decide +kernel
theorem dX8_power_5 : decode cX8_power 5 = .ok (.iload 4, 2) := by decide +kernel
theorem dX8_power_7 : decode cX8_power 7 = .ok (.iload_n 1, 1) := by decide +kernel
theorem dX8_power_8 : decode cX8_power 8 = .ok (.if_icmp .ge 14, 3) := by decide +kernel
theorem dX8_power_11 : decode cX8_power 11 = .ok (.lload_n 2, 1) := by decide +kernel
theorem dX8_power_12 : decode cX8_power 12 = .ok (.iload_n 0, 1) := by decide +kernel
theorem dX8_power_13 : decode cX8_power 13 = .ok (.i2l, 1) := by decide +kernel
theorem dX8_power_14 : decode cX8_power 14 = .ok (.lmul, 1) := by decide +kernel
theorem dX8_power_15 : decode cX8_power 15 = .ok (.lstore_n 2, 1) := by decide +kernel
theorem dX8_power_16 : decode cX8_power 16 = .ok (.iinc 4 1, 3) := by decide +kernel
theorem dX8_power_19 : decode cX8_power 19 = .ok (.goto (-14), 3) := by decide +kernel
theorem dX8_power_22 : decode cX8_power 22 = .ok (.lload_n 2, 1) := by decide +kernel
theorem dX8_power_23 : decode cX8_power 23 = .ok (.lreturn, 1) := by decide +kernel
theorem dX8_commonDivisor_0 : decode cX8_commonDivisor 0 = .ok (.iconst 0, 1) := by decide +kernel
theorem dX8_commonDivisor_1 : decode cX8_commonDivisor 1 = .ok (.istore 4, 2) := by decide +kernel
theorem dX8_commonDivisor_3 : decode cX8_commonDivisor 3 = .ok (.iload 4, 2) := by decide +kernel
theorem dX8_commonDivisor_5 : decode cX8_commonDivisor 5 = .ok (.bipush 100, 2) := by decide +kernel
theorem dX8_commonDivisor_7 : decode cX8_commonDivisor 7 = .ok (.if_icmp .ge 25, 3) := by decide +kernel
theorem dX8_commonDivisor_10 : decode cX8_commonDivisor 10 = .ok (.lload_n 2, 1) := by decide +kernel
theorem dX8_commonDivisor_11 : decode cX8_commonDivisor 11 = .ok (.lconst 0, 1) := by decide +kernel
theorem dX8_commonDivisor_12 : decode cX8_commonDivisor 12 = .ok (.lcmp, 1) := by decide +kernel
theorem dX8_commonDivisor_13 : decode cX8_commonDivisor 13 = .ok (.ifCond .eq 19, 3) := by decide +kernel
theorem dX8_commonDivisor_16 : decode cX8_commonDivisor 16 = .ok (.lload_n 0, 1) := by decide +kernel
theorem dX8_commonDivisor_17 : decode cX8_commonDivisor 17 = .ok (.lload_n 2, 1) := by decide +kernel
theorem dX8_commonDivisor_18 : decode cX8_commonDivisor 18 = .ok (.lrem, 1) := by decide +kernel
theorem dX8_commonDivisor_19 : decode cX8_commonDivisor 19 = .ok (.lstore 5, 2) := by decide +kernel
theorem dX8_commonDivisor_21 : decode cX8_commonDivisor 21 = .ok (.lload_n 2, 1) := by decide +kernel
theorem dX8_commonDivisor_22 : decode cX8_commonDivisor 22 = .ok (.lstore_n 0, 1) := by decide +kernel
theorem dX8_commonDivisor_23 : decode cX8_commonDivisor 23 = .ok (.lload 5, 2) := by decide +kernel
theorem dX8_commonDivisor_25 : decode cX8_commonDivisor 25 = .ok (.lstore_n 2, 1) := by decide +kernel
theorem dX8_commonDivisor_26 : decode cX8_commonDivisor 26 = .ok (.iinc 4 1, 3) := by decide +kernel
theorem dX8_commonDivisor_29 : decode cX8_commonDivisor 29 = .ok (.goto (-26), 3) := by decide +kernel
theorem dX8_commonDivisor_32 : decode cX8_commonDivisor 32 = .ok (.lload_n 0, 1) := by decide +kernel
theorem dX8_commonDivisor_33 : decode cX8_commonDivisor 33 = .ok (.lreturn, 1) := by decide +kernel
theorem dX8_signsOf_0 : decode cX8_signsOf 0 = .ok (.aload_n 0, 1) := by decide +kernel
theorem dX8_signsOf_1 : decode cX8_signsOf 1 = .ok (.getfield 33, 3) := by decide +kernel
theorem dX8_signsOf_4 : decode cX8_signsOf 4 = .ok (.getfield 155, 3) := by decide +kernel
theorem dX8_signsOf_7 : decode cX8_signsOf 7 = .ok (.iload_n 1, 1) := by decide +kernel
theorem dX8_signsOf_8 : decode cX8_signsOf 8 = .ok (.invokestatic 110, 3) := by decide +kernel
theorem dX8_signsOf_11 : decode cX8_signsOf 11 = .ok (.ireturn, 1) := by decide +kernel
theorem dX8_hasEnough_0 : decode cX8_hasEnough 0 = .ok (.iload_n 1, 1) := by decide +kernel
theorem dX8_hasEnough_1 : decode cX8_hasEnough 1 = .ok (.aload_n 0, 1) := by decide +kernel
theorem dX8_hasEnough_2 : decode cX8_hasEnough 2 = .ok (.getfield 33, 3) := by decide +kernel
theorem dX8_hasEnough_5 : decode cX8_hasEnough 5 = .ok (.getfield 142, 3) := by decide +kernel
theorem dX8_hasEnough_8 : decode cX8_hasEnough 8 = .ok (.iload_n 2, 1) := by decide +kernel
theorem dX8_hasEnough_9 : decode cX8_hasEnough 9 = .ok (.invokestatic 110, 3) := by decide +kernel
theorem dX8_hasEnough_12 : decode cX8_hasEnough 12 = .ok (.iand, 1) := by decide +kernel
theorem dX8_hasEnough_13 : decode cX8_hasEnough 13 = .ok (.invokestatic 175, 3) := by decide +kernel
theorem dX8_hasEnough_16 : decode cX8_hasEnough 16 = .ok (.aload_n 0, 1) := by decide +kernel
theorem dX8_hasEnough_17 : decode cX8_hasEnough 17 = .ok (.getfield 33, 3) := by decide +kernel
theorem dX8_hasEnough_20 : decode cX8_hasEnough 20 = .ok (.getfield 145, 3) := by decide +kernel
theorem dX8_hasEnough_23 : decode cX8_hasEnough 23 = .ok (.iload_n 2, 1) := by decide +kernel
theorem dX8_hasEnough_24 : decode cX8_hasEnough 24 = .ok (.invokestatic 110, 3) := by decide +kernel
theorem dX8_hasEnough_27 : decode cX8_hasEnough 27 = .ok (.if_icmp .lt 7, 3) := by decide +kernel
theorem dX8_hasEnough_30 : decode cX8_hasEnough 30 = .ok (.iconst 1, 1) := by decide +kernel
theorem dX8_hasEnough_31 : decode cX8_hasEnough 31 = .ok (.goto 4, 3) := by decide +kernel
theorem dX8_hasEnough_34 : decode cX8_hasEnough 34 = .ok (.iconst 0, 1) := by decide +kernel
theorem dX8_hasEnough_35 : decode cX8_hasEnough 35 = .ok (.ireturn, 1) := by decide +kernel
theorem dX8_rulesMet_0 : decode cX8_rulesMet 0 = .ok (.iconst 0, 1) := by decide +kernel
theorem dX8_rulesMet_1 : decode cX8_rulesMet 1 = .ok (.istore_n 2, 1) := by decide +kernel
theorem dX8_rulesMet_2 : decode cX8_rulesMet 2 = .ok (.iconst 0, 1) := by decide +kernel
theorem dX8_rulesMet_3 : decode cX8_rulesMet 3 = .ok (.istore_n 3, 1) := by decide +kernel
theorem dX8_rulesMet_4 : decode cX8_rulesMet 4 = .ok (.iload_n 3, 1) := by decide +kernel
theorem dX8_rulesMet_5 : decode cX8_rulesMet 5 = .ok (.aload_n 0, 1) := by decide +kernel
theorem dX8_rulesMet_6 : decode cX8_rulesMet 6 = .ok (.getfield 19, 3) := by decide +kernel
theorem dX8_rulesMet_9 : decode cX8_rulesMet 9 = .ok (.getfield 263, 3) := by decide +kernel
theorem dX8_rulesMet_12 : decode cX8_rulesMet 12 = .ok (.if_icmp .ge 21, 3) := by decide +kernel
theorem dX8_rulesMet_15 : decode cX8_rulesMet 15 = .ok (.aload_n 0, 1) := by decide +kernel
theorem dX8_rulesMet_16 : decode cX8_rulesMet 16 = .ok (.iload_n 1, 1) := by decide +kernel
theorem dX8_rulesMet_17 : decode cX8_rulesMet 17 = .ok (.iload_n 3, 1) := by decide +kernel
theorem dX8_rulesMet_18 : decode cX8_rulesMet 18 = .ok (.invokevirtual 279, 3) := by decide +kernel
theorem dX8_rulesMet_21 : decode cX8_rulesMet 21 = .ok (.ifCond .eq 6, 3) := by decide +kernel
theorem dX8_rulesMet_24 : decode cX8_rulesMet 24 = .ok (.iinc 2 1, 3) := by decide +kernel
theorem dX8_rulesMet_27 : decode cX8_rulesMet 27 = .ok (.iinc 3 1, 3) := by decide +kernel
theorem dX8_rulesMet_30 : decode cX8_rulesMet 30 = .ok (.goto (-26), 3) := by decide +kernel
theorem dX8_rulesMet_33 : decode cX8_rulesMet 33 = .ok (.iload_n 2, 1) := by decide +kernel
theorem dX8_rulesMet_34 : decode cX8_rulesMet 34 = .ok (.ireturn, 1) := by decide +kernel
theorem dX8_isLetIn_0 : decode cX8_isLetIn 0 = .ok (.aload_n 0, 1) := by decide +kernel
theorem dX8_isLetIn_1 : decode cX8_isLetIn 1 = .ok (.iload_n 1, 1) := by decide +kernel
theorem dX8_isLetIn_2 : decode cX8_isLetIn 2 = .ok (.invokevirtual 282, 3) := by decide +kernel
theorem dX8_isLetIn_5 : decode cX8_isLetIn 5 = .ok (.aload_n 0, 1) := by decide +kernel
theorem dX8_isLetIn_6 : decode cX8_isLetIn 6 = .ok (.getfield 19, 3) := by decide +kernel
theorem dX8_isLetIn_9 : decode cX8_isLetIn 9 = .ok (.getfield 263, 3) := by decide +kernel
theorem dX8_isLetIn_12 : decode cX8_isLetIn 12 = .ok (.if_icmp .ne 7, 3) := by decide +kernel
theorem dX8_isLetIn_15 : decode cX8_isLetIn 15 = .ok (.iconst 1, 1) := by decide +kernel
theorem dX8_isLetIn_16 : decode cX8_isLetIn 16 = .ok (.goto 4, 3) := by decide +kernel
theorem dX8_isLetIn_19 : decode cX8_isLetIn 19 = .ok (.iconst 0, 1) := by decide +kernel
theorem dX8_isLetIn_20 : decode cX8_isLetIn 20 = .ok (.ireturn, 1) := by decide +kernel
theorem dX8_letIn_0 : decode cX8_letIn 0 = .ok (.iconst 0, 1) := by decide +kernel
theorem dX8_letIn_1 : decode cX8_letIn 1 = .ok (.istore_n 1, 1) := by decide +kernel
theorem dX8_letIn_2 : decode cX8_letIn 2 = .ok (.iconst 0, 1) := by decide +kernel
theorem dX8_letIn_3 : decode cX8_letIn 3 = .ok (.istore_n 2, 1) := by decide +kernel
theorem dX8_letIn_4 : decode cX8_letIn 4 = .ok (.iload_n 2, 1) := by decide +kernel
theorem dX8_letIn_5 : decode cX8_letIn 5 = .ok (.aload_n 0, 1) := by decide +kernel
theorem dX8_letIn_6 : decode cX8_letIn 6 = .ok (.getfield 19, 3) := by decide +kernel
theorem dX8_letIn_9 : decode cX8_letIn 9 = .ok (.getfield 226, 3) := by decide +kernel
theorem dX8_letIn_12 : decode cX8_letIn 12 = .ok (.if_icmp .ge 27, 3) := by decide +kernel
theorem dX8_letIn_15 : decode cX8_letIn 15 = .ok (.aload_n 0, 1) := by decide +kernel
theorem dX8_letIn_16 : decode cX8_letIn 16 = .ok (.aload_n 0, 1) := by decide +kernel
theorem dX8_letIn_17 : decode cX8_letIn 17 = .ok (.iload_n 2, 1) := by decide +kernel
theorem dX8_letIn_18 : decode cX8_letIn 18 = .ok (.invokevirtual 114, 3) := by decide +kernel
theorem dX8_letIn_21 : decode cX8_letIn 21 = .ok (.invokevirtual 121, 3) := by decide +kernel
theorem dX8_letIn_24 : decode cX8_letIn 24 = .ok (.ifCond .eq 9, 3) := by decide +kernel
theorem dX8_letIn_27 : decode cX8_letIn 27 = .ok (.iload_n 1, 1) := by decide +kernel
theorem dX8_letIn_28 : decode cX8_letIn 28 = .ok (.iconst 1, 1) := by decide +kernel
theorem dX8_letIn_29 : decode cX8_letIn 29 = .ok (.iload_n 2, 1) := by decide +kernel
theorem dX8_letIn_30 : decode cX8_letIn 30 = .ok (.ishl, 1) := by decide +kernel
theorem dX8_letIn_31 : decode cX8_letIn 31 = .ok (.ior, 1) := by decide +kernel
theorem dX8_letIn_32 : decode cX8_letIn 32 = .ok (.istore_n 1, 1) := by decide +kernel
theorem dX8_letIn_33 : decode cX8_letIn 33 = .ok (.iinc 2 1, 3) := by decide +kernel
theorem dX8_letIn_36 : decode cX8_letIn 36 = .ok (.goto (-32), 3) := by decide +kernel
theorem dX8_letIn_39 : decode cX8_letIn 39 = .ok (.iload_n 1, 1) := by decide +kernel
theorem dX8_letIn_40 : decode cX8_letIn 40 = .ok (.ireturn, 1) := by decide +kernel
theorem dX8_rightOnes_0 : decode cX8_rightOnes 0 = .ok (.iconst 0, 1) := by decide +kernel
theorem dX8_rightOnes_1 : decode cX8_rightOnes 1 = .ok (.istore_n 1, 1) := by decide +kernel
theorem dX8_rightOnes_2 : decode cX8_rightOnes 2 = .ok (.iconst 0, 1) := by decide +kernel
theorem dX8_rightOnes_3 : decode cX8_rightOnes 3 = .ok (.istore_n 2, 1) := by decide +kernel
theorem dX8_rightOnes_4 : decode cX8_rightOnes 4 = .ok (.iload_n 2, 1) := by decide +kernel
theorem dX8_rightOnes_5 : decode cX8_rightOnes 5 = .ok (.aload_n 0, 1) := by decide +kernel
theorem dX8_rightOnes_6 : decode cX8_rightOnes 6 = .ok (.getfield 19, 3) := by decide +kernel
theorem dX8_rightOnes_9 : decode cX8_rightOnes 9 = .ok (.getfield 226, 3) := by decide +kernel
theorem dX8_rightOnes_12 : decode cX8_rightOnes 12 = .ok (.if_icmp .ge 30, 3) := by decide +kernel
theorem dX8_rightOnes_15 : decode cX8_rightOnes 15 = .ok (.aload_n 0, 1) := by decide +kernel
theorem dX8_rightOnes_16 : decode cX8_rightOnes 16 = .ok (.getfield 19, 3) := by decide +kernel
theorem dX8_rightOnes_19 : decode cX8_rightOnes 19 = .ok (.getfield 107, 3) := by decide +kernel
theorem dX8_rightOnes_22 : decode cX8_rightOnes 22 = .ok (.iload_n 2, 1) := by decide +kernel
theorem dX8_rightOnes_23 : decode cX8_rightOnes 23 = .ok (.invokestatic 110, 3) := by decide +kernel
theorem dX8_rightOnes_26 : decode cX8_rightOnes 26 = .ok (.iconst 1, 1) := by decide +kernel
theorem dX8_rightOnes_27 : decode cX8_rightOnes 27 = .ok (.if_icmp .ne 9, 3) := by decide +kernel
theorem dX8_rightOnes_30 : decode cX8_rightOnes 30 = .ok (.iload_n 1, 1) := by decide +kernel
theorem dX8_rightOnes_31 : decode cX8_rightOnes 31 = .ok (.iconst 1, 1) := by decide +kernel
theorem dX8_rightOnes_32 : decode cX8_rightOnes 32 = .ok (.iload_n 2, 1) := by decide +kernel
theorem dX8_rightOnes_33 : decode cX8_rightOnes 33 = .ok (.ishl, 1) := by decide +kernel
theorem dX8_rightOnes_34 : decode cX8_rightOnes 34 = .ok (.ior, 1) := by decide +kernel
theorem dX8_rightOnes_35 : decode cX8_rightOnes 35 = .ok (.istore_n 1, 1) := by decide +kernel
theorem dX8_rightOnes_36 : decode cX8_rightOnes 36 = .ok (.iinc 2 1, 3) := by decide +kernel
theorem dX8_rightOnes_39 : decode cX8_rightOnes 39 = .ok (.goto (-35), 3) := by decide +kernel
theorem dX8_rightOnes_42 : decode cX8_rightOnes 42 = .ok (.iload_n 1, 1) := by decide +kernel
theorem dX8_rightOnes_43 : decode cX8_rightOnes 43 = .ok (.ireturn, 1) := by decide +kernel
theorem dX8_signsOfRules_0 : decode cX8_signsOfRules 0 = .ok (.iconst 0, 1) := by decide +kernel
theorem dX8_signsOfRules_1 : decode cX8_signsOfRules 1 = .ok (.istore_n 1, 1) := by decide +kernel
theorem dX8_signsOfRules_2 : decode cX8_signsOfRules 2 = .ok (.iconst 0, 1) := by decide +kernel
theorem dX8_signsOfRules_3 : decode cX8_signsOfRules 3 = .ok (.istore_n 2, 1) := by decide +kernel
theorem dX8_signsOfRules_4 : decode cX8_signsOfRules 4 = .ok (.iload_n 2, 1) := by decide +kernel
theorem dX8_signsOfRules_5 : decode cX8_signsOfRules 5 = .ok (.aload_n 0, 1) := by decide +kernel
theorem dX8_signsOfRules_6 : decode cX8_signsOfRules 6 = .ok (.getfield 19, 3) := by decide +kernel
theorem dX8_signsOfRules_9 : decode cX8_signsOfRules 9 = .ok (.getfield 263, 3) := by decide +kernel
theorem dX8_signsOfRules_12 : decode cX8_signsOfRules 12 = .ok (.if_icmp .ge 23, 3) := by decide +kernel
theorem dX8_signsOfRules_15 : decode cX8_signsOfRules 15 = .ok (.iload_n 1, 1) := by decide +kernel
theorem dX8_signsOfRules_16 : decode cX8_signsOfRules 16 = .ok (.aload_n 0, 1) := by decide +kernel
theorem dX8_signsOfRules_17 : decode cX8_signsOfRules 17 = .ok (.getfield 33, 3) := by decide +kernel
theorem dX8_signsOfRules_20 : decode cX8_signsOfRules 20 = .ok (.getfield 142, 3) := by decide +kernel
theorem dX8_signsOfRules_23 : decode cX8_signsOfRules 23 = .ok (.iload_n 2, 1) := by decide +kernel
theorem dX8_signsOfRules_24 : decode cX8_signsOfRules 24 = .ok (.invokestatic 110, 3) := by decide +kernel
theorem dX8_signsOfRules_27 : decode cX8_signsOfRules 27 = .ok (.ior, 1) := by decide +kernel
theorem dX8_signsOfRules_28 : decode cX8_signsOfRules 28 = .ok (.istore_n 1, 1) := by decide +kernel
theorem dX8_signsOfRules_29 : decode cX8_signsOfRules 29 = .ok (.iinc 2 1, 3) := by decide +kernel
theorem dX8_signsOfRules_32 : decode cX8_signsOfRules 32 = .ok (.goto (-28), 3) := by decide +kernel
theorem dX8_signsOfRules_35 : decode cX8_signsOfRules 35 = .ok (.iload_n 1, 1) := by decide +kernel
theorem dX8_signsOfRules_36 : decode cX8_signsOfRules 36 = .ok (.ireturn, 1) := by decide +kernel
theorem dX8_remember_0 : decode cX8_remember 0 = .ok (.aload_n 0, 1) := by decide +kernel
theorem dX8_remember_1 : decode cX8_remember 1 = .ok (.getfield 42, 3) := by decide +kernel
theorem dX8_remember_4 : decode cX8_remember 4 = .ok (.aload_n 0, 1) := by decide +kernel
theorem dX8_remember_5 : decode cX8_remember 5 = .ok (.getfield 183, 3) := by decide +kernel
theorem dX8_remember_8 : decode cX8_remember 8 = .ok (.aload_n 0, 1) := by decide +kernel
theorem dX8_remember_9 : decode cX8_remember 9 = .ok (.getfield 33, 3) := by decide +kernel
theorem dX8_remember_12 : decode cX8_remember 12 = .ok (.invokevirtual 260, 3) := by decide +kernel
theorem dX8_remember_15 : decode cX8_remember 15 = .ok (.aload_n 0, 1) := by decide +kernel
theorem dX8_remember_16 : decode cX8_remember 16 = .ok (.aload_n 0, 1) := by decide +kernel
theorem dX8_remember_17 : decode cX8_remember 17 = .ok (.getfield 183, 3) := by decide +kernel
theorem dX8_remember_20 : decode cX8_remember 20 = .ok (.bipush 9, 2) := by decide +kernel
theorem dX8_remember_22 : decode cX8_remember 22 = .ok (.if_icmp .ne 7, 3) := by decide +kernel
theorem dX8_remember_25 : decode cX8_remember 25 = .ok (.iconst 0, 1) := by decide +kernel
theorem dX8_remember_26 : decode cX8_remember 26 = .ok (.goto 9, 3) := by decide +kernel
theorem dX8_remember_29 : decode cX8_remember 29 = .ok (.aload_n 0, 1) := by decide +kernel
theorem dX8_remember_30 : decode cX8_remember 30 = .ok (.getfield 183, 3) := by decide +kernel
theorem dX8_remember_33 : decode cX8_remember 33 = .ok (.iconst 1, 1) := by decide +kernel
theorem dX8_remember_34 : decode cX8_remember 34 = .ok (.iadd, 1) := by decide +kernel
theorem dX8_remember_35 : decode cX8_remember 35 = .ok (.putfield 183, 3) := by decide +kernel
theorem dX8_remember_38 : decode cX8_remember 38 = .ok (.aload_n 0, 1) := by decide +kernel
theorem dX8_remember_39 : decode cX8_remember 39 = .ok (.aload_n 0, 1) := by decide +kernel
theorem dX8_remember_40 : decode cX8_remember 40 = .ok (.getfield 94, 3) := by decide +kernel
theorem dX8_remember_43 : decode cX8_remember 43 = .ok (.iconst 1, 1) := by decide +kernel
theorem dX8_remember_44 : decode cX8_remember 44 = .ok (.iadd, 1) := by decide +kernel
theorem dX8_remember_45 : decode cX8_remember 45 = .ok (.bipush 10, 2) := by decide +kernel
theorem dX8_remember_47 : decode cX8_remember 47 = .ok (.invokestatic 270, 3) := by decide +kernel
theorem dX8_remember_50 : decode cX8_remember 50 = .ok (.putfield 94, 3) := by decide +kernel
theorem dX8_remember_53 : decode cX8_remember 53 = .ok (.return_, 1) := by decide +kernel
theorem dX8_soonestSet_0 : decode cX8_soonestSet 0 = .ok (.aload_n 0, 1) := by decide +kernel
theorem dX8_soonestSet_1 : decode cX8_soonestSet 1 = .ok (.getfield 52, 3) := by decide +kernel
theorem dX8_soonestSet_4 : decode cX8_soonestSet 4 = .ok (.aload_n 0, 1) := by decide +kernel
theorem dX8_soonestSet_5 : decode cX8_soonestSet 5 = .ok (.getfield 19, 3) := by decide +kernel
theorem dX8_soonestSet_8 : decode cX8_soonestSet 8 = .ok (.aload_n 0, 1) := by decide +kernel
theorem dX8_soonestSet_9 : decode cX8_soonestSet 9 = .ok (.iload_n 1, 1) := by decide +kernel
theorem dX8_soonestSet_10 : decode cX8_soonestSet 10 = .ok (.invokevirtual 114, 3) := by decide +kernel
theorem dX8_soonestSet_13 : decode cX8_soonestSet 13 = .ok (.iload_n 2, 1) := by decide +kernel
theorem dX8_soonestSet_14 : decode cX8_soonestSet 14 = .ok (.invokevirtual 285, 3) := by decide +kernel
theorem dX8_soonestSet_17 : decode cX8_soonestSet 17 = .ok (.iconst (-1), 1) := by decide +kernel
theorem dX8_soonestSet_18 : decode cX8_soonestSet 18 = .ok (.istore_n 3, 1) := by decide +kernel
theorem dX8_soonestSet_19 : decode cX8_soonestSet 19 = .ok (.iconst 0, 1) := by decide +kernel
theorem dX8_soonestSet_20 : decode cX8_soonestSet 20 = .ok (.istore 4, 2) := by decide +kernel
theorem dX8_soonestSet_22 : decode cX8_soonestSet 22 = .ok (.iload 4, 2) := by decide +kernel
theorem dX8_soonestSet_24 : decode cX8_soonestSet 24 = .ok (.aload_n 0, 1) := by decide +kernel
theorem dX8_soonestSet_25 : decode cX8_soonestSet 25 = .ok (.getfield 52, 3) := by decide +kernel
theorem dX8_soonestSet_28 : decode cX8_soonestSet 28 = .ok (.getfield 289, 3) := by decide +kernel
theorem dX8_soonestSet_31 : decode cX8_soonestSet 31 = .ok (.if_icmp .ge 85, 3) := by decide +kernel
theorem dX8_soonestSet_34 : decode cX8_soonestSet 34 = .ok (.iload_n 3, 1) := by decide +kernel
theorem dX8_soonestSet_35 : decode cX8_soonestSet 35 = .ok (.ifCond .lt 29, 3) := by decide +kernel
theorem dX8_soonestSet_38 : decode cX8_soonestSet 38 = .ok (.aload_n 0, 1) := by decide +kernel
theorem dX8_soonestSet_39 : decode cX8_soonestSet 39 = .ok (.getfield 52, 3) := by decide +kernel
theorem dX8_soonestSet_42 : decode cX8_soonestSet 42 = .ok (.getfield 197, 3) := by decide +kernel
theorem dX8_soonestSet_45 : decode cX8_soonestSet 45 = .ok (.iload 4, 2) := by decide +kernel
theorem dX8_soonestSet_47 : decode cX8_soonestSet 47 = .ok (.invokestatic 110, 3) := by decide +kernel
theorem dX8_soonestSet_50 : decode cX8_soonestSet 50 = .ok (.aload_n 0, 1) := by decide +kernel
theorem dX8_soonestSet_51 : decode cX8_soonestSet 51 = .ok (.getfield 52, 3) := by decide +kernel
theorem dX8_soonestSet_54 : decode cX8_soonestSet 54 = .ok (.getfield 197, 3) := by decide +kernel
theorem dX8_soonestSet_57 : decode cX8_soonestSet 57 = .ok (.iload_n 3, 1) := by decide +kernel
theorem dX8_soonestSet_58 : decode cX8_soonestSet 58 = .ok (.invokestatic 110, 3) := by decide +kernel
theorem dX8_soonestSet_61 : decode cX8_soonestSet 61 = .ok (.if_icmp .ge 7, 3) := by decide +kernel
theorem dX8_soonestSet_64 : decode cX8_soonestSet 64 = .ok (.iconst 1, 1) := by decide +kernel
theorem dX8_soonestSet_65 : decode cX8_soonestSet 65 = .ok (.goto 4, 3) := by decide +kernel
theorem dX8_soonestSet_68 : decode cX8_soonestSet 68 = .ok (.iconst 0, 1) := by decide +kernel
theorem dX8_soonestSet_69 : decode cX8_soonestSet 69 = .ok (.istore 5, 2) := by decide +kernel
theorem dX8_soonestSet_71 : decode cX8_soonestSet 71 = .ok (.aload_n 0, 1) := by decide +kernel
theorem dX8_soonestSet_72 : decode cX8_soonestSet 72 = .ok (.getfield 52, 3) := by decide +kernel
theorem dX8_soonestSet_75 : decode cX8_soonestSet 75 = .ok (.iload 4, 2) := by decide +kernel
theorem dX8_soonestSet_77 : decode cX8_soonestSet 77 = .ok (.invokevirtual 292, 3) := by decide +kernel
theorem dX8_soonestSet_80 : decode cX8_soonestSet 80 = .ok (.ifCond .eq 30, 3) := by decide +kernel
theorem dX8_soonestSet_83 : decode cX8_soonestSet 83 = .ok (.iload 5, 2) := by decide +kernel
theorem dX8_soonestSet_85 : decode cX8_soonestSet 85 = .ok (.ifCond .eq 25, 3) := by decide +kernel
theorem dX8_soonestSet_88 : decode cX8_soonestSet 88 = .ok (.aload_n 0, 1) := by decide +kernel
theorem dX8_soonestSet_89 : decode cX8_soonestSet 89 = .ok (.aload_n 0, 1) := by decide +kernel
theorem dX8_soonestSet_90 : decode cX8_soonestSet 90 = .ok (.getfield 52, 3) := by decide +kernel
theorem dX8_soonestSet_93 : decode cX8_soonestSet 93 = .ok (.getfield 294, 3) := by decide +kernel
theorem dX8_soonestSet_96 : decode cX8_soonestSet 96 = .ok (.iload 4, 2) := by decide +kernel
theorem dX8_soonestSet_98 : decode cX8_soonestSet 98 = .ok (.invokestatic 110, 3) := by decide +kernel
theorem dX8_soonestSet_101 : decode cX8_soonestSet 101 = .ok (.invokevirtual 121, 3) := by decide +kernel
theorem dX8_soonestSet_104 : decode cX8_soonestSet 104 = .ok (.ifCond .eq 6, 3) := by decide +kernel
theorem dX8_soonestSet_107 : decode cX8_soonestSet 107 = .ok (.iload 4, 2) := by decide +kernel
theorem dX8_soonestSet_109 : decode cX8_soonestSet 109 = .ok (.istore_n 3, 1) := by decide +kernel
theorem dX8_soonestSet_110 : decode cX8_soonestSet 110 = .ok (.iinc 4 1, 3) := by decide +kernel
theorem dX8_soonestSet_113 : decode cX8_soonestSet 113 = .ok (.goto (-91), 3) := by decide +kernel
theorem dX8_soonestSet_116 : decode cX8_soonestSet 116 = .ok (.iload_n 3, 1) := by decide +kernel
theorem dX8_soonestSet_117 : decode cX8_soonestSet 117 = .ok (.ireturn, 1) := by decide +kernel
theorem dX8_isSoon_0 : decode cX8_isSoon 0 = .ok (.aload_n 0, 1) := by decide +kernel
theorem dX8_isSoon_1 : decode cX8_isSoon 1 = .ok (.iload_n 1, 1) := by decide +kernel
theorem dX8_isSoon_2 : decode cX8_isSoon 2 = .ok (.iload_n 2, 1) := by decide +kernel
theorem dX8_isSoon_3 : decode cX8_isSoon 3 = .ok (.invokevirtual 193, 3) := by decide +kernel
theorem dX8_isSoon_6 : decode cX8_isSoon 6 = .ok (.istore 4, 2) := by decide +kernel
theorem dX8_isSoon_8 : decode cX8_isSoon 8 = .ok (.iload 4, 2) := by decide +kernel
theorem dX8_isSoon_10 : decode cX8_isSoon 10 = .ok (.ifCond .lt 23, 3) := by decide +kernel
theorem dX8_isSoon_13 : decode cX8_isSoon 13 = .ok (.aload_n 0, 1) := by decide +kernel
theorem dX8_isSoon_14 : decode cX8_isSoon 14 = .ok (.getfield 52, 3) := by decide +kernel
theorem dX8_isSoon_17 : decode cX8_isSoon 17 = .ok (.getfield 197, 3) := by decide +kernel
theorem dX8_isSoon_20 : decode cX8_isSoon 20 = .ok (.iload 4, 2) := by decide +kernel
theorem dX8_isSoon_22 : decode cX8_isSoon 22 = .ok (.invokestatic 110, 3) := by decide +kernel
theorem dX8_isSoon_25 : decode cX8_isSoon 25 = .ok (.iload_n 3, 1) := by decide +kernel
theorem dX8_isSoon_26 : decode cX8_isSoon 26 = .ok (.if_icmp .gt 7, 3) := by decide +kernel
theorem dX8_isSoon_29 : decode cX8_isSoon 29 = .ok (.iconst 1, 1) := by decide +kernel
theorem dX8_isSoon_30 : decode cX8_isSoon 30 = .ok (.goto 4, 3) := by decide +kernel
theorem dX8_isSoon_33 : decode cX8_isSoon 33 = .ok (.iconst 0, 1) := by decide +kernel
theorem dX8_isSoon_34 : decode cX8_isSoon 34 = .ok (.ireturn, 1) := by decide +kernel
theorem dX8_loneRule_0 : decode cX8_loneRule 0 = .ok (.aload_n 0, 1) := by decide +kernel
theorem dX8_loneRule_1 : decode cX8_loneRule 1 = .ok (.iload_n 1, 1) := by decide +kernel
theorem dX8_loneRule_2 : decode cX8_loneRule 2 = .ok (.invokevirtual 295, 3) := by decide +kernel
theorem dX8_loneRule_5 : decode cX8_loneRule 5 = .ok (.iconst 0, 1) := by decide +kernel
theorem dX8_loneRule_6 : decode cX8_loneRule 6 = .ok (.istore_n 3, 1) := by decide +kernel
theorem dX8_loneRule_7 : decode cX8_loneRule 7 = .ok (.iconst 0, 1) := by decide +kernel
theorem dX8_loneRule_8 : decode cX8_loneRule 8 = .ok (.istore 4, 2) := by decide +kernel
theorem dX8_loneRule_10 : decode cX8_loneRule 10 = .ok (.iconst 1, 1) := by decide +kernel
theorem dX8_loneRule_11 : decode cX8_loneRule 11 = .ok (.istore 5, 2) := by decide +kernel
theorem dX8_loneRule_13 : decode cX8_loneRule 13 = .ok (.iload 5, 2) := by decide +kernel
theorem dX8_loneRule_15 : decode cX8_loneRule 15 = .ok (.sipush 255, 3) := by decide +kernel
theorem dX8_loneRule_18 : decode cX8_loneRule 18 = .ok (.if_icmp .gt 61, 3) := by decide +kernel
theorem dX8_loneRule_21 : decode cX8_loneRule 21 = .ok (.iload_n 3, 1) := by decide +kernel
theorem dX8_loneRule_22 : decode cX8_loneRule 22 = .ok (.ifCond .eq 15, 3) := by decide +kernel
theorem dX8_loneRule_25 : decode cX8_loneRule 25 = .ok (.iload 5, 2) := by decide +kernel
theorem dX8_loneRule_27 : decode cX8_loneRule 27 = .ok (.invokestatic 175, 3) := by decide +kernel
theorem dX8_loneRule_30 : decode cX8_loneRule 30 = .ok (.iload_n 3, 1) := by decide +kernel
theorem dX8_loneRule_31 : decode cX8_loneRule 31 = .ok (.invokestatic 175, 3) := by decide +kernel
theorem dX8_loneRule_34 : decode cX8_loneRule 34 = .ok (.if_icmp .ge 7, 3) := by decide +kernel
theorem dX8_loneRule_37 : decode cX8_loneRule 37 = .ok (.iconst 1, 1) := by decide +kernel
theorem dX8_loneRule_38 : decode cX8_loneRule 38 = .ok (.goto 4, 3) := by decide +kernel
theorem dX8_loneRule_41 : decode cX8_loneRule 41 = .ok (.iconst 0, 1) := by decide +kernel
theorem dX8_loneRule_42 : decode cX8_loneRule 42 = .ok (.istore 6, 2) := by decide +kernel
theorem dX8_loneRule_44 : decode cX8_loneRule 44 = .ok (.iload 6, 2) := by decide +kernel
theorem dX8_loneRule_46 : decode cX8_loneRule 46 = .ok (.ifCond .eq 12, 3) := by decide +kernel
theorem dX8_loneRule_49 : decode cX8_loneRule 49 = .ok (.aload_n 0, 1) := by decide +kernel
theorem dX8_loneRule_50 : decode cX8_loneRule 50 = .ok (.iload 5, 2) := by decide +kernel
theorem dX8_loneRule_52 : decode cX8_loneRule 52 = .ok (.invokevirtual 298, 3) := by decide +kernel
theorem dX8_loneRule_55 : decode cX8_loneRule 55 = .ok (.goto 4, 3) := by decide +kernel
theorem dX8_loneRule_58 : decode cX8_loneRule 58 = .ok (.iconst 0, 1) := by decide +kernel
theorem dX8_loneRule_59 : decode cX8_loneRule 59 = .ok (.istore 7, 2) := by decide +kernel
theorem dX8_loneRule_61 : decode cX8_loneRule 61 = .ok (.iload 7, 2) := by decide +kernel
theorem dX8_loneRule_63 : decode cX8_loneRule 63 = .ok (.ifCond .le 10, 3) := by decide +kernel
theorem dX8_loneRule_66 : decode cX8_loneRule 66 = .ok (.iload 5, 2) := by decide +kernel
theorem dX8_loneRule_68 : decode cX8_loneRule 68 = .ok (.istore_n 3, 1) := by decide +kernel
theorem dX8_loneRule_69 : decode cX8_loneRule 69 = .ok (.iload 7, 2) := by decide +kernel
theorem dX8_loneRule_71 : decode cX8_loneRule 71 = .ok (.istore 4, 2) := by decide +kernel
theorem dX8_loneRule_73 : decode cX8_loneRule 73 = .ok (.iinc 5 1, 3) := by decide +kernel
theorem dX8_loneRule_76 : decode cX8_loneRule 76 = .ok (.goto (-63), 3) := by decide +kernel
theorem dX8_loneRule_79 : decode cX8_loneRule 79 = .ok (.iload_n 3, 1) := by decide +kernel
theorem dX8_loneRule_80 : decode cX8_loneRule 80 = .ok (.ifCond .ne 6, 3) := by decide +kernel
theorem dX8_loneRule_83 : decode cX8_loneRule 83 = .ok (.bipush (-9), 2) := by decide +kernel
theorem dX8_loneRule_85 : decode cX8_loneRule 85 = .ok (.ireturn, 1) := by decide +kernel
theorem dX8_loneRule_86 : decode cX8_loneRule 86 = .ok (.iload_n 2, 1) := by decide +kernel
theorem dX8_loneRule_87 : decode cX8_loneRule 87 = .ok (.ifCond .ne 7, 3) := by decide +kernel
theorem dX8_loneRule_90 : decode cX8_loneRule 90 = .ok (.iload_n 3, 1) := by decide +kernel
theorem dX8_loneRule_91 : decode cX8_loneRule 91 = .ok (.goto 5, 3) := by decide +kernel
theorem dX8_loneRule_94 : decode cX8_loneRule 94 = .ok (.iload 4, 2) := by decide +kernel
theorem dX8_loneRule_96 : decode cX8_loneRule 96 = .ok (.ireturn, 1) := by decide +kernel
theorem dX8_gatherCrowd_0 : decode cX8_gatherCrowd 0 = .ok (.aload_n 0, 1) := by decide +kernel
theorem dX8_gatherCrowd_1 : decode cX8_gatherCrowd 1 = .ok (.getfield 59, 3) := by decide +kernel
theorem dX8_gatherCrowd_4 : decode cX8_gatherCrowd 4 = .ok (.iconst 0, 1) := by decide +kernel
theorem dX8_gatherCrowd_5 : decode cX8_gatherCrowd 5 = .ok (.putfield 301, 3) := by decide +kernel
theorem dX8_gatherCrowd_8 : decode cX8_gatherCrowd 8 = .ok (.iconst 0, 1) := by decide +kernel
theorem dX8_gatherCrowd_9 : decode cX8_gatherCrowd 9 = .ok (.istore_n 2, 1) := by decide +kernel
theorem dX8_gatherCrowd_10 : decode cX8_gatherCrowd 10 = .ok (.iload_n 2, 1) := by decide +kernel
theorem dX8_gatherCrowd_11 : decode cX8_gatherCrowd 11 = .ok (.aload_n 0, 1) := by decide +kernel
theorem dX8_gatherCrowd_12 : decode cX8_gatherCrowd 12 = .ok (.getfield 19, 3) := by decide +kernel
theorem dX8_gatherCrowd_15 : decode cX8_gatherCrowd 15 = .ok (.getfield 226, 3) := by decide +kernel
theorem dX8_gatherCrowd_18 : decode cX8_gatherCrowd 18 = .ok (.if_icmp .ge 108, 3) := by decide +kernel
theorem dX8_gatherCrowd_21 : decode cX8_gatherCrowd 21 = .ok (.aload_n 0, 1) := by decide +kernel
theorem dX8_gatherCrowd_22 : decode cX8_gatherCrowd 22 = .ok (.getfield 19, 3) := by decide +kernel
theorem dX8_gatherCrowd_25 : decode cX8_gatherCrowd 25 = .ok (.getfield 107, 3) := by decide +kernel
theorem dX8_gatherCrowd_28 : decode cX8_gatherCrowd 28 = .ok (.iload_n 2, 1) := by decide +kernel
theorem dX8_gatherCrowd_29 : decode cX8_gatherCrowd 29 = .ok (.invokestatic 110, 3) := by decide +kernel
theorem dX8_gatherCrowd_32 : decode cX8_gatherCrowd 32 = .ok (.iconst 1, 1) := by decide +kernel
theorem dX8_gatherCrowd_33 : decode cX8_gatherCrowd 33 = .ok (.if_icmp .ne 6, 3) := by decide +kernel
theorem dX8_gatherCrowd_36 : decode cX8_gatherCrowd 36 = .ok (.goto 84, 3) := by decide +kernel
theorem dX8_gatherCrowd_39 : decode cX8_gatherCrowd 39 = .ok (.aload_n 0, 1) := by decide +kernel
theorem dX8_gatherCrowd_40 : decode cX8_gatherCrowd 40 = .ok (.getfield 52, 3) := by decide +kernel
theorem dX8_gatherCrowd_43 : decode cX8_gatherCrowd 43 = .ok (.aload_n 0, 1) := by decide +kernel
theorem dX8_gatherCrowd_44 : decode cX8_gatherCrowd 44 = .ok (.getfield 19, 3) := by decide +kernel
theorem dX8_gatherCrowd_47 : decode cX8_gatherCrowd 47 = .ok (.aload_n 0, 1) := by decide +kernel
theorem dX8_gatherCrowd_48 : decode cX8_gatherCrowd 48 = .ok (.iload_n 2, 1) := by decide +kernel
theorem dX8_gatherCrowd_49 : decode cX8_gatherCrowd 49 = .ok (.invokevirtual 114, 3) := by decide +kernel
theorem dX8_gatherCrowd_52 : decode cX8_gatherCrowd 52 = .ok (.iconst 0, 1) := by decide +kernel
theorem dX8_gatherCrowd_53 : decode cX8_gatherCrowd 53 = .ok (.invokevirtual 285, 3) := by decide +kernel
theorem dX8_gatherCrowd_56 : decode cX8_gatherCrowd 56 = .ok (.aload_n 0, 1) := by decide +kernel
theorem dX8_gatherCrowd_57 : decode cX8_gatherCrowd 57 = .ok (.getfield 52, 3) := by decide +kernel
theorem dX8_gatherCrowd_60 : decode cX8_gatherCrowd 60 = .ok (.getfield 289, 3) := by decide +kernel
theorem dX8_gatherCrowd_63 : decode cX8_gatherCrowd 63 = .ok (.iconst 1, 1) := by decide +kernel
theorem dX8_gatherCrowd_64 : decode cX8_gatherCrowd 64 = .ok (.isub, 1) := by decide +kernel
theorem dX8_gatherCrowd_65 : decode cX8_gatherCrowd 65 = .ok (.istore_n 3, 1) := by decide +kernel
theorem dX8_gatherCrowd_66 : decode cX8_gatherCrowd 66 = .ok (.iload_n 3, 1) := by decide +kernel
theorem dX8_gatherCrowd_67 : decode cX8_gatherCrowd 67 = .ok (.ifCond .lt 53, 3) := by decide +kernel
theorem dX8_gatherCrowd_70 : decode cX8_gatherCrowd 70 = .ok (.aload_n 0, 1) := by decide +kernel
theorem dX8_gatherCrowd_71 : decode cX8_gatherCrowd 71 = .ok (.getfield 52, 3) := by decide +kernel
theorem dX8_gatherCrowd_74 : decode cX8_gatherCrowd 74 = .ok (.iload_n 3, 1) := by decide +kernel
theorem dX8_gatherCrowd_75 : decode cX8_gatherCrowd 75 = .ok (.invokevirtual 292, 3) := by decide +kernel
theorem dX8_gatherCrowd_78 : decode cX8_gatherCrowd 78 = .ok (.ifCond .eq 36, 3) := by decide +kernel
theorem dX8_gatherCrowd_81 : decode cX8_gatherCrowd 81 = .ok (.aload_n 0, 1) := by decide +kernel
theorem dX8_gatherCrowd_82 : decode cX8_gatherCrowd 82 = .ok (.getfield 52, 3) := by decide +kernel
theorem dX8_gatherCrowd_85 : decode cX8_gatherCrowd 85 = .ok (.getfield 197, 3) := by decide +kernel
theorem dX8_gatherCrowd_88 : decode cX8_gatherCrowd 88 = .ok (.iload_n 3, 1) := by decide +kernel
theorem dX8_gatherCrowd_89 : decode cX8_gatherCrowd 89 = .ok (.invokestatic 110, 3) := by decide +kernel
theorem dX8_gatherCrowd_92 : decode cX8_gatherCrowd 92 = .ok (.iload_n 1, 1) := by decide +kernel
theorem dX8_gatherCrowd_93 : decode cX8_gatherCrowd 93 = .ok (.if_icmp .gt 21, 3) := by decide +kernel
theorem dX8_gatherCrowd_96 : decode cX8_gatherCrowd 96 = .ok (.aload_n 0, 1) := by decide +kernel
theorem dX8_gatherCrowd_97 : decode cX8_gatherCrowd 97 = .ok (.getfield 59, 3) := by decide +kernel
theorem dX8_gatherCrowd_100 : decode cX8_gatherCrowd 100 = .ok (.aload_n 0, 1) := by decide +kernel
theorem dX8_gatherCrowd_101 : decode cX8_gatherCrowd 101 = .ok (.getfield 52, 3) := by decide +kernel
theorem dX8_gatherCrowd_104 : decode cX8_gatherCrowd 104 = .ok (.getfield 294, 3) := by decide +kernel
theorem dX8_gatherCrowd_107 : decode cX8_gatherCrowd 107 = .ok (.iload_n 3, 1) := by decide +kernel
theorem dX8_gatherCrowd_108 : decode cX8_gatherCrowd 108 = .ok (.invokestatic 110, 3) := by decide +kernel
theorem dX8_gatherCrowd_111 : decode cX8_gatherCrowd 111 = .ok (.invokevirtual 302, 3) := by decide +kernel
theorem dX8_gatherCrowd_114 : decode cX8_gatherCrowd 114 = .ok (.iinc 3 (-1), 3) := by decide +kernel
theorem dX8_gatherCrowd_117 : decode cX8_gatherCrowd 117 = .ok (.goto (-51), 3) := by decide +kernel
theorem dX8_gatherCrowd_120 : decode cX8_gatherCrowd 120 = .ok (.iinc 2 1, 3) := by decide +kernel
theorem dX8_gatherCrowd_123 : decode cX8_gatherCrowd 123 = .ok (.goto (-113), 3) := by decide +kernel
theorem dX8_gatherCrowd_126 : decode cX8_gatherCrowd 126 = .ok (.return_, 1) := by decide +kernel
theorem dX8_leastNumber_0 : decode cX8_leastNumber 0 = .ok (.aload_n 0, 1) := by decide +kernel
theorem dX8_leastNumber_1 : decode cX8_leastNumber 1 = .ok (.getfield 59, 3) := by decide +kernel
theorem dX8_leastNumber_4 : decode cX8_leastNumber 4 = .ok (.iload_n 1, 1) := by decide +kernel
theorem dX8_leastNumber_5 : decode cX8_leastNumber 5 = .ok (.invokevirtual 303, 3) := by decide +kernel
theorem dX8_leastNumber_8 : decode cX8_leastNumber 8 = .ok (.iconst 1, 1) := by decide +kernel
theorem dX8_leastNumber_9 : decode cX8_leastNumber 9 = .ok (.iadd, 1) := by decide +kernel
theorem dX8_leastNumber_10 : decode cX8_leastNumber 10 = .ok (.istore_n 2, 1) := by decide +kernel
theorem dX8_leastNumber_11 : decode cX8_leastNumber 11 = .ok (.iload_n 2, 1) := by decide +kernel
theorem dX8_leastNumber_12 : decode cX8_leastNumber 12 = .ok (.iload_n 1, 1) := by decide +kernel
theorem dX8_leastNumber_13 : decode cX8_leastNumber 13 = .ok (.invokestatic 175, 3) := by decide +kernel
theorem dX8_leastNumber_16 : decode cX8_leastNumber 16 = .ok (.if_icmp .le 5, 3) := by decide +kernel
theorem dX8_leastNumber_19 : decode cX8_leastNumber 19 = .ok (.iconst 0, 1) := by decide +kernel
theorem dX8_leastNumber_20 : decode cX8_leastNumber 20 = .ok (.ireturn, 1) := by decide +kernel
theorem dX8_leastNumber_21 : decode cX8_leastNumber 21 = .ok (.iconst 0, 1) := by decide +kernel
theorem dX8_leastNumber_22 : decode cX8_leastNumber 22 = .ok (.istore_n 3, 1) := by decide +kernel
theorem dX8_leastNumber_23 : decode cX8_leastNumber 23 = .ok (.iload_n 3, 1) := by decide +kernel
theorem dX8_leastNumber_24 : decode cX8_leastNumber 24 = .ok (.aload_n 0, 1) := by decide +kernel
theorem dX8_leastNumber_25 : decode cX8_leastNumber 25 = .ok (.getfield 19, 3) := by decide +kernel
theorem dX8_leastNumber_28 : decode cX8_leastNumber 28 = .ok (.getfield 226, 3) := by decide +kernel
theorem dX8_leastNumber_31 : decode cX8_leastNumber 31 = .ok (.if_icmp .ge 40, 3) := by decide +kernel
theorem dX8_leastNumber_34 : decode cX8_leastNumber 34 = .ok (.aload_n 0, 1) := by decide +kernel
theorem dX8_leastNumber_35 : decode cX8_leastNumber 35 = .ok (.getfield 19, 3) := by decide +kernel
theorem dX8_leastNumber_38 : decode cX8_leastNumber 38 = .ok (.getfield 107, 3) := by decide +kernel
theorem dX8_leastNumber_41 : decode cX8_leastNumber 41 = .ok (.iload_n 3, 1) := by decide +kernel
theorem dX8_leastNumber_42 : decode cX8_leastNumber 42 = .ok (.invokestatic 110, 3) := by decide +kernel
theorem dX8_leastNumber_45 : decode cX8_leastNumber 45 = .ok (.iconst 1, 1) := by decide +kernel
theorem dX8_leastNumber_46 : decode cX8_leastNumber 46 = .ok (.if_icmp .ne 19, 3) := by decide +kernel
theorem dX8_leastNumber_49 : decode cX8_leastNumber 49 = .ok (.aload_n 0, 1) := by decide +kernel
theorem dX8_leastNumber_50 : decode cX8_leastNumber 50 = .ok (.iload_n 3, 1) := by decide +kernel
theorem dX8_leastNumber_51 : decode cX8_leastNumber 51 = .ok (.invokevirtual 114, 3) := by decide +kernel
theorem dX8_leastNumber_54 : decode cX8_leastNumber 54 = .ok (.iload_n 1, 1) := by decide +kernel
theorem dX8_leastNumber_55 : decode cX8_leastNumber 55 = .ok (.iand, 1) := by decide +kernel
theorem dX8_leastNumber_56 : decode cX8_leastNumber 56 = .ok (.invokestatic 175, 3) := by decide +kernel
theorem dX8_leastNumber_59 : decode cX8_leastNumber 59 = .ok (.iload_n 2, 1) := by decide +kernel
theorem dX8_leastNumber_60 : decode cX8_leastNumber 60 = .ok (.if_icmp .ge 5, 3) := by decide +kernel
theorem dX8_leastNumber_63 : decode cX8_leastNumber 63 = .ok (.iconst 0, 1) := by decide +kernel
theorem dX8_leastNumber_64 : decode cX8_leastNumber 64 = .ok (.ireturn, 1) := by decide +kernel
theorem dX8_leastNumber_65 : decode cX8_leastNumber 65 = .ok (.iinc 3 1, 3) := by decide +kernel
theorem dX8_leastNumber_68 : decode cX8_leastNumber 68 = .ok (.goto (-45), 3) := by decide +kernel
theorem dX8_leastNumber_71 : decode cX8_leastNumber 71 = .ok (.iload_n 2, 1) := by decide +kernel
theorem dX8_leastNumber_72 : decode cX8_leastNumber 72 = .ok (.ireturn, 1) := by decide +kernel
theorem dX8_canHaveBeen_0 : decode cX8_canHaveBeen 0 = .ok (.iconst 0, 1) := by decide +kernel
theorem dX8_canHaveBeen_1 : decode cX8_canHaveBeen 1 = .ok (.istore_n 2, 1) := by decide +kernel
theorem dX8_canHaveBeen_2 : decode cX8_canHaveBeen 2 = .ok (.iload_n 2, 1) := by decide +kernel
theorem dX8_canHaveBeen_3 : decode cX8_canHaveBeen 3 = .ok (.aload_n 0, 1) := by decide +kernel
theorem dX8_canHaveBeen_4 : decode cX8_canHaveBeen 4 = .ok (.getfield 100, 3) := by decide +kernel
theorem dX8_canHaveBeen_7 : decode cX8_canHaveBeen 7 = .ok (.if_icmp .ge 49, 3) := by decide +kernel
theorem dX8_canHaveBeen_10 : decode cX8_canHaveBeen 10 = .ok (.aload_n 0, 1) := by decide +kernel
theorem dX8_canHaveBeen_11 : decode cX8_canHaveBeen 11 = .ok (.getfield 67, 3) := by decide +kernel
theorem dX8_canHaveBeen_14 : decode cX8_canHaveBeen 14 = .ok (.iload_n 2, 1) := by decide +kernel
theorem dX8_canHaveBeen_15 : decode cX8_canHaveBeen 15 = .ok (.invokestatic 110, 3) := by decide +kernel
theorem dX8_canHaveBeen_18 : decode cX8_canHaveBeen 18 = .ok (.iconst 1, 1) := by decide +kernel
theorem dX8_canHaveBeen_19 : decode cX8_canHaveBeen 19 = .ok (.if_icmp .ne 7, 3) := by decide +kernel
theorem dX8_canHaveBeen_22 : decode cX8_canHaveBeen 22 = .ok (.iconst 1, 1) := by decide +kernel
theorem dX8_canHaveBeen_23 : decode cX8_canHaveBeen 23 = .ok (.goto 4, 3) := by decide +kernel
theorem dX8_canHaveBeen_26 : decode cX8_canHaveBeen 26 = .ok (.iconst 0, 1) := by decide +kernel
theorem dX8_canHaveBeen_27 : decode cX8_canHaveBeen 27 = .ok (.istore_n 3, 1) := by decide +kernel
theorem dX8_canHaveBeen_28 : decode cX8_canHaveBeen 28 = .ok (.aload_n 0, 1) := by decide +kernel
theorem dX8_canHaveBeen_29 : decode cX8_canHaveBeen 29 = .ok (.iload_n 1, 1) := by decide +kernel
theorem dX8_canHaveBeen_30 : decode cX8_canHaveBeen 30 = .ok (.invokevirtual 114, 3) := by decide +kernel
theorem dX8_canHaveBeen_33 : decode cX8_canHaveBeen 33 = .ok (.aload_n 0, 1) := by decide +kernel
theorem dX8_canHaveBeen_34 : decode cX8_canHaveBeen 34 = .ok (.getfield 63, 3) := by decide +kernel
theorem dX8_canHaveBeen_37 : decode cX8_canHaveBeen 37 = .ok (.iload_n 2, 1) := by decide +kernel
theorem dX8_canHaveBeen_38 : decode cX8_canHaveBeen 38 = .ok (.invokestatic 110, 3) := by decide +kernel
theorem dX8_canHaveBeen_41 : decode cX8_canHaveBeen 41 = .ok (.invokestatic 172, 3) := by decide +kernel
theorem dX8_canHaveBeen_44 : decode cX8_canHaveBeen 44 = .ok (.iload_n 3, 1) := by decide +kernel
theorem dX8_canHaveBeen_45 : decode cX8_canHaveBeen 45 = .ok (.if_icmp .eq 5, 3) := by decide +kernel
theorem dX8_canHaveBeen_48 : decode cX8_canHaveBeen 48 = .ok (.iconst 0, 1) := by decide +kernel
theorem dX8_canHaveBeen_49 : decode cX8_canHaveBeen 49 = .ok (.ireturn, 1) := by decide +kernel
theorem dX8_canHaveBeen_50 : decode cX8_canHaveBeen 50 = .ok (.iinc 2 1, 3) := by decide +kernel
theorem dX8_canHaveBeen_53 : decode cX8_canHaveBeen 53 = .ok (.goto (-51), 3) := by decide +kernel
theorem dX8_canHaveBeen_56 : decode cX8_canHaveBeen 56 = .ok (.iconst 1, 1) := by decide +kernel
theorem dX8_canHaveBeen_57 : decode cX8_canHaveBeen 57 = .ok (.ireturn, 1) := by decide +kernel
theorem dX8_worstLeft_0 : decode cX8_worstLeft 0 = .ok (.iconst 0, 1) := by decide +kernel
theorem dX8_worstLeft_1 : decode cX8_worstLeft 1 = .ok (.istore_n 3, 1) := by decide +kernel
theorem dX8_worstLeft_2 : decode cX8_worstLeft 2 = .ok (.iconst 0, 1) := by decide +kernel
theorem dX8_worstLeft_3 : decode cX8_worstLeft 3 = .ok (.istore 4, 2) := by decide +kernel
theorem dX8_worstLeft_5 : decode cX8_worstLeft 5 = .ok (.iload 4, 2) := by decide +kernel
theorem dX8_worstLeft_7 : decode cX8_worstLeft 7 = .ok (.aload_n 0, 1) := by decide +kernel
theorem dX8_worstLeft_8 : decode cX8_worstLeft 8 = .ok (.getfield 19, 3) := by decide +kernel
theorem dX8_worstLeft_11 : decode cX8_worstLeft 11 = .ok (.getfield 226, 3) := by decide +kernel
theorem dX8_worstLeft_14 : decode cX8_worstLeft 14 = .ok (.if_icmp .ge 34, 3) := by decide +kernel
theorem dX8_worstLeft_17 : decode cX8_worstLeft 17 = .ok (.iload_n 1, 1) := by decide +kernel
theorem dX8_worstLeft_18 : decode cX8_worstLeft 18 = .ok (.iload 4, 2) := by decide +kernel
theorem dX8_worstLeft_20 : decode cX8_worstLeft 20 = .ok (.invokestatic 172, 3) := by decide +kernel
theorem dX8_worstLeft_23 : decode cX8_worstLeft 23 = .ok (.ifCond .eq 19, 3) := by decide +kernel
theorem dX8_worstLeft_26 : decode cX8_worstLeft 26 = .ok (.aload_n 0, 1) := by decide +kernel
theorem dX8_worstLeft_27 : decode cX8_worstLeft 27 = .ok (.iload 4, 2) := by decide +kernel
theorem dX8_worstLeft_29 : decode cX8_worstLeft 29 = .ok (.invokevirtual 114, 3) := by decide +kernel
theorem dX8_worstLeft_32 : decode cX8_worstLeft 32 = .ok (.iload_n 2, 1) := by decide +kernel
theorem dX8_worstLeft_33 : decode cX8_worstLeft 33 = .ok (.invokestatic 172, 3) := by decide +kernel
theorem dX8_worstLeft_36 : decode cX8_worstLeft 36 = .ok (.ifCond .eq 6, 3) := by decide +kernel
theorem dX8_worstLeft_39 : decode cX8_worstLeft 39 = .ok (.iinc 3 1, 3) := by decide +kernel
theorem dX8_worstLeft_42 : decode cX8_worstLeft 42 = .ok (.iinc 4 1, 3) := by decide +kernel
theorem dX8_worstLeft_45 : decode cX8_worstLeft 45 = .ok (.goto (-40), 3) := by decide +kernel
theorem dX8_worstLeft_48 : decode cX8_worstLeft 48 = .ok (.iload_n 3, 1) := by decide +kernel
theorem dX8_worstLeft_49 : decode cX8_worstLeft 49 = .ok (.iload_n 1, 1) := by decide +kernel
theorem dX8_worstLeft_50 : decode cX8_worstLeft 50 = .ok (.invokestatic 175, 3) := by decide +kernel
theorem dX8_worstLeft_53 : decode cX8_worstLeft 53 = .ok (.iload_n 3, 1) := by decide +kernel
theorem dX8_worstLeft_54 : decode cX8_worstLeft 54 = .ok (.isub, 1) := by decide +kernel
theorem dX8_worstLeft_55 : decode cX8_worstLeft 55 = .ok (.invokestatic 306, 3) := by decide +kernel
theorem dX8_worstLeft_58 : decode cX8_worstLeft 58 = .ok (.ireturn, 1) := by decide +kernel
theorem dX8_asKnocker_0 : decode cX8_asKnocker 0 = .ok (.aload_n 0, 1) := by decide +kernel
theorem dX8_asKnocker_1 : decode cX8_asKnocker 1 = .ok (.dup, 1) := by decide +kernel
theorem dX8_asKnocker_2 : decode cX8_asKnocker 2 = .ok (.getfield 266, 3) := by decide +kernel
theorem dX8_asKnocker_5 : decode cX8_asKnocker 5 = .ok (.lconst 1, 1) := by decide +kernel
theorem dX8_asKnocker_6 : decode cX8_asKnocker 6 = .ok (.ladd, 1) := by decide +kernel
theorem dX8_asKnocker_7 : decode cX8_asKnocker 7 = .ok (.putfield 266, 3) := by decide +kernel
theorem dX8_asKnocker_10 : decode cX8_asKnocker 10 = .ok (.aload_n 0, 1) := by decide +kernel
theorem dX8_asKnocker_11 : decode cX8_asKnocker 11 = .ok (.iload_n 1, 1) := by decide +kernel
theorem dX8_asKnocker_12 : decode cX8_asKnocker 12 = .ok (.invokevirtual 114, 3) := by decide +kernel
theorem dX8_asKnocker_15 : decode cX8_asKnocker 15 = .ok (.invokestatic 175, 3) := by decide +kernel
theorem dX8_asKnocker_18 : decode cX8_asKnocker 18 = .ok (.ireturn, 1) := by decide +kernel
theorem dX8_asMother_0 : decode cX8_asMother 0 = .ok (.aload_n 0, 1) := by decide +kernel
theorem dX8_asMother_1 : decode cX8_asMother 1 = .ok (.dup, 1) := by decide +kernel
theorem dX8_asMother_2 : decode cX8_asMother 2 = .ok (.getfield 266, 3) := by decide +kernel
theorem dX8_asMother_5 : decode cX8_asMother 5 = .ok (.ldc2_w 308, 3) := by decide +kernel
theorem dX8_asMother_8 : decode cX8_asMother 8 = .ok (.ladd, 1) := by decide +kernel
theorem dX8_asMother_9 : decode cX8_asMother 9 = .ok (.putfield 266, 3) := by decide +kernel
theorem dX8_asMother_12 : decode cX8_asMother 12 = .ok (.aload_n 0, 1) := by decide +kernel
theorem dX8_asMother_13 : decode cX8_asMother 13 = .ok (.iload_n 1, 1) := by decide +kernel
theorem dX8_asMother_14 : decode cX8_asMother 14 = .ok (.invokevirtual 239, 3) := by decide +kernel
theorem dX8_asMother_17 : decode cX8_asMother 17 = .ok (.aload_n 0, 1) := by decide +kernel
theorem dX8_asMother_18 : decode cX8_asMother 18 = .ok (.aload_n 0, 1) := by decide +kernel
theorem dX8_asMother_19 : decode cX8_asMother 19 = .ok (.iload_n 1, 1) := by decide +kernel
theorem dX8_asMother_20 : decode cX8_asMother 20 = .ok (.invokevirtual 114, 3) := by decide +kernel
theorem dX8_asMother_23 : decode cX8_asMother 23 = .ok (.invokevirtual 282, 3) := by decide +kernel
theorem dX8_asMother_26 : decode cX8_asMother 26 = .ok (.iadd, 1) := by decide +kernel
theorem dX8_asMother_27 : decode cX8_asMother 27 = .ok (.ireturn, 1) := by decide +kernel
theorem dX8_asWolf_0 : decode cX8_asWolf 0 = .ok (.aload_n 0, 1) := by decide +kernel
theorem dX8_asWolf_1 : decode cX8_asWolf 1 = .ok (.dup, 1) := by decide +kernel
theorem dX8_asWolf_2 : decode cX8_asWolf 2 = .ok (.getfield 266, 3) := by decide +kernel
theorem dX8_asWolf_5 : decode cX8_asWolf 5 = .ok (.ldc2_w 310, 3) := by decide +kernel
theorem dX8_asWolf_8 : decode cX8_asWolf 8 = .ok (.ladd, 1) := by decide +kernel
theorem dX8_asWolf_9 : decode cX8_asWolf 9 = .ok (.putfield 266, 3) := by decide +kernel
theorem dX8_asWolf_12 : decode cX8_asWolf 12 = .ok (.aload_n 0, 1) := by decide +kernel
theorem dX8_asWolf_13 : decode cX8_asWolf 13 = .ok (.iload_n 1, 1) := by decide +kernel
theorem dX8_asWolf_14 : decode cX8_asWolf 14 = .ok (.invokevirtual 239, 3) := by decide +kernel
theorem dX8_asWolf_17 : decode cX8_asWolf 17 = .ok (.aload_n 0, 1) := by decide +kernel
theorem dX8_asWolf_18 : decode cX8_asWolf 18 = .ok (.getfield 33, 3) := by decide +kernel
theorem dX8_asWolf_21 : decode cX8_asWolf 21 = .ok (.getfield 118, 3) := by decide +kernel
theorem dX8_asWolf_24 : decode cX8_asWolf 24 = .ok (.iload_n 1, 1) := by decide +kernel
theorem dX8_asWolf_25 : decode cX8_asWolf 25 = .ok (.invokestatic 110, 3) := by decide +kernel
theorem dX8_asWolf_28 : decode cX8_asWolf 28 = .ok (.isub, 1) := by decide +kernel
theorem dX8_asWolf_29 : decode cX8_asWolf 29 = .ok (.ireturn, 1) := by decide +kernel
theorem dX8_asAunt_0 : decode cX8_asAunt 0 = .ok (.aload_n 0, 1) := by decide +kernel
theorem dX8_asAunt_1 : decode cX8_asAunt 1 = .ok (.dup, 1) := by decide +kernel
theorem dX8_asAunt_2 : decode cX8_asAunt 2 = .ok (.getfield 266, 3) := by decide +kernel
theorem dX8_asAunt_5 : decode cX8_asAunt 5 = .ok (.ldc2_w 312, 3) := by decide +kernel
theorem dX8_asAunt_8 : decode cX8_asAunt 8 = .ok (.ladd, 1) := by decide +kernel
theorem dX8_asAunt_9 : decode cX8_asAunt 9 = .ok (.putfield 266, 3) := by decide +kernel
theorem dX8_asAunt_12 : decode cX8_asAunt 12 = .ok (.iconst 2, 1) := by decide +kernel
theorem dX8_asAunt_13 : decode cX8_asAunt 13 = .ok (.aload_n 0, 1) := by decide +kernel
theorem dX8_asAunt_14 : decode cX8_asAunt 14 = .ok (.iload_n 1, 1) := by decide +kernel
theorem dX8_asAunt_15 : decode cX8_asAunt 15 = .ok (.invokevirtual 242, 3) := by decide +kernel
theorem dX8_asAunt_18 : decode cX8_asAunt 18 = .ok (.imul, 1) := by decide +kernel
theorem dX8_asAunt_19 : decode cX8_asAunt 19 = .ok (.ireturn, 1) := by decide +kernel
theorem dX8_asMiller_0 : decode cX8_asMiller 0 = .ok (.aload_n 0, 1) := by decide +kernel
theorem dX8_asMiller_1 : decode cX8_asMiller 1 = .ok (.dup, 1) := by decide +kernel
theorem dX8_asMiller_2 : decode cX8_asMiller 2 = .ok (.getfield 266, 3) := by decide +kernel
theorem dX8_asMiller_5 : decode cX8_asMiller 5 = .ok (.ldc2_w 314, 3) := by decide +kernel
theorem dX8_asMiller_8 : decode cX8_asMiller 8 = .ok (.ladd, 1) := by decide +kernel
theorem dX8_asMiller_9 : decode cX8_asMiller 9 = .ok (.putfield 266, 3) := by decide +kernel
theorem dX8_asMiller_12 : decode cX8_asMiller 12 = .ok (.aload_n 0, 1) := by decide +kernel
theorem dX8_asMiller_13 : decode cX8_asMiller 13 = .ok (.iload_n 1, 1) := by decide +kernel
theorem dX8_asMiller_14 : decode cX8_asMiller 14 = .ok (.invokevirtual 245, 3) := by decide +kernel
theorem dX8_asMiller_17 : decode cX8_asMiller 17 = .ok (.iload_n 1, 1) := by decide +kernel
theorem dX8_asMiller_18 : decode cX8_asMiller 18 = .ok (.iadd, 1) := by decide +kernel
theorem dX8_asMiller_19 : decode cX8_asMiller 19 = .ok (.ireturn, 1) := by decide +kernel
theorem dX8_asFox_0 : decode cX8_asFox 0 = .ok (.aload_n 0, 1) := by decide +kernel
theorem dX8_asFox_1 : decode cX8_asFox 1 = .ok (.dup, 1) := by decide +kernel
theorem dX8_asFox_2 : decode cX8_asFox 2 = .ok (.getfield 266, 3) := by decide +kernel
theorem dX8_asFox_5 : decode cX8_asFox 5 = .ok (.ldc2_w 316, 3) := by decide +kernel
theorem dX8_asFox_8 : decode cX8_asFox 8 = .ok (.ladd, 1) := by decide +kernel
theorem dX8_asFox_9 : decode cX8_asFox 9 = .ok (.putfield 266, 3) := by decide +kernel
theorem dX8_asFox_12 : decode cX8_asFox 12 = .ok (.aload_n 0, 1) := by decide +kernel
theorem dX8_asFox_13 : decode cX8_asFox 13 = .ok (.iload_n 1, 1) := by decide +kernel
theorem dX8_asFox_14 : decode cX8_asFox 14 = .ok (.invokevirtual 239, 3) := by decide +kernel
theorem dX8_asFox_17 : decode cX8_asFox 17 = .ok (.aload_n 0, 1) := by decide +kernel
theorem dX8_asFox_18 : decode cX8_asFox 18 = .ok (.iload_n 1, 1) := by decide +kernel
theorem dX8_asFox_19 : decode cX8_asFox 19 = .ok (.invokevirtual 114, 3) := by decide +kernel
theorem dX8_asFox_22 : decode cX8_asFox 22 = .ok (.aload_n 0, 1) := by decide +kernel
theorem dX8_asFox_23 : decode cX8_asFox 23 = .ok (.getfield 19, 3) := by decide +kernel
theorem dX8_asFox_26 : decode cX8_asFox 26 = .ok (.getfield 162, 3) := by decide +kernel
theorem dX8_asFox_29 : decode cX8_asFox 29 = .ok (.iand, 1) := by decide +kernel
theorem dX8_asFox_30 : decode cX8_asFox 30 = .ok (.invokestatic 175, 3) := by decide +kernel
theorem dX8_asFox_33 : decode cX8_asFox 33 = .ok (.iadd, 1) := by decide +kernel
theorem dX8_asFox_34 : decode cX8_asFox 34 = .ok (.ireturn, 1) := by decide +kernel
theorem dX9_init_0 : decode cX9_init 0 = .ok (.aload_n 0, 1) := by decide +kernel
theorem dX9_init_1 : decode cX9_init 1 = .ok (.invokespecial 1, 3) := by decide +kernel
theorem dX9_init_4 : decode cX9_init 4 = .ok (.aload_n 0, 1) := by decide +kernel
theorem dX9_init_5 : decode cX9_init 5 = .ok (.sipush 300, 3) := by decide +kernel
theorem dX9_init_8 : decode cX9_init 8 = .ok (.newarray .int, 2) := by decide +kernel
theorem dX9_init_10 : decode cX9_init 10 = .ok (.putfield 7, 3) := by decide +kernel
theorem dX9_init_13 : decode cX9_init 13 = .ok (.aload_n 0, 1) := by decide +kernel
theorem dX9_init_14 : decode cX9_init 14 = .ok (.bipush 10, 2) := by decide +kernel
theorem dX9_init_16 : decode cX9_init 16 = .ok (.newarray .int, 2) := by decide +kernel
theorem dX9_init_18 : decode cX9_init 18 = .ok (.putfield 13, 3) := by decide +kernel
theorem dX9_init_21 : decode cX9_init 21 = .ok (.aload_n 0, 1) := by decide +kernel
theorem dX9_init_22 : decode cX9_init 22 = .ok (.bipush 10, 2) := by decide +kernel
theorem dX9_init_24 : decode cX9_init 24 = .ok (.newarray .int, 2) := by decide +kernel
theorem dX9_init_26 : decode cX9_init 26 = .ok (.putfield 16, 3) := by decide +kernel
theorem dX9_init_29 : decode cX9_init 29 = .ok (.aload_n 0, 1) := by decide +kernel
theorem dX9_init_30 : decode cX9_init 30 = .ok (.bipush 36, 2) := by decide +kernel
theorem dX9_init_32 : decode cX9_init 32 = .ok (.newarray .int, 2) := by decide +kernel
theorem dX9_init_34 : decode cX9_init 34 = .ok (.putfield 19, 3) := by decide +kernel
theorem dX9_init_37 : decode cX9_init 37 = .ok (.aload_n 0, 1) := by decide +kernel
theorem dX9_init_38 : decode cX9_init 38 = .ok (.bipush 16, 2) := by decide +kernel
theorem dX9_init_40 : decode cX9_init 40 = .ok (.newarray .int, 2) := by decide +kernel
theorem dX9_init_42 : decode cX9_init 42 = .ok (.putfield 22, 3) := by decide +kernel
theorem dX9_init_45 : decode cX9_init 45 = .ok (.aload_n 0, 1) := by decide +kernel
theorem dX9_init_46 : decode cX9_init 46 = .ok (.bipush 18, 2) := by decide +kernel
theorem dX9_init_48 : decode cX9_init 48 = .ok (.newarray .int, 2) := by decide +kernel
theorem dX9_init_50 : decode cX9_init 50 = .ok (.putfield 25, 3) := by decide +kernel
theorem dX9_init_53 : decode cX9_init 53 = .ok (.aload_n 0, 1) := by decide +kernel
theorem dX9_init_54 : decode cX9_init 54 = .ok (.bipush 36, 2) := by decide +kernel
theorem dX9_init_56 : decode cX9_init 56 = .ok (.newarray .int, 2) := by decide +kernel
theorem dX9_init_58 : decode cX9_init 58 = .ok (.putfield 28, 3) := by decide +kernel
theorem dX9_init_61 : decode cX9_init 61 = .ok (.aload_n 0, 1) := by decide +kernel
theorem dX9_init_62 : decode cX9_init 62 = .ok (.iconst 2, 1) := by decide +kernel
theorem dX9_init_63 : decode cX9_init 63 = .ok (.newarray .boolean, 2) := by decide +kernel
theorem dX9_init_65 : decode cX9_init 65 = .ok (.putfield 31, 3) := by decide +kernel
theorem dX9_init_68 : decode cX9_init 68 = .ok (.aload_n 0, 1) := by decide +kernel
theorem dX9_init_69 : decode cX9_init 69 = .ok (.bipush 40, 2) := by decide +kernel
theorem dX9_init_71 : decode cX9_init 71 = .ok (.newarray .int, 2) := by decide +kernel
theorem dX9_init_73 : decode cX9_init 73 = .ok (.putfield 35, 3) := by decide +kernel
theorem dX9_init_76 : decode cX9_init 76 = .ok (.aload_n 0, 1) := by decide +kernel
theorem dX9_init_77 : decode cX9_init 77 = .ok (.bipush 6, 2) := by decide +kernel
theorem dX9_init_79 : decode cX9_init 79 = .ok (.newarray .int, 2) := by decide +kernel
theorem dX9_init_81 : decode cX9_init 81 = .ok (.putfield 38, 3) := by decide +kernel
theorem dX9_init_84 : decode cX9_init 84 = .ok (.aload_n 0, 1) := by decide +kernel
theorem dX9_init_85 : decode cX9_init 85 = .ok (.bipush 6, 2) := by decide +kernel
theorem dX9_init_87 : decode cX9_init 87 = .ok (.newarray .int, 2) := by decide +kernel
theorem dX9_init_89 : decode cX9_init 89 = .ok (.putfield 41, 3) := by decide +kernel
theorem dX9_init_92 : decode cX9_init 92 = .ok (.return_, 1) := by decide +kernel
theorem dX9_in_0 : decode cX9_in 0 = .ok (.iload_n 0, 1) := by decide +kernel
theorem dX9_in_1 : decode cX9_in 1 = .ok (.iload_n 1, 1) := by decide +kernel
theorem dX9_in_2 : decode cX9_in 2 = .ok (.if_icmp .lt 12, 3) := by decide +kernel
theorem dX9_in_5 : decode cX9_in 5 = .ok (.iload_n 0, 1) := by decide +kernel
theorem dX9_in_6 : decode cX9_in 6 = .ok (.iload_n 2, 1) := by decide +kernel
theorem dX9_in_7 : decode cX9_in 7 = .ok (.if_icmp .gt 7, 3) := by decide +kernel
theorem dX9_in_10 : decode cX9_in 10 = .ok (.iconst 1, 1) := by decide +kernel
theorem dX9_in_11 : decode cX9_in 11 = .ok (.goto 4, 3) := by decide +kernel
theorem dX9_in_14 : decode cX9_in 14 = .ok (.iconst 0, 1) := by decide +kernel
theorem dX9_in_15 : decode cX9_in 15 = .ok (.ireturn, 1) := by decide +kernel
theorem dX9_ones_0 : decode cX9_ones 0 = .ok (.iconst 0, 1) := by decide +kernel
theorem dX9_ones_1 : decode cX9_ones 1 = .ok (.istore_n 1, 1) := by decide +kernel
theorem dX9_ones_2 : decode cX9_ones 2 = .ok (.iconst 0, 1) := by decide +kernel
theorem dX9_ones_3 : decode cX9_ones 3 = .ok (.istore_n 2, 1) := by decide +kernel
theorem dX9_ones_4 : decode cX9_ones 4 = .ok (.iload_n 2, 1) := by decide +kernel
theorem dX9_ones_5 : decode cX9_ones 5 = .ok (.bipush 8, 2) := by decide +kernel
theorem dX9_ones_7 : decode cX9_ones 7 = .ok (.if_icmp .ge 17, 3) := by decide +kernel
theorem dX9_ones_10 : decode cX9_ones 10 = .ok (.iload_n 1, 1) := by decide +kernel
theorem dX9_ones_11 : decode cX9_ones 11 = .ok (.iload_n 0, 1) := by decide +kernel
theorem dX9_ones_12 : decode cX9_ones 12 = .ok (.iload_n 2, 1) := by decide +kernel
theorem dX9_ones_13 : decode cX9_ones 13 = .ok (.ishr, 1) := by decide +kernel
theorem dX9_ones_14 : decode cX9_ones 14 = .ok (.iconst 1, 1) := by decide +kernel
theorem dX9_ones_15 : decode cX9_ones 15 = .ok (.iand, 1) := by decide +kernel
theorem dX9_ones_16 : decode cX9_ones 16 = .ok (.iadd, 1) := by decide +kernel
theorem dX9_ones_17 : decode cX9_ones 17 = .ok (.istore_n 1, 1) := by decide +kernel
theorem dX9_ones_18 : decode cX9_ones 18 = .ok (.iinc 2 1, 3) := by decide +kernel
theorem dX9_ones_21 : decode cX9_ones 21 = .ok (.goto (-17), 3) := by decide +kernel
theorem dX9_ones_24 : decode cX9_ones 24 = .ok (.iload_n 1, 1) := by decide +kernel
theorem dX9_ones_25 : decode cX9_ones 25 = .ok (.ireturn, 1) := by decide +kernel
theorem dX9_type_0 : decode cX9_type 0 = .ok (.aload_n 0, 1) := by decide +kernel
