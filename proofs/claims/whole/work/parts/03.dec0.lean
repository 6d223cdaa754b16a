theorem dX0_init_0 : decode cX0_init 0 = .ok (.aload_n 0, 1) := by decide +kernel
theorem dX0_init_1 : decode cX0_init 1 = .ok (.invokespecial 3, 3) := by decide +kernel
theorem dX0_init_4 : decode cX0_init 4 = .ok (.aload_n 0, 1) := by decide +kernel
theorem dX0_init_5 : decode cX0_init 5 = .ok (.sipush 256, 3) := by decide +kernel
theorem dX0_init_8 : decode cX0_init 8 = .ok (.newarray .int, 2) := by decide +kernel
theorem dX0_init_10 : decode cX0_init 10 = .ok (.putfield 9, 3) := by decide +kernel
theorem dX0_init_13 : decode cX0_init 13 = .ok (.return_, 1) := by decide +kernel
theorem dX0_add_0 : decode cX0_add 0 = .ok (.iconst 0, 1) := by decide +kernel
theorem dX0_add_1 : decode cX0_add 1 = .ok (.istore_n 2, 1) := by decide +kernel
theorem dX0_add_2 : decode cX0_add 2 = .ok (.iload_n 2, 1) := by decide +kernel
theorem dX0_add_3 : decode cX0_add 3 = .ok (.aload_n 0, 1) := by decide +kernel
theorem dX0_add_4 : decode cX0_add 4 = .ok (.getfield 15, 3) := by decide +kernel
theorem dX0_add_7 : decode cX0_add 7 = .ok (.if_icmp .ge 25, 3) := by decide +kernel
theorem dX0_add_10 : decode cX0_add 10 = .ok (.iload_n 1, 1) := by decide +kernel
theorem dX0_add_11 : decode cX0_add 11 = .ok (.aload_n 0, 1) := by decide +kernel
theorem dX0_add_12 : decode cX0_add 12 = .ok (.getfield 9, 3) := by decide +kernel
theorem dX0_add_15 : decode cX0_add 15 = .ok (.iload_n 2, 1) := by decide +kernel
theorem dX0_add_16 : decode cX0_add 16 = .ok (.invokestatic 19, 3) := by decide +kernel
theorem dX0_add_19 : decode cX0_add 19 = .ok (.iconst (-1), 1) := by decide +kernel
theorem dX0_add_20 : decode cX0_add 20 = .ok (.ixor, 1) := by decide +kernel
theorem dX0_add_21 : decode cX0_add 21 = .ok (.iand, 1) := by decide +kernel
theorem dX0_add_22 : decode cX0_add 22 = .ok (.ifCond .ne 4, 3) := by decide +kernel
theorem dX0_add_25 : decode cX0_add 25 = .ok (.return_, 1) := by decide +kernel
theorem dX0_add_26 : decode cX0_add 26 = .ok (.iinc 2 1, 3) := by decide +kernel
theorem dX0_add_29 : decode cX0_add 29 = .ok (.goto (-27), 3) := by decide +kernel
theorem dX0_add_32 : decode cX0_add 32 = .ok (.aload_n 0, 1) := by decide +kernel
theorem dX0_add_33 : decode cX0_add 33 = .ok (.getfield 9, 3) := by decide +kernel
theorem dX0_add_36 : decode cX0_add 36 = .ok (.aload_n 0, 1) := by decide +kernel
theorem dX0_add_37 : decode cX0_add 37 = .ok (.getfield 15, 3) := by decide +kernel
theorem dX0_add_40 : decode cX0_add 40 = .ok (.iload_n 1, 1) := by decide +kernel
theorem dX0_add_41 : decode cX0_add 41 = .ok (.invokestatic 23, 3) := by decide +kernel
theorem dX0_add_44 : decode cX0_add 44 = .ok (.aload_n 0, 1) := by decide +kernel
theorem dX0_add_45 : decode cX0_add 45 = .ok (.dup, 1) := by decide +kernel
theorem dX0_add_46 : decode cX0_add 46 = .ok (.getfield 15, 3) := by decide +kernel
theorem dX0_add_49 : decode cX0_add 49 = .ok (.iconst 1, 1) := by decide +kernel
theorem dX0_add_50 : decode cX0_add 50 = .ok (.iadd, 1) := by decide +kernel
theorem dX0_add_51 : decode cX0_add 51 = .ok (.putfield 15, 3) := by decide +kernel
theorem dX0_add_54 : decode cX0_add 54 = .ok (.return_, 1) := by decide +kernel
theorem dX0_mostOf_0 : decode cX0_mostOf 0 = .ok (.iconst 0, 1) := by decide +kernel
theorem dX0_mostOf_1 : decode cX0_mostOf 1 = .ok (.istore_n 2, 1) := by decide +kernel
theorem dX0_mostOf_2 : decode cX0_mostOf 2 = .ok (.iconst 0, 1) := by decide +kernel
theorem dX0_mostOf_3 : decode cX0_mostOf 3 = .ok (.istore_n 3, 1) := by decide +kernel
theorem dX0_mostOf_4 : decode cX0_mostOf 4 = .ok (.iload_n 3, 1) := by decide +kernel
theorem dX0_mostOf_5 : decode cX0_mostOf 5 = .ok (.aload_n 0, 1) := by decide +kernel
theorem dX0_mostOf_6 : decode cX0_mostOf 6 = .ok (.getfield 15, 3) := by decide +kernel
theorem dX0_mostOf_9 : decode cX0_mostOf 9 = .ok (.if_icmp .ge 27, 3) := by decide +kernel
theorem dX0_mostOf_12 : decode cX0_mostOf 12 = .ok (.iload_n 2, 1) := by decide +kernel
theorem dX0_mostOf_13 : decode cX0_mostOf 13 = .ok (.aload_n 0, 1) := by decide +kernel
theorem dX0_mostOf_14 : decode cX0_mostOf 14 = .ok (.getfield 9, 3) := by decide +kernel
theorem dX0_mostOf_17 : decode cX0_mostOf 17 = .ok (.iload_n 3, 1) := by decide +kernel
theorem dX0_mostOf_18 : decode cX0_mostOf 18 = .ok (.invokestatic 19, 3) := by decide +kernel
theorem dX0_mostOf_21 : decode cX0_mostOf 21 = .ok (.iload_n 1, 1) := by decide +kernel
theorem dX0_mostOf_22 : decode cX0_mostOf 22 = .ok (.iand, 1) := by decide +kernel
theorem dX0_mostOf_23 : decode cX0_mostOf 23 = .ok (.invokestatic 27, 3) := by decide +kernel
theorem dX0_mostOf_26 : decode cX0_mostOf 26 = .ok (.invokestatic 33, 3) := by decide +kernel
theorem dX0_mostOf_29 : decode cX0_mostOf 29 = .ok (.istore_n 2, 1) := by decide +kernel
theorem dX0_mostOf_30 : decode cX0_mostOf 30 = .ok (.iinc 3 1, 3) := by decide +kernel
theorem dX0_mostOf_33 : decode cX0_mostOf 33 = .ok (.goto (-29), 3) := by decide +kernel
theorem dX0_mostOf_36 : decode cX0_mostOf 36 = .ok (.iload_n 2, 1) := by decide +kernel
theorem dX0_mostOf_37 : decode cX0_mostOf 37 = .ok (.ireturn, 1) := by decide +kernel
theorem dX1_init_0 : decode cX1_init 0 = .ok (.aload_n 0, 1) := by decide +kernel
theorem dX1_init_1 : decode cX1_init 1 = .ok (.invokespecial 3, 3) := by decide +kernel
theorem dX1_init_4 : decode cX1_init 4 = .ok (.aload_n 0, 1) := by decide +kernel
theorem dX1_init_5 : decode cX1_init 5 = .ok (.new 9, 3) := by decide +kernel
theorem dX1_init_8 : decode cX1_init 8 = .ok (.dup, 1) := by decide +kernel
theorem dX1_init_9 : decode cX1_init 9 = .ok (.invokespecial 11, 3) := by decide +kernel
theorem dX1_init_12 : decode cX1_init 12 = .ok (.putfield 12, 3) := by decide +kernel
theorem dX1_init_15 : decode cX1_init 15 = .ok (.aload_n 0, 1) := by decide +kernel
theorem dX1_init_16 : decode cX1_init 16 = .ok (.iconst 5, 1) := by decide +kernel
theorem dX1_init_17 : decode cX1_init 17 = .ok (.newarray .int, 2) := by decide +kernel
theorem dX1_init_19 : decode cX1_init 19 = .ok (.putfield 18, 3) := by decide +kernel
theorem dX1_init_22 : decode cX1_init 22 = .ok (.aload_n 0, 1) := by decide +kernel
theorem dX1_init_23 : decode cX1_init 23 = .ok (.bipush 6, 2) := by decide +kernel
theorem dX1_init_25 : decode cX1_init 25 = .ok (.newarray .int, 2) := by decide +kernel
theorem dX1_init_27 : decode cX1_init 27 = .ok (.putfield 22, 3) := by decide +kernel
theorem dX1_init_30 : decode cX1_init 30 = .ok (.aload_n 0, 1) := by decide +kernel
theorem dX1_init_31 : decode cX1_init 31 = .ok (.bipush 6, 2) := by decide +kernel
theorem dX1_init_33 : decode cX1_init 33 = .ok (.newarray .int, 2) := by decide +kernel
theorem dX1_init_35 : decode cX1_init 35 = .ok (.putfield 25, 3) := by decide +kernel
theorem dX1_init_38 : decode cX1_init 38 = .ok (.aload_n 0, 1) := by decide +kernel
theorem dX1_init_39 : decode cX1_init 39 = .ok (.bipush 6, 2) := by decide +kernel
theorem dX1_init_41 : decode cX1_init 41 = .ok (.newarray .int, 2) := by decide +kernel
theorem dX1_init_43 : decode cX1_init 43 = .ok (.putfield 28, 3) := by decide +kernel
theorem dX1_init_46 : decode cX1_init 46 = .ok (.return_, 1) := by decide +kernel
theorem dX1_empty_0 : decode cX1_empty 0 = .ok (.aload_n 0, 1) := by decide +kernel
theorem dX1_empty_1 : decode cX1_empty 1 = .ok (.iconst 0, 1) := by decide +kernel
theorem dX1_empty_2 : decode cX1_empty 2 = .ok (.putfield 31, 3) := by decide +kernel
theorem dX1_empty_5 : decode cX1_empty 5 = .ok (.aload_n 0, 1) := by decide +kernel
theorem dX1_empty_6 : decode cX1_empty 6 = .ok (.iconst 0, 1) := by decide +kernel
theorem dX1_empty_7 : decode cX1_empty 7 = .ok (.putfield 35, 3) := by decide +kernel
theorem dX1_empty_10 : decode cX1_empty 10 = .ok (.aload_n 0, 1) := by decide +kernel
theorem dX1_empty_11 : decode cX1_empty 11 = .ok (.iconst 0, 1) := by decide +kernel
theorem dX1_empty_12 : decode cX1_empty 12 = .ok (.putfield 38, 3) := by decide +kernel
theorem dX1_empty_15 : decode cX1_empty 15 = .ok (.aload_n 0, 1) := by decide +kernel
theorem dX1_empty_16 : decode cX1_empty 16 = .ok (.iconst 0, 1) := by decide +kernel
theorem dX1_empty_17 : decode cX1_empty 17 = .ok (.putfield 41, 3) := by decide +kernel
theorem dX1_empty_20 : decode cX1_empty 20 = .ok (.return_, 1) := by decide +kernel
theorem dX1_copy_0 : decode cX1_copy 0 = .ok (.aload_n 0, 1) := by decide +kernel
theorem dX1_copy_1 : decode cX1_copy 1 = .ok (.getfield 12, 3) := by decide +kernel
theorem dX1_copy_4 : decode cX1_copy 4 = .ok (.aload_n 1, 1) := by decide +kernel
theorem dX1_copy_5 : decode cX1_copy 5 = .ok (.getfield 12, 3) := by decide +kernel
theorem dX1_copy_8 : decode cX1_copy 8 = .ok (.invokevirtual 44, 3) := by decide +kernel
theorem dX1_copy_11 : decode cX1_copy 11 = .ok (.aload_n 1, 1) := by decide +kernel
theorem dX1_copy_12 : decode cX1_copy 12 = .ok (.getfield 18, 3) := by decide +kernel
theorem dX1_copy_15 : decode cX1_copy 15 = .ok (.aload_n 0, 1) := by decide +kernel
theorem dX1_copy_16 : decode cX1_copy 16 = .ok (.getfield 18, 3) := by decide +kernel
theorem dX1_copy_19 : decode cX1_copy 19 = .ok (.invokestatic 48, 3) := by decide +kernel
theorem dX1_copy_22 : decode cX1_copy 22 = .ok (.aload_n 1, 1) := by decide +kernel
theorem dX1_copy_23 : decode cX1_copy 23 = .ok (.getfield 22, 3) := by decide +kernel
theorem dX1_copy_26 : decode cX1_copy 26 = .ok (.aload_n 0, 1) := by decide +kernel
theorem dX1_copy_27 : decode cX1_copy 27 = .ok (.getfield 22, 3) := by decide +kernel
theorem dX1_copy_30 : decode cX1_copy 30 = .ok (.invokestatic 48, 3) := by decide +kernel
theorem dX1_copy_33 : decode cX1_copy 33 = .ok (.aload_n 1, 1) := by decide +kernel
theorem dX1_copy_34 : decode cX1_copy 34 = .ok (.getfield 25, 3) := by decide +kernel
theorem dX1_copy_37 : decode cX1_copy 37 = .ok (.aload_n 0, 1) := by decide +kernel
theorem dX1_copy_38 : decode cX1_copy 38 = .ok (.getfield 25, 3) := by decide +kernel
theorem dX1_copy_41 : decode cX1_copy 41 = .ok (.invokestatic 48, 3) := by decide +kernel
theorem dX1_copy_44 : decode cX1_copy 44 = .ok (.aload_n 1, 1) := by decide +kernel
theorem dX1_copy_45 : decode cX1_copy 45 = .ok (.getfield 28, 3) := by decide +kernel
theorem dX1_copy_48 : decode cX1_copy 48 = .ok (.aload_n 0, 1) := by decide +kernel
theorem dX1_copy_49 : decode cX1_copy 49 = .ok (.getfield 28, 3) := by decide +kernel
theorem dX1_copy_52 : decode cX1_copy 52 = .ok (.invokestatic 48, 3) := by decide +kernel
theorem dX1_copy_55 : decode cX1_copy 55 = .ok (.aload_n 0, 1) := by decide +kernel
theorem dX1_copy_56 : decode cX1_copy 56 = .ok (.aload_n 1, 1) := by decide +kernel
theorem dX1_copy_57 : decode cX1_copy 57 = .ok (.getfield 31, 3) := by decide +kernel
theorem dX1_copy_60 : decode cX1_copy 60 = .ok (.putfield 31, 3) := by decide +kernel
theorem dX1_copy_63 : decode cX1_copy 63 = .ok (.aload_n 0, 1) := by decide +kernel
theorem dX1_copy_64 : decode cX1_copy 64 = .ok (.aload_n 1, 1) := by decide +kernel
theorem dX1_copy_65 : decode cX1_copy 65 = .ok (.getfield 35, 3) := by decide +kernel
theorem dX1_copy_68 : decode cX1_copy 68 = .ok (.putfield 35, 3) := by decide +kernel
theorem dX1_copy_71 : decode cX1_copy 71 = .ok (.aload_n 0, 1) := by decide +kernel
theorem dX1_copy_72 : decode cX1_copy 72 = .ok (.aload_n 1, 1) := by decide +kernel
theorem dX1_copy_73 : decode cX1_copy 73 = .ok (.getfield 38, 3) := by decide +kernel
theorem dX1_copy_76 : decode cX1_copy 76 = .ok (.putfield 38, 3) := by decide +kernel
theorem dX1_copy_79 : decode cX1_copy 79 = .ok (.aload_n 0, 1) := by decide +kernel
theorem dX1_copy_80 : decode cX1_copy 80 = .ok (.aload_n 1, 1) := by decide +kernel
theorem dX1_copy_81 : decode cX1_copy 81 = .ok (.getfield 41, 3) := by decide +kernel
theorem dX1_copy_84 : decode cX1_copy 84 = .ok (.putfield 41, 3) := by decide +kernel
theorem dX1_copy_87 : decode cX1_copy 87 = .ok (.return_, 1) := by decide +kernel
theorem dX1_isOpen_0 : decode cX1_isOpen 0 = .ok (.aload_n 0, 1) := by decide +kernel
theorem dX1_isOpen_1 : decode cX1_isOpen 1 = .ok (.getfield 28, 3) := by decide +kernel
theorem dX1_isOpen_4 : decode cX1_isOpen 4 = .ok (.iload_n 1, 1) := by decide +kernel
theorem dX1_isOpen_5 : decode cX1_isOpen 5 = .ok (.invokestatic 52, 3) := by decide +kernel
theorem dX1_isOpen_8 : decode cX1_isOpen 8 = .ok (.istore_n 3, 1) := by decide +kernel
theorem dX1_isOpen_9 : decode cX1_isOpen 9 = .ok (.iload_n 2, 1) := by decide +kernel
theorem dX1_isOpen_10 : decode cX1_isOpen 10 = .ok (.aload_n 0, 1) := by decide +kernel
theorem dX1_isOpen_11 : decode cX1_isOpen 11 = .ok (.getfield 22, 3) := by decide +kernel
theorem dX1_isOpen_14 : decode cX1_isOpen 14 = .ok (.iload_n 1, 1) := by decide +kernel
theorem dX1_isOpen_15 : decode cX1_isOpen 15 = .ok (.invokestatic 52, 3) := by decide +kernel
theorem dX1_isOpen_18 : decode cX1_isOpen 18 = .ok (.invokestatic 56, 3) := by decide +kernel
theorem dX1_isOpen_21 : decode cX1_isOpen 21 = .ok (.ifCond .ne 21, 3) := by decide +kernel
theorem dX1_isOpen_24 : decode cX1_isOpen 24 = .ok (.iload_n 3, 1) := by decide +kernel
theorem dX1_isOpen_25 : decode cX1_isOpen 25 = .ok (.bipush 9, 2) := by decide +kernel
theorem dX1_isOpen_27 : decode cX1_isOpen 27 = .ok (.if_icmp .eq 11, 3) := by decide +kernel
theorem dX1_isOpen_30 : decode cX1_isOpen 30 = .ok (.iload_n 2, 1) := by decide +kernel
theorem dX1_isOpen_31 : decode cX1_isOpen 31 = .ok (.iload_n 3, 1) := by decide +kernel
theorem dX1_isOpen_32 : decode cX1_isOpen 32 = .ok (.invokestatic 56, 3) := by decide +kernel
theorem dX1_isOpen_35 : decode cX1_isOpen 35 = .ok (.ifCond .eq 7, 3) := by decide +kernel
theorem dX1_isOpen_38 : decode cX1_isOpen 38 = .ok (.iconst 1, 1) := by decide +kernel
theorem dX1_isOpen_39 : decode cX1_isOpen 39 = .ok (.goto 4, 3) := by decide +kernel
theorem dX1_isOpen_42 : decode cX1_isOpen 42 = .ok (.iconst 0, 1) := by decide +kernel
theorem dX1_isOpen_43 : decode cX1_isOpen 43 = .ok (.ireturn, 1) := by decide +kernel
theorem dX2_init_0 : decode cX2_init 0 = .ok (.aload_n 0, 1) := by decide +kernel
theorem dX2_init_1 : decode cX2_init 1 = .ok (.invokespecial 3, 3) := by decide +kernel
theorem dX2_init_4 : decode cX2_init 4 = .ok (.aload_n 0, 1) := by decide +kernel
theorem dX2_init_5 : decode cX2_init 5 = .ok (.iconst 5, 1) := by decide +kernel
theorem dX2_init_6 : decode cX2_init 6 = .ok (.newarray .int, 2) := by decide +kernel
theorem dX2_init_8 : decode cX2_init 8 = .ok (.putfield 9, 3) := by decide +kernel
theorem dX2_init_11 : decode cX2_init 11 = .ok (.aload_n 0, 1) := by decide +kernel
theorem dX2_init_12 : decode cX2_init 12 = .ok (.iconst 5, 1) := by decide +kernel
theorem dX2_init_13 : decode cX2_init 13 = .ok (.newarray .int, 2) := by decide +kernel
theorem dX2_init_15 : decode cX2_init 15 = .ok (.putfield 15, 3) := by decide +kernel
theorem dX2_init_18 : decode cX2_init 18 = .ok (.aload_n 0, 1) := by decide +kernel
theorem dX2_init_19 : decode cX2_init 19 = .ok (.iconst 4, 1) := by decide +kernel
theorem dX2_init_20 : decode cX2_init 20 = .ok (.newarray .int, 2) := by decide +kernel
theorem dX2_init_22 : decode cX2_init 22 = .ok (.putfield 18, 3) := by decide +kernel
theorem dX2_init_25 : decode cX2_init 25 = .ok (.aload_n 0, 1) := by decide +kernel
theorem dX2_init_26 : decode cX2_init 26 = .ok (.iconst 4, 1) := by decide +kernel
theorem dX2_init_27 : decode cX2_init 27 = .ok (.newarray .int, 2) := by decide +kernel
theorem dX2_init_29 : decode cX2_init 29 = .ok (.putfield 21, 3) := by decide +kernel
theorem dX2_init_32 : decode cX2_init 32 = .ok (.return_, 1) := by decide +kernel
theorem dX2_copy_0 : decode cX2_copy 0 = .ok (.aload_n 1, 1) := by decide +kernel
theorem dX2_copy_1 : decode cX2_copy 1 = .ok (.getfield 9, 3) := by decide +kernel
theorem dX2_copy_4 : decode cX2_copy 4 = .ok (.aload_n 0, 1) := by decide +kernel
theorem dX2_copy_5 : decode cX2_copy 5 = .ok (.getfield 9, 3) := by decide +kernel
theorem dX2_copy_8 : decode cX2_copy 8 = .ok (.invokestatic 24, 3) := by decide +kernel
theorem dX2_copy_11 : decode cX2_copy 11 = .ok (.aload_n 1, 1) := by decide +kernel
theorem dX2_copy_12 : decode cX2_copy 12 = .ok (.getfield 15, 3) := by decide +kernel
theorem dX2_copy_15 : decode cX2_copy 15 = .ok (.aload_n 0, 1) := by decide +kernel
theorem dX2_copy_16 : decode cX2_copy 16 = .ok (.getfield 15, 3) := by decide +kernel
theorem dX2_copy_19 : decode cX2_copy 19 = .ok (.invokestatic 24, 3) := by decide +kernel
theorem dX2_copy_22 : decode cX2_copy 22 = .ok (.aload_n 1, 1) := by decide +kernel
theorem dX2_copy_23 : decode cX2_copy 23 = .ok (.getfield 18, 3) := by decide +kernel
theorem dX2_copy_26 : decode cX2_copy 26 = .ok (.aload_n 0, 1) := by decide +kernel
theorem dX2_copy_27 : decode cX2_copy 27 = .ok (.getfield 18, 3) := by decide +kernel
theorem dX2_copy_30 : decode cX2_copy 30 = .ok (.invokestatic 24, 3) := by decide +kernel
theorem dX2_copy_33 : decode cX2_copy 33 = .ok (.aload_n 1, 1) := by decide +kernel
theorem dX2_copy_34 : decode cX2_copy 34 = .ok (.getfield 21, 3) := by decide +kernel
theorem dX2_copy_37 : decode cX2_copy 37 = .ok (.aload_n 0, 1) := by decide +kernel
theorem dX2_copy_38 : decode cX2_copy 38 = .ok (.getfield 21, 3) := by decide +kernel
theorem dX2_copy_41 : decode cX2_copy 41 = .ok (.invokestatic 24, 3) := by decide +kernel
theorem dX2_copy_44 : decode cX2_copy 44 = .ok (.return_, 1) := by decide +kernel
theorem dX3_init_0 : decode cX3_init 0 = .ok (.aload_n 0, 1) := by decide +kernel
theorem dX3_init_1 : decode cX3_init 1 = .ok (.invokespecial 1, 3) := by decide +kernel
theorem dX3_init_4 : decode cX3_init 4 = .ok (.aload_n 0, 1) := by decide +kernel
theorem dX3_init_5 : decode cX3_init 5 = .ok (.iconst 0, 1) := by decide +kernel
theorem dX3_init_6 : decode cX3_init 6 = .ok (.iload_n 1, 1) := by decide +kernel
theorem dX3_init_7 : decode cX3_init 7 = .ok (.invokestatic 7, 3) := by decide +kernel
theorem dX3_init_10 : decode cX3_init 10 = .ok (.anewarray 13, 3) := by decide +kernel
theorem dX3_init_13 : decode cX3_init 13 = .ok (.putfield 15, 3) := by decide +kernel
theorem dX3_init_16 : decode cX3_init 16 = .ok (.iconst 0, 1) := by decide +kernel
theorem dX3_init_17 : decode cX3_init 17 = .ok (.istore_n 2, 1) := by decide +kernel
theorem dX3_init_18 : decode cX3_init 18 = .ok (.iload_n 2, 1) := by decide +kernel
theorem dX3_init_19 : decode cX3_init 19 = .ok (.aload_n 0, 1) := by decide +kernel
theorem dX3_init_20 : decode cX3_init 20 = .ok (.getfield 15, 3) := by decide +kernel
theorem dX3_init_23 : decode cX3_init 23 = .ok (.arraylength, 1) := by decide +kernel
theorem dX3_init_24 : decode cX3_init 24 = .ok (.if_icmp .ge 22, 3) := by decide +kernel
theorem dX3_init_27 : decode cX3_init 27 = .ok (.aload_n 0, 1) := by decide +kernel
theorem dX3_init_28 : decode cX3_init 28 = .ok (.getfield 15, 3) := by decide +kernel
theorem dX3_init_31 : decode cX3_init 31 = .ok (.iload_n 2, 1) := by decide +kernel
theorem dX3_init_32 : decode cX3_init 32 = .ok (.new 13, 3) := by decide +kernel
theorem dX3_init_35 : decode cX3_init 35 = .ok (.dup, 1) := by decide +kernel
theorem dX3_init_36 : decode cX3_init 36 = .ok (.invokespecial 21, 3) := by decide +kernel
theorem dX3_init_39 : decode cX3_init 39 = .ok (.aastore, 1) := by decide +kernel
theorem dX3_init_40 : decode cX3_init 40 = .ok (.iinc 2 1, 3) := by decide +kernel
theorem dX3_init_43 : decode cX3_init 43 = .ok (.goto (-25), 3) := by decide +kernel
theorem dX3_init_46 : decode cX3_init 46 = .ok (.return_, 1) := by decide +kernel
theorem dX3_store_0 : decode cX3_store 0 = .ok (.aload_n 0, 1) := by decide +kernel
theorem dX3_store_1 : decode cX3_store 1 = .ok (.iload_n 1, 1) := by decide +kernel
theorem dX3_store_2 : decode cX3_store 2 = .ok (.invokevirtual 22, 3) := by decide +kernel
theorem dX3_store_5 : decode cX3_store 5 = .ok (.astore_n 3, 1) := by decide +kernel
theorem dX3_store_6 : decode cX3_store 6 = .ok (.aload_n 3, 1) := by decide +kernel
theorem dX3_store_7 : decode cX3_store 7 = .ok (.ifnull 8, 3) := by decide +kernel
theorem dX3_store_10 : decode cX3_store 10 = .ok (.aload_n 3, 1) := by decide +kernel
theorem dX3_store_11 : decode cX3_store 11 = .ok (.aload_n 2, 1) := by decide +kernel
theorem dX3_store_12 : decode cX3_store 12 = .ok (.invokevirtual 26, 3) := by decide +kernel
theorem dX3_store_15 : decode cX3_store 15 = .ok (.return_, 1) := by decide +kernel
theorem dX3_fetch_0 : decode cX3_fetch 0 = .ok (.aload_n 0, 1) := by decide +kernel
theorem dX3_fetch_1 : decode cX3_fetch 1 = .ok (.iload_n 1, 1) := by decide +kernel
theorem dX3_fetch_2 : decode cX3_fetch 2 = .ok (.invokevirtual 22, 3) := by decide +kernel
theorem dX3_fetch_5 : decode cX3_fetch 5 = .ok (.astore_n 3, 1) := by decide +kernel
theorem dX3_fetch_6 : decode cX3_fetch 6 = .ok (.aload_n 3, 1) := by decide +kernel
theorem dX3_fetch_7 : decode cX3_fetch 7 = .ok (.ifnull 8, 3) := by decide +kernel
theorem dX3_fetch_10 : decode cX3_fetch 10 = .ok (.aload_n 2, 1) := by decide +kernel
theorem dX3_fetch_11 : decode cX3_fetch 11 = .ok (.aload_n 3, 1) := by decide +kernel
theorem dX3_fetch_12 : decode cX3_fetch 12 = .ok (.invokevirtual 26, 3) := by decide +kernel
theorem dX3_fetch_15 : decode cX3_fetch 15 = .ok (.return_, 1) := by decide +kernel
theorem dX3_row_0 : decode cX3_row 0 = .ok (.iload_n 1, 1) := by decide +kernel
theorem dX3_row_1 : decode cX3_row 1 = .ok (.ifCond .lt 21, 3) := by decide +kernel
theorem dX3_row_4 : decode cX3_row 4 = .ok (.iload_n 1, 1) := by decide +kernel
theorem dX3_row_5 : decode cX3_row 5 = .ok (.aload_n 0, 1) := by decide +kernel
theorem dX3_row_6 : decode cX3_row 6 = .ok (.getfield 15, 3) := by decide +kernel
theorem dX3_row_9 : decode cX3_row 9 = .ok (.arraylength, 1) := by decide +kernel
theorem dX3_row_10 : decode cX3_row 10 = .ok (.if_icmp .ge 12, 3) := by decide +kernel
theorem dX3_row_13 : decode cX3_row 13 = .ok (.aload_n 0, 1) := by decide +kernel
theorem dX3_row_14 : decode cX3_row 14 = .ok (.getfield 15, 3) := by decide +kernel
theorem dX3_row_17 : decode cX3_row 17 = .ok (.iload_n 1, 1) := by decide +kernel
theorem dX3_row_18 : decode cX3_row 18 = .ok (.aaload, 1) := by decide +kernel
theorem dX3_row_19 : decode cX3_row 19 = .ok (.goto 4, 3) := by decide +kernel
theorem dX3_row_22 : decode cX3_row 22 = .ok (.aconst_null, 1) := by decide +kernel
theorem dX3_row_23 : decode cX3_row 23 = .ok (.areturn, 1) := by decide +kernel
theorem dX4_init_0 : decode cX4_init 0 = .ok (.aload_n 0, 1) := by decide +kernel
theorem dX4_init_1 : decode cX4_init 1 = .ok (.invokespecial 3, 3) := by decide +kernel
theorem dX4_init_4 : decode cX4_init 4 = .ok (.aload_n 0, 1) := by decide +kernel
theorem dX4_init_5 : decode cX4_init 5 = .ok (.new 9, 3) := by decide +kernel
theorem dX4_init_8 : decode cX4_init 8 = .ok (.dup, 1) := by decide +kernel
theorem dX4_init_9 : decode cX4_init 9 = .ok (.invokespecial 11, 3) := by decide +kernel
theorem dX4_init_12 : decode cX4_init 12 = .ok (.putfield 12, 3) := by decide +kernel
theorem dX4_init_15 : decode cX4_init 15 = .ok (.aload_n 0, 1) := by decide +kernel
theorem dX4_init_16 : decode cX4_init 16 = .ok (.new 18, 3) := by decide +kernel
theorem dX4_init_19 : decode cX4_init 19 = .ok (.dup, 1) := by decide +kernel
theorem dX4_init_20 : decode cX4_init 20 = .ok (.invokespecial 20, 3) := by decide +kernel
theorem dX4_init_23 : decode cX4_init 23 = .ok (.putfield 21, 3) := by decide +kernel
theorem dX4_init_26 : decode cX4_init 26 = .ok (.return_, 1) := by decide +kernel
theorem dX4_readHouse_0 : decode cX4_readHouse 0 = .ok (.aload_n 0, 1) := by decide +kernel
theorem dX4_readHouse_1 : decode cX4_readHouse 1 = .ok (.getfield 12, 3) := by decide +kernel
theorem dX4_readHouse_4 : decode cX4_readHouse 4 = .ok (.aload_n 1, 1) := by decide +kernel
theorem dX4_readHouse_5 : decode cX4_readHouse 5 = .ok (.invokevirtual 25, 3) := by decide +kernel
theorem dX4_readHouse_8 : decode cX4_readHouse 8 = .ok (.aload_n 0, 1) := by decide +kernel
theorem dX4_readHouse_9 : decode cX4_readHouse 9 = .ok (.getfield 21, 3) := by decide +kernel
theorem dX4_readHouse_12 : decode cX4_readHouse 12 = .ok (.invokevirtual 29, 3) := by decide +kernel
theorem dX4_readHouse_15 : decode cX4_readHouse 15 = .ok (.aload_n 0, 1) := by decide +kernel
theorem dX4_readHouse_16 : decode cX4_readHouse 16 = .ok (.iconst 0, 1) := by decide +kernel
theorem dX4_readHouse_17 : decode cX4_readHouse 17 = .ok (.putfield 32, 3) := by decide +kernel
theorem dX4_readHouse_20 : decode cX4_readHouse 20 = .ok (.aload_n 0, 1) := by decide +kernel
theorem dX4_readHouse_21 : decode cX4_readHouse 21 = .ok (.iconst 0, 1) := by decide +kernel
theorem dX4_readHouse_22 : decode cX4_readHouse 22 = .ok (.putfield 36, 3) := by decide +kernel
theorem dX4_readHouse_25 : decode cX4_readHouse 25 = .ok (.iconst 0, 1) := by decide +kernel
theorem dX4_readHouse_26 : decode cX4_readHouse 26 = .ok (.istore_n 2, 1) := by decide +kernel
theorem dX4_readHouse_27 : decode cX4_readHouse 27 = .ok (.iload_n 2, 1) := by decide +kernel
theorem dX4_readHouse_28 : decode cX4_readHouse 28 = .ok (.sipush 300, 3) := by decide +kernel
theorem dX4_readHouse_31 : decode cX4_readHouse 31 = .ok (.if_icmp .gt 28, 3) := by decide +kernel
theorem dX4_readHouse_34 : decode cX4_readHouse 34 = .ok (.aload_n 0, 1) := by decide +kernel
theorem dX4_readHouse_35 : decode cX4_readHouse 35 = .ok (.invokevirtual 40, 3) := by decide +kernel
theorem dX4_readHouse_38 : decode cX4_readHouse 38 = .ok (.ifCond .ne 5, 3) := by decide +kernel
theorem dX4_readHouse_41 : decode cX4_readHouse 41 = .ok (.iload_n 2, 1) := by decide +kernel
theorem dX4_readHouse_42 : decode cX4_readHouse 42 = .ok (.ireturn, 1) := by decide +kernel
theorem dX4_readHouse_43 : decode cX4_readHouse 43 = .ok (.aload_n 0, 1) := by decide +kernel
theorem dX4_readHouse_44 : decode cX4_readHouse 44 = .ok (.invokevirtual 44, 3) := by decide +kernel
theorem dX4_readHouse_47 : decode cX4_readHouse 47 = .ok (.ifCond .ne 6, 3) := by decide +kernel
theorem dX4_readHouse_50 : decode cX4_readHouse 50 = .ok (.goto 9, 3) := by decide +kernel
theorem dX4_readHouse_53 : decode cX4_readHouse 53 = .ok (.iinc 2 1, 3) := by decide +kernel
theorem dX4_readHouse_56 : decode cX4_readHouse 56 = .ok (.goto (-29), 3) := by decide +kernel
theorem dX4_readHouse_59 : decode cX4_readHouse 59 = .ok (.bipush (-10), 2) := by decide +kernel
theorem dX4_readHouse_61 : decode cX4_readHouse 61 = .ok (.aload_n 0, 1) := by decide +kernel
theorem dX4_readHouse_62 : decode cX4_readHouse 62 = .ok (.getfield 12, 3) := by decide +kernel
theorem dX4_readHouse_65 : decode cX4_readHouse 65 = .ok (.getfield 48, 3) := by decide +kernel
theorem dX4_readHouse_68 : decode cX4_readHouse 68 = .ok (.aload_n 0, 1) := by decide +kernel
theorem dX4_readHouse_69 : decode cX4_readHouse 69 = .ok (.getfield 36, 3) := by decide +kernel
theorem dX4_readHouse_72 : decode cX4_readHouse 72 = .ok (.invokestatic 52, 3) := by decide +kernel
theorem dX4_readHouse_75 : decode cX4_readHouse 75 = .ok (.isub, 1) := by decide +kernel
theorem dX4_readHouse_76 : decode cX4_readHouse 76 = .ok (.ireturn, 1) := by decide +kernel
theorem dX4_kind_0 : decode cX4_kind 0 = .ok (.aload_n 0, 1) := by decide +kernel
theorem dX4_kind_1 : decode cX4_kind 1 = .ok (.getfield 12, 3) := by decide +kernel
theorem dX4_kind_4 : decode cX4_kind 4 = .ok (.getfield 56, 3) := by decide +kernel
theorem dX4_kind_7 : decode cX4_kind 7 = .ok (.aload_n 0, 1) := by decide +kernel
theorem dX4_kind_8 : decode cX4_kind 8 = .ok (.getfield 36, 3) := by decide +kernel
theorem dX4_kind_11 : decode cX4_kind 11 = .ok (.invokestatic 52, 3) := by decide +kernel
theorem dX4_kind_14 : decode cX4_kind 14 = .ok (.ireturn, 1) := by decide +kernel
theorem dX4_readItem_0 : decode cX4_readItem 0 = .ok (.aload_n 0, 1) := by decide +kernel
theorem dX4_readItem_1 : decode cX4_readItem 1 = .ok (.invokevirtual 40, 3) := by decide +kernel
theorem dX4_readItem_4 : decode cX4_readItem 4 = .ok (.tableswitch 52 4 7 #[32, 37, 42, 47], 32) := by decide +kernel
theorem dX4_readItem_36 : decode cX4_readItem 36 = .ok (.aload_n 0, 1) := by decide +kernel
theorem dX4_readItem_37 : decode cX4_readItem 37 = .ok (.invokevirtual 59, 3) := by decide +kernel
theorem dX4_readItem_40 : decode cX4_readItem 40 = .ok (.ireturn, 1) := by decide +kernel
theorem dX4_readItem_41 : decode cX4_readItem 41 = .ok (.aload_n 0, 1) := by decide +kernel
theorem dX4_readItem_42 : decode cX4_readItem 42 = .ok (.invokevirtual 62, 3) := by decide +kernel
theorem dX4_readItem_45 : decode cX4_readItem 45 = .ok (.ireturn, 1) := by decide +kernel
theorem dX4_readItem_46 : decode cX4_readItem 46 = .ok (.aload_n 0, 1) := by decide +kernel
theorem dX4_readItem_47 : decode cX4_readItem 47 = .ok (.invokevirtual 65, 3) := by decide +kernel
theorem dX4_readItem_50 : decode cX4_readItem 50 = .ok (.ireturn, 1) := by decide +kernel
theorem dX4_readItem_51 : decode cX4_readItem 51 = .ok (.aload_n 0, 1) := by decide +kernel
theorem dX4_readItem_52 : decode cX4_readItem 52 = .ok (.invokevirtual 68, 3) := by decide +kernel
theorem dX4_readItem_55 : decode cX4_readItem 55 = .ok (.ireturn, 1) := by decide +kernel
theorem dX4_readItem_56 : decode cX4_readItem 56 = .ok (.iconst 0, 1) := by decide +kernel
theorem dX4_readItem_57 : decode cX4_readItem 57 = .ok (.ireturn, 1) := by decide +kernel
theorem dX4_readLoud_0 : decode cX4_readLoud 0 = .ok (.aload_n 0, 1) := by decide +kernel
theorem dX4_readLoud_1 : decode cX4_readLoud 1 = .ok (.getfield 32, 3) := by decide +kernel
theorem dX4_readLoud_4 : decode cX4_readLoud 4 = .ok (.ifCond .eq 5, 3) := by decide +kernel
theorem dX4_readLoud_7 : decode cX4_readLoud 7 = .ok (.iconst 0, 1) := by decide +kernel
theorem dX4_readLoud_8 : decode cX4_readLoud 8 = .ok (.ireturn, 1) := by decide +kernel
theorem dX4_readLoud_9 : decode cX4_readLoud 9 = .ok (.aload_n 0, 1) := by decide +kernel
theorem dX4_readLoud_10 : decode cX4_readLoud 10 = .ok (.dup, 1) := by decide +kernel
theorem dX4_readLoud_11 : decode cX4_readLoud 11 = .ok (.getfield 36, 3) := by decide +kernel
theorem dX4_readLoud_14 : decode cX4_readLoud 14 = .ok (.iconst 1, 1) := by decide +kernel
theorem dX4_readLoud_15 : decode cX4_readLoud 15 = .ok (.iadd, 1) := by decide +kernel
theorem dX4_readLoud_16 : decode cX4_readLoud 16 = .ok (.putfield 36, 3) := by decide +kernel
theorem dX4_readLoud_19 : decode cX4_readLoud 19 = .ok (.aload_n 0, 1) := by decide +kernel
theorem dX4_readLoud_20 : decode cX4_readLoud 20 = .ok (.iconst 1, 1) := by decide +kernel
theorem dX4_readLoud_21 : decode cX4_readLoud 21 = .ok (.putfield 32, 3) := by decide +kernel
theorem dX4_readLoud_24 : decode cX4_readLoud 24 = .ok (.aload_n 0, 1) := by decide +kernel
theorem dX4_readLoud_25 : decode cX4_readLoud 25 = .ok (.getfield 21, 3) := by decide +kernel
theorem dX4_readLoud_28 : decode cX4_readLoud 28 = .ok (.aload_n 0, 1) := by decide +kernel
theorem dX4_readLoud_29 : decode cX4_readLoud 29 = .ok (.invokevirtual 71, 3) := by decide +kernel
theorem dX4_readLoud_32 : decode cX4_readLoud 32 = .ok (.putfield 74, 3) := by decide +kernel
theorem dX4_readLoud_35 : decode cX4_readLoud 35 = .ok (.aload_n 0, 1) := by decide +kernel
theorem dX4_readLoud_36 : decode cX4_readLoud 36 = .ok (.invokevirtual 77, 3) := by decide +kernel
theorem dX4_readLoud_39 : decode cX4_readLoud 39 = .ok (.ireturn, 1) := by decide +kernel
theorem dX4_readKnocker_0 : decode cX4_readKnocker 0 = .ok (.aload_n 0, 1) := by decide +kernel
theorem dX4_readKnocker_1 : decode cX4_readKnocker 1 = .ok (.getfield 21, 3) := by decide +kernel
theorem dX4_readKnocker_4 : decode cX4_readKnocker 4 = .ok (.getfield 80, 3) := by decide +kernel
theorem dX4_readKnocker_7 : decode cX4_readKnocker 7 = .ok (.iconst 5, 1) := by decide +kernel
theorem dX4_readKnocker_8 : decode cX4_readKnocker 8 = .ok (.if_icmp .lt 5, 3) := by decide +kernel
theorem dX4_readKnocker_11 : decode cX4_readKnocker 11 = .ok (.iconst 0, 1) := by decide +kernel
theorem dX4_readKnocker_12 : decode cX4_readKnocker 12 = .ok (.ireturn, 1) := by decide +kernel
theorem dX4_readKnocker_13 : decode cX4_readKnocker 13 = .ok (.aload_n 0, 1) := by decide +kernel
theorem dX4_readKnocker_14 : decode cX4_readKnocker 14 = .ok (.dup, 1) := by decide +kernel
theorem dX4_readKnocker_15 : decode cX4_readKnocker 15 = .ok (.getfield 36, 3) := by decide +kernel
theorem dX4_readKnocker_18 : decode cX4_readKnocker 18 = .ok (.iconst 1, 1) := by decide +kernel
theorem dX4_readKnocker_19 : decode cX4_readKnocker 19 = .ok (.iadd, 1) := by decide +kernel
theorem dX4_readKnocker_20 : decode cX4_readKnocker 20 = .ok (.putfield 36, 3) := by decide +kernel
theorem dX4_readKnocker_23 : decode cX4_readKnocker 23 = .ok (.aload_n 0, 1) := by decide +kernel
theorem dX4_readKnocker_24 : decode cX4_readKnocker 24 = .ok (.iconst 0, 1) := by decide +kernel
theorem dX4_readKnocker_25 : decode cX4_readKnocker 25 = .ok (.iconst 1, 1) := by decide +kernel
theorem dX4_readKnocker_26 : decode cX4_readKnocker 26 = .ok (.invokevirtual 83, 3) := by decide +kernel
theorem dX4_readKnocker_29 : decode cX4_readKnocker 29 = .ok (.istore_n 1, 1) := by decide +kernel
theorem dX4_readKnocker_30 : decode cX4_readKnocker 30 = .ok (.iload_n 1, 1) := by decide +kernel
theorem dX4_readKnocker_31 : decode cX4_readKnocker 31 = .ok (.ifCond .ge 5, 3) := by decide +kernel
theorem dX4_readKnocker_34 : decode cX4_readKnocker 34 = .ok (.iconst 0, 1) := by decide +kernel
theorem dX4_readKnocker_35 : decode cX4_readKnocker 35 = .ok (.ireturn, 1) := by decide +kernel
theorem dX4_readKnocker_36 : decode cX4_readKnocker 36 = .ok (.aload_n 0, 1) := by decide +kernel
theorem dX4_readKnocker_37 : decode cX4_readKnocker 37 = .ok (.getfield 21, 3) := by decide +kernel
theorem dX4_readKnocker_40 : decode cX4_readKnocker 40 = .ok (.getfield 87, 3) := by decide +kernel
theorem dX4_readKnocker_43 : decode cX4_readKnocker 43 = .ok (.aload_n 0, 1) := by decide +kernel
theorem dX4_readKnocker_44 : decode cX4_readKnocker 44 = .ok (.getfield 21, 3) := by decide +kernel
theorem dX4_readKnocker_47 : decode cX4_readKnocker 47 = .ok (.getfield 80, 3) := by decide +kernel
theorem dX4_readKnocker_50 : decode cX4_readKnocker 50 = .ok (.iload_n 1, 1) := by decide +kernel
theorem dX4_readKnocker_51 : decode cX4_readKnocker 51 = .ok (.invokestatic 90, 3) := by decide +kernel
theorem dX4_readKnocker_54 : decode cX4_readKnocker 54 = .ok (.aload_n 0, 1) := by decide +kernel
theorem dX4_readKnocker_55 : decode cX4_readKnocker 55 = .ok (.getfield 21, 3) := by decide +kernel
theorem dX4_readKnocker_58 : decode cX4_readKnocker 58 = .ok (.getfield 94, 3) := by decide +kernel
theorem dX4_readKnocker_61 : decode cX4_readKnocker 61 = .ok (.getfield 98, 3) := by decide +kernel
theorem dX4_readKnocker_64 : decode cX4_readKnocker 64 = .ok (.aload_n 0, 1) := by decide +kernel
theorem dX4_readKnocker_65 : decode cX4_readKnocker 65 = .ok (.getfield 21, 3) := by decide +kernel
theorem dX4_readKnocker_68 : decode cX4_readKnocker 68 = .ok (.getfield 80, 3) := by decide +kernel
theorem dX4_readKnocker_71 : decode cX4_readKnocker 71 = .ok (.aload_n 0, 1) := by decide +kernel
theorem dX4_readKnocker_72 : decode cX4_readKnocker 72 = .ok (.invokevirtual 71, 3) := by decide +kernel
theorem dX4_readKnocker_75 : decode cX4_readKnocker 75 = .ok (.invokestatic 90, 3) := by decide +kernel
theorem dX4_readKnocker_78 : decode cX4_readKnocker 78 = .ok (.aload_n 0, 1) := by decide +kernel
theorem dX4_readKnocker_79 : decode cX4_readKnocker 79 = .ok (.getfield 21, 3) := by decide +kernel
theorem dX4_readKnocker_82 : decode cX4_readKnocker 82 = .ok (.dup, 1) := by decide +kernel
theorem dX4_readKnocker_83 : decode cX4_readKnocker 83 = .ok (.getfield 80, 3) := by decide +kernel
theorem dX4_readKnocker_86 : decode cX4_readKnocker 86 = .ok (.iconst 1, 1) := by decide +kernel
theorem dX4_readKnocker_87 : decode cX4_readKnocker 87 = .ok (.iadd, 1) := by decide +kernel
theorem dX4_readKnocker_88 : decode cX4_readKnocker 88 = .ok (.putfield 80, 3) := by decide +kernel
theorem dX4_readKnocker_91 : decode cX4_readKnocker 91 = .ok (.aload_n 0, 1) := by decide +kernel
theorem dX4_readKnocker_92 : decode cX4_readKnocker 92 = .ok (.invokevirtual 77, 3) := by decide +kernel
theorem dX4_readKnocker_95 : decode cX4_readKnocker 95 = .ok (.ireturn, 1) := by decide +kernel
theorem dX4_readErrand_0 : decode cX4_readErrand 0 = .ok (.aload_n 0, 1) := by decide +kernel
theorem dX4_readErrand_1 : decode cX4_readErrand 1 = .ok (.getfield 21, 3) := by decide +kernel
theorem dX4_readErrand_4 : decode cX4_readErrand 4 = .ok (.getfield 103, 3) := by decide +kernel
theorem dX4_readErrand_7 : decode cX4_readErrand 7 = .ok (.bipush 6, 2) := by decide +kernel
theorem dX4_readErrand_9 : decode cX4_readErrand 9 = .ok (.if_icmp .lt 5, 3) := by decide +kernel
theorem dX4_readErrand_12 : decode cX4_readErrand 12 = .ok (.iconst 0, 1) := by decide +kernel
theorem dX4_readErrand_13 : decode cX4_readErrand 13 = .ok (.ireturn, 1) := by decide +kernel
theorem dX4_readErrand_14 : decode cX4_readErrand 14 = .ok (.aload_n 0, 1) := by decide +kernel
theorem dX4_readErrand_15 : decode cX4_readErrand 15 = .ok (.dup, 1) := by decide +kernel
theorem dX4_readErrand_16 : decode cX4_readErrand 16 = .ok (.getfield 36, 3) := by decide +kernel
theorem dX4_readErrand_19 : decode cX4_readErrand 19 = .ok (.iconst 1, 1) := by decide +kernel
theorem dX4_readErrand_20 : decode cX4_readErrand 20 = .ok (.iadd, 1) := by decide +kernel
theorem dX4_readErrand_21 : decode cX4_readErrand 21 = .ok (.putfield 36, 3) := by decide +kernel
theorem dX4_readErrand_24 : decode cX4_readErrand 24 = .ok (.aload_n 0, 1) := by decide +kernel
theorem dX4_readErrand_25 : decode cX4_readErrand 25 = .ok (.iconst 0, 1) := by decide +kernel
theorem dX4_readErrand_26 : decode cX4_readErrand 26 = .ok (.bipush 7, 2) := by decide +kernel
theorem dX4_readErrand_28 : decode cX4_readErrand 28 = .ok (.invokevirtual 83, 3) := by decide +kernel
theorem dX4_readErrand_31 : decode cX4_readErrand 31 = .ok (.istore_n 1, 1) := by decide +kernel
theorem dX4_readErrand_32 : decode cX4_readErrand 32 = .ok (.iload_n 1, 1) := by decide +kernel
theorem dX4_readErrand_33 : decode cX4_readErrand 33 = .ok (.ifCond .ge 5, 3) := by decide +kernel
theorem dX4_readErrand_36 : decode cX4_readErrand 36 = .ok (.iconst 0, 1) := by decide +kernel
theorem dX4_readErrand_37 : decode cX4_readErrand 37 = .ok (.ireturn, 1) := by decide +kernel
theorem dX4_readErrand_38 : decode cX4_readErrand 38 = .ok (.aload_n 0, 1) := by decide +kernel
theorem dX4_readErrand_39 : decode cX4_readErrand 39 = .ok (.iconst 1, 1) := by decide +kernel
theorem dX4_readErrand_40 : decode cX4_readErrand 40 = .ok (.bipush 9, 2) := by decide +kernel
theorem dX4_readErrand_42 : decode cX4_readErrand 42 = .ok (.invokevirtual 83, 3) := by decide +kernel
theorem dX4_readErrand_45 : decode cX4_readErrand 45 = .ok (.istore_n 2, 1) := by decide +kernel
theorem dX4_readErrand_46 : decode cX4_readErrand 46 = .ok (.iload_n 2, 1) := by decide +kernel
theorem dX4_readErrand_47 : decode cX4_readErrand 47 = .ok (.ifCond .ge 5, 3) := by decide +kernel
theorem dX4_readErrand_50 : decode cX4_readErrand 50 = .ok (.iconst 0, 1) := by decide +kernel
theorem dX4_readErrand_51 : decode cX4_readErrand 51 = .ok (.ireturn, 1) := by decide +kernel
theorem dX4_readErrand_52 : decode cX4_readErrand 52 = .ok (.aload_n 0, 1) := by decide +kernel
theorem dX4_readErrand_53 : decode cX4_readErrand 53 = .ok (.invokevirtual 106, 3) := by decide +kernel
theorem dX4_readErrand_56 : decode cX4_readErrand 56 = .ok (.istore_n 3, 1) := by decide +kernel
theorem dX4_readErrand_57 : decode cX4_readErrand 57 = .ok (.iload_n 3, 1) := by decide +kernel
theorem dX4_readErrand_58 : decode cX4_readErrand 58 = .ok (.ifCond .ge 5, 3) := by decide +kernel
theorem dX4_readErrand_61 : decode cX4_readErrand 61 = .ok (.iconst 0, 1) := by decide +kernel
theorem dX4_readErrand_62 : decode cX4_readErrand 62 = .ok (.ireturn, 1) := by decide +kernel
theorem dX4_readErrand_63 : decode cX4_readErrand 63 = .ok (.aload_n 0, 1) := by decide +kernel
theorem dX4_readErrand_64 : decode cX4_readErrand 64 = .ok (.getfield 21, 3) := by decide +kernel
theorem dX4_readErrand_67 : decode cX4_readErrand 67 = .ok (.getfield 109, 3) := by decide +kernel
theorem dX4_readErrand_70 : decode cX4_readErrand 70 = .ok (.aload_n 0, 1) := by decide +kernel
theorem dX4_readErrand_71 : decode cX4_readErrand 71 = .ok (.getfield 21, 3) := by decide +kernel
theorem dX4_readErrand_74 : decode cX4_readErrand 74 = .ok (.getfield 103, 3) := by decide +kernel
theorem dX4_readErrand_77 : decode cX4_readErrand 77 = .ok (.iload_n 1, 1) := by decide +kernel
theorem dX4_readErrand_78 : decode cX4_readErrand 78 = .ok (.invokestatic 90, 3) := by decide +kernel
theorem dX4_readErrand_81 : decode cX4_readErrand 81 = .ok (.aload_n 0, 1) := by decide +kernel
theorem dX4_readErrand_82 : decode cX4_readErrand 82 = .ok (.getfield 21, 3) := by decide +kernel
theorem dX4_readErrand_85 : decode cX4_readErrand 85 = .ok (.getfield 112, 3) := by decide +kernel
theorem dX4_readErrand_88 : decode cX4_readErrand 88 = .ok (.aload_n 0, 1) := by decide +kernel
theorem dX4_readErrand_89 : decode cX4_readErrand 89 = .ok (.getfield 21, 3) := by decide +kernel
theorem dX4_readErrand_92 : decode cX4_readErrand 92 = .ok (.getfield 103, 3) := by decide +kernel
theorem dX4_readErrand_95 : decode cX4_readErrand 95 = .ok (.iload_n 2, 1) := by decide +kernel
theorem dX4_readErrand_96 : decode cX4_readErrand 96 = .ok (.invokestatic 90, 3) := by decide +kernel
theorem dX4_readErrand_99 : decode cX4_readErrand 99 = .ok (.aload_n 0, 1) := by decide +kernel
theorem dX4_readErrand_100 : decode cX4_readErrand 100 = .ok (.getfield 21, 3) := by decide +kernel
theorem dX4_readErrand_103 : decode cX4_readErrand 103 = .ok (.getfield 115, 3) := by decide +kernel
theorem dX4_readErrand_106 : decode cX4_readErrand 106 = .ok (.aload_n 0, 1) := by decide +kernel
theorem dX4_readErrand_107 : decode cX4_readErrand 107 = .ok (.getfield 21, 3) := by decide +kernel
theorem dX4_readErrand_110 : decode cX4_readErrand 110 = .ok (.getfield 103, 3) := by decide +kernel
theorem dX4_readErrand_113 : decode cX4_readErrand 113 = .ok (.iload_n 3, 1) := by decide +kernel
theorem dX4_readErrand_114 : decode cX4_readErrand 114 = .ok (.invokestatic 90, 3) := by decide +kernel
theorem dX4_readErrand_117 : decode cX4_readErrand 117 = .ok (.aload_n 0, 1) := by decide +kernel
theorem dX4_readErrand_118 : decode cX4_readErrand 118 = .ok (.getfield 21, 3) := by decide +kernel
theorem dX4_readErrand_121 : decode cX4_readErrand 121 = .ok (.dup, 1) := by decide +kernel
theorem dX4_readErrand_122 : decode cX4_readErrand 122 = .ok (.getfield 103, 3) := by decide +kernel
theorem dX4_readErrand_125 : decode cX4_readErrand 125 = .ok (.iconst 1, 1) := by decide +kernel
theorem dX4_readErrand_126 : decode cX4_readErrand 126 = .ok (.iadd, 1) := by decide +kernel
theorem dX4_readErrand_127 : decode cX4_readErrand 127 = .ok (.putfield 103, 3) := by decide +kernel
theorem dX4_readErrand_130 : decode cX4_readErrand 130 = .ok (.aload_n 0, 1) := by decide +kernel
theorem dX4_readErrand_131 : decode cX4_readErrand 131 = .ok (.invokevirtual 77, 3) := by decide +kernel
theorem dX4_readErrand_134 : decode cX4_readErrand 134 = .ok (.ireturn, 1) := by decide +kernel
theorem dX4_readRule_0 : decode cX4_readRule 0 = .ok (.aload_n 0, 1) := by decide +kernel
theorem dX4_readRule_1 : decode cX4_readRule 1 = .ok (.getfield 21, 3) := by decide +kernel
theorem dX4_readRule_4 : decode cX4_readRule 4 = .ok (.getfield 118, 3) := by decide +kernel
theorem dX4_readRule_7 : decode cX4_readRule 7 = .ok (.iconst 4, 1) := by decide +kernel
theorem dX4_readRule_8 : decode cX4_readRule 8 = .ok (.if_icmp .lt 5, 3) := by decide +kernel
theorem dX4_readRule_11 : decode cX4_readRule 11 = .ok (.iconst 0, 1) := by decide +kernel
theorem dX4_readRule_12 : decode cX4_readRule 12 = .ok (.ireturn, 1) := by decide +kernel
theorem dX4_readRule_13 : decode cX4_readRule 13 = .ok (.aload_n 0, 1) := by decide +kernel
theorem dX4_readRule_14 : decode cX4_readRule 14 = .ok (.dup, 1) := by decide +kernel
theorem dX4_readRule_15 : decode cX4_readRule 15 = .ok (.getfield 36, 3) := by decide +kernel
theorem dX4_readRule_18 : decode cX4_readRule 18 = .ok (.iconst 1, 1) := by decide +kernel
theorem dX4_readRule_19 : decode cX4_readRule 19 = .ok (.iadd, 1) := by decide +kernel
theorem dX4_readRule_20 : decode cX4_readRule 20 = .ok (.putfield 36, 3) := by decide +kernel
theorem dX4_readRule_23 : decode cX4_readRule 23 = .ok (.aload_n 0, 1) := by decide +kernel
theorem dX4_readRule_24 : decode cX4_readRule 24 = .ok (.iconst 1, 1) := by decide +kernel
theorem dX4_readRule_25 : decode cX4_readRule 25 = .ok (.bipush 8, 2) := by decide +kernel
theorem dX4_readRule_27 : decode cX4_readRule 27 = .ok (.invokevirtual 83, 3) := by decide +kernel
theorem dX4_readRule_30 : decode cX4_readRule 30 = .ok (.istore_n 1, 1) := by decide +kernel
theorem dX4_readRule_31 : decode cX4_readRule 31 = .ok (.iload_n 1, 1) := by decide +kernel
theorem dX4_readRule_32 : decode cX4_readRule 32 = .ok (.ifCond .ge 5, 3) := by decide +kernel
theorem dX4_readRule_35 : decode cX4_readRule 35 = .ok (.iconst 0, 1) := by decide +kernel
theorem dX4_readRule_36 : decode cX4_readRule 36 = .ok (.ireturn, 1) := by decide +kernel
theorem dX4_readRule_37 : decode cX4_readRule 37 = .ok (.aload_n 0, 1) := by decide +kernel
theorem dX4_readRule_38 : decode cX4_readRule 38 = .ok (.invokevirtual 71, 3) := by decide +kernel
theorem dX4_readRule_41 : decode cX4_readRule 41 = .ok (.istore_n 2, 1) := by decide +kernel
theorem dX4_readRule_42 : decode cX4_readRule 42 = .ok (.iload_n 2, 1) := by decide +kernel
theorem dX4_readRule_43 : decode cX4_readRule 43 = .ok (.invokestatic 121, 3) := by decide +kernel
theorem dX4_readRule_46 : decode cX4_readRule 46 = .ok (.iload_n 1, 1) := by decide +kernel
theorem dX4_readRule_47 : decode cX4_readRule 47 = .ok (.if_icmp .ge 5, 3) := by decide +kernel
theorem dX4_readRule_50 : decode cX4_readRule 50 = .ok (.iconst 0, 1) := by decide +kernel
theorem dX4_readRule_51 : decode cX4_readRule 51 = .ok (.ireturn, 1) := by decide +kernel
theorem dX4_readRule_52 : decode cX4_readRule 52 = .ok (.aload_n 0, 1) := by decide +kernel
theorem dX4_readRule_53 : decode cX4_readRule 53 = .ok (.getfield 21, 3) := by decide +kernel
theorem dX4_readRule_56 : decode cX4_readRule 56 = .ok (.getfield 94, 3) := by decide +kernel
theorem dX4_readRule_59 : decode cX4_readRule 59 = .ok (.getfield 127, 3) := by decide +kernel
theorem dX4_readRule_62 : decode cX4_readRule 62 = .ok (.aload_n 0, 1) := by decide +kernel
theorem dX4_readRule_63 : decode cX4_readRule 63 = .ok (.getfield 21, 3) := by decide +kernel
theorem dX4_readRule_66 : decode cX4_readRule 66 = .ok (.getfield 118, 3) := by decide +kernel
theorem dX4_readRule_69 : decode cX4_readRule 69 = .ok (.iload_n 2, 1) := by decide +kernel
theorem dX4_readRule_70 : decode cX4_readRule 70 = .ok (.invokestatic 90, 3) := by decide +kernel
theorem dX4_readRule_73 : decode cX4_readRule 73 = .ok (.aload_n 0, 1) := by decide +kernel
theorem dX4_readRule_74 : decode cX4_readRule 74 = .ok (.getfield 21, 3) := by decide +kernel
theorem dX4_readRule_77 : decode cX4_readRule 77 = .ok (.getfield 94, 3) := by decide +kernel
theorem dX4_readRule_80 : decode cX4_readRule 80 = .ok (.getfield 130, 3) := by decide +kernel
theorem dX4_readRule_83 : decode cX4_readRule 83 = .ok (.aload_n 0, 1) := by decide +kernel
theorem dX4_readRule_84 : decode cX4_readRule 84 = .ok (.getfield 21, 3) := by decide +kernel
theorem dX4_readRule_87 : decode cX4_readRule 87 = .ok (.getfield 118, 3) := by decide +kernel
theorem dX4_readRule_90 : decode cX4_readRule 90 = .ok (.iload_n 1, 1) := by decide +kernel
theorem dX4_readRule_91 : decode cX4_readRule 91 = .ok (.invokestatic 90, 3) := by decide +kernel
theorem dX4_readRule_94 : decode cX4_readRule 94 = .ok (.aload_n 0, 1) := by decide +kernel
theorem dX4_readRule_95 : decode cX4_readRule 95 = .ok (.getfield 21, 3) := by decide +kernel
theorem dX4_readRule_98 : decode cX4_readRule 98 = .ok (.dup, 1) := by decide +kernel
theorem dX4_readRule_99 : decode cX4_readRule 99 = .ok (.getfield 118, 3) := by decide +kernel
theorem dX4_readRule_102 : decode cX4_readRule 102 = .ok (.iconst 1, 1) := by decide +kernel
theorem dX4_readRule_103 : decode cX4_readRule 103 = .ok (.iadd, 1) := by decide +kernel
theorem dX4_readRule_104 : decode cX4_readRule 104 = .ok (.putfield 118, 3) := by decide +kernel
theorem dX4_readRule_107 : decode cX4_readRule 107 = .ok (.aload_n 0, 1) := by decide +kernel
theorem dX4_readRule_108 : decode cX4_readRule 108 = .ok (.invokevirtual 77, 3) := by decide +kernel
theorem dX4_readRule_111 : decode cX4_readRule 111 = .ok (.ireturn, 1) := by decide +kernel
theorem dX4_readNeed_0 : decode cX4_readNeed 0 = .ok (.aload_n 0, 1) := by decide +kernel
theorem dX4_readNeed_1 : decode cX4_readNeed 1 = .ok (.iconst 0, 1) := by decide +kernel
theorem dX4_readNeed_2 : decode cX4_readNeed 2 = .ok (.bipush 7, 2) := by decide +kernel
theorem dX4_readNeed_4 : decode cX4_readNeed 4 = .ok (.invokevirtual 83, 3) := by decide +kernel
theorem dX4_readNeed_7 : decode cX4_readNeed 7 = .ok (.istore_n 1, 1) := by decide +kernel
theorem dX4_readNeed_8 : decode cX4_readNeed 8 = .ok (.iload_n 1, 1) := by decide +kernel
theorem dX4_readNeed_9 : decode cX4_readNeed 9 = .ok (.ifCond .ge 14, 3) := by decide +kernel
theorem dX4_readNeed_12 : decode cX4_readNeed 12 = .ok (.aload_n 0, 1) := by decide +kernel
theorem dX4_readNeed_13 : decode cX4_readNeed 13 = .ok (.bipush 9, 2) := by decide +kernel
theorem dX4_readNeed_15 : decode cX4_readNeed 15 = .ok (.bipush 9, 2) := by decide +kernel
theorem dX4_readNeed_17 : decode cX4_readNeed 17 = .ok (.invokevirtual 83, 3) := by decide +kernel
theorem dX4_readNeed_20 : decode cX4_readNeed 20 = .ok (.goto 4, 3) := by decide +kernel
theorem dX4_readNeed_23 : decode cX4_readNeed 23 = .ok (.iload_n 1, 1) := by decide +kernel
theorem dX4_readNeed_24 : decode cX4_readNeed 24 = .ok (.ireturn, 1) := by decide +kernel
theorem dX4_readSigns_0 : decode cX4_readSigns 0 = .ok (.iconst 0, 1) := by decide +kernel
theorem dX4_readSigns_1 : decode cX4_readSigns 1 = .ok (.istore_n 1, 1) := by decide +kernel
theorem dX4_readSigns_2 : decode cX4_readSigns 2 = .ok (.iconst 0, 1) := by decide +kernel
theorem dX4_readSigns_3 : decode cX4_readSigns 3 = .ok (.istore_n 2, 1) := by decide +kernel
theorem dX4_readSigns_4 : decode cX4_readSigns 4 = .ok (.iload_n 2, 1) := by decide +kernel
theorem dX4_readSigns_5 : decode cX4_readSigns 5 = .ok (.bipush 8, 2) := by decide +kernel
theorem dX4_readSigns_7 : decode cX4_readSigns 7 = .ok (.if_icmp .ge 58, 3) := by decide +kernel
theorem dX4_readSigns_10 : decode cX4_readSigns 10 = .ok (.aload_n 0, 1) := by decide +kernel
theorem dX4_readSigns_11 : decode cX4_readSigns 11 = .ok (.getfield 12, 3) := by decide +kernel
theorem dX4_readSigns_14 : decode cX4_readSigns 14 = .ok (.getfield 133, 3) := by decide +kernel
theorem dX4_readSigns_17 : decode cX4_readSigns 17 = .ok (.aload_n 0, 1) := by decide +kernel
theorem dX4_readSigns_18 : decode cX4_readSigns 18 = .ok (.getfield 36, 3) := by decide +kernel
theorem dX4_readSigns_21 : decode cX4_readSigns 21 = .ok (.invokestatic 52, 3) := by decide +kernel
theorem dX4_readSigns_24 : decode cX4_readSigns 24 = .ok (.istore_n 3, 1) := by decide +kernel
theorem dX4_readSigns_25 : decode cX4_readSigns 25 = .ok (.iload_n 3, 1) := by decide +kernel
theorem dX4_readSigns_26 : decode cX4_readSigns 26 = .ok (.invokestatic 136, 3) := by decide +kernel
theorem dX4_readSigns_29 : decode cX4_readSigns 29 = .ok (.ifCond .eq 36, 3) := by decide +kernel
theorem dX4_readSigns_32 : decode cX4_readSigns 32 = .ok (.iload_n 1, 1) := by decide +kernel
theorem dX4_readSigns_33 : decode cX4_readSigns 33 = .ok (.iload_n 3, 1) := by decide +kernel
theorem dX4_readSigns_34 : decode cX4_readSigns 34 = .ok (.invokestatic 140, 3) := by decide +kernel
theorem dX4_readSigns_37 : decode cX4_readSigns 37 = .ok (.ifCond .eq 6, 3) := by decide +kernel
theorem dX4_readSigns_40 : decode cX4_readSigns 40 = .ok (.goto 25, 3) := by decide +kernel
theorem dX4_readSigns_43 : decode cX4_readSigns 43 = .ok (.iload_n 1, 1) := by decide +kernel
theorem dX4_readSigns_44 : decode cX4_readSigns 44 = .ok (.iconst 1, 1) := by decide +kernel
theorem dX4_readSigns_45 : decode cX4_readSigns 45 = .ok (.iload_n 3, 1) := by decide +kernel
theorem dX4_readSigns_46 : decode cX4_readSigns 46 = .ok (.ishl, 1) := by decide +kernel
theorem dX4_readSigns_47 : decode cX4_readSigns 47 = .ok (.ior, 1) := by decide +kernel
theorem dX4_readSigns_48 : decode cX4_readSigns 48 = .ok (.istore_n 1, 1) := by decide +kernel
theorem dX4_readSigns_49 : decode cX4_readSigns 49 = .ok (.aload_n 0, 1) := by decide +kernel
theorem dX4_readSigns_50 : decode cX4_readSigns 50 = .ok (.dup, 1) := by decide +kernel
theorem dX4_readSigns_51 : decode cX4_readSigns 51 = .ok (.getfield 36, 3) := by decide +kernel
theorem dX4_readSigns_54 : decode cX4_readSigns 54 = .ok (.iconst 1, 1) := by decide +kernel
theorem dX4_readSigns_55 : decode cX4_readSigns 55 = .ok (.iadd, 1) := by decide +kernel
theorem dX4_readSigns_56 : decode cX4_readSigns 56 = .ok (.putfield 36, 3) := by decide +kernel
theorem dX4_readSigns_59 : decode cX4_readSigns 59 = .ok (.iinc 2 1, 3) := by decide +kernel
theorem dX4_readSigns_62 : decode cX4_readSigns 62 = .ok (.goto (-58), 3) := by decide +kernel
theorem dX4_readSigns_65 : decode cX4_readSigns 65 = .ok (.iload_n 1, 1) := by decide +kernel
theorem dX4_readSigns_66 : decode cX4_readSigns 66 = .ok (.ireturn, 1) := by decide +kernel
theorem dX4_readNumber_0 : decode cX4_readNumber 0 = .ok (.aload_n 0, 1) := by decide +kernel
theorem dX4_readNumber_1 : decode cX4_readNumber 1 = .ok (.getfield 12, 3) := by decide +kernel
theorem dX4_readNumber_4 : decode cX4_readNumber 4 = .ok (.getfield 133, 3) := by decide +kernel
theorem dX4_readNumber_7 : decode cX4_readNumber 7 = .ok (.aload_n 0, 1) := by decide +kernel
theorem dX4_readNumber_8 : decode cX4_readNumber 8 = .ok (.getfield 36, 3) := by decide +kernel
theorem dX4_readNumber_11 : decode cX4_readNumber 11 = .ok (.invokestatic 52, 3) := by decide +kernel
theorem dX4_readNumber_14 : decode cX4_readNumber 14 = .ok (.istore_n 3, 1) := by decide +kernel
theorem dX4_readNumber_15 : decode cX4_readNumber 15 = .ok (.iload_n 3, 1) := by decide +kernel
theorem dX4_readNumber_16 : decode cX4_readNumber 16 = .ok (.iload_n 1, 1) := by decide +kernel
theorem dX4_readNumber_17 : decode cX4_readNumber 17 = .ok (.if_icmp .lt 8, 3) := by decide +kernel
theorem dX4_readNumber_20 : decode cX4_readNumber 20 = .ok (.iload_n 3, 1) := by decide +kernel
theorem dX4_readNumber_21 : decode cX4_readNumber 21 = .ok (.iload_n 2, 1) := by decide +kernel
theorem dX4_readNumber_22 : decode cX4_readNumber 22 = .ok (.if_icmp .le 5, 3) := by decide +kernel
theorem dX4_readNumber_25 : decode cX4_readNumber 25 = .ok (.iconst (-1), 1) := by decide +kernel
theorem dX4_readNumber_26 : decode cX4_readNumber 26 = .ok (.ireturn, 1) := by decide +kernel
theorem dX4_readNumber_27 : decode cX4_readNumber 27 = .ok (.aload_n 0, 1) := by decide +kernel
theorem dX4_readNumber_28 : decode cX4_readNumber 28 = .ok (.dup, 1) := by decide +kernel
theorem dX4_readNumber_29 : decode cX4_readNumber 29 = .ok (.getfield 36, 3) := by decide +kernel
theorem dX4_readNumber_32 : decode cX4_readNumber 32 = .ok (.iconst 1, 1) := by decide +kernel
theorem dX4_readNumber_33 : decode cX4_readNumber 33 = .ok (.iadd, 1) := by decide +kernel
theorem dX4_readNumber_34 : decode cX4_readNumber 34 = .ok (.putfield 36, 3) := by decide +kernel
theorem dX4_readNumber_37 : decode cX4_readNumber 37 = .ok (.iload_n 3, 1) := by decide +kernel
theorem dX4_readNumber_38 : decode cX4_readNumber 38 = .ok (.ireturn, 1) := by decide +kernel
theorem dX4_readStop_0 : decode cX4_readStop 0 = .ok (.aload_n 0, 1) := by decide +kernel
theorem dX4_readStop_1 : decode cX4_readStop 1 = .ok (.invokevirtual 40, 3) := by decide +kernel
theorem dX4_readStop_4 : decode cX4_readStop 4 = .ok (.iconst 2, 1) := by decide +kernel
theorem dX4_readStop_5 : decode cX4_readStop 5 = .ok (.if_icmp .eq 5, 3) := by decide +kernel
theorem dX4_readStop_8 : decode cX4_readStop 8 = .ok (.iconst 0, 1) := by decide +kernel
theorem dX4_readStop_9 : decode cX4_readStop 9 = .ok (.ireturn, 1) := by decide +kernel
theorem dX4_readStop_10 : decode cX4_readStop 10 = .ok (.aload_n 0, 1) := by decide +kernel
theorem dX4_readStop_11 : decode cX4_readStop 11 = .ok (.dup, 1) := by decide +kernel
theorem dX4_readStop_12 : decode cX4_readStop 12 = .ok (.getfield 36, 3) := by decide +kernel
theorem dX4_readStop_15 : decode cX4_readStop 15 = .ok (.iconst 1, 1) := by decide +kernel
theorem dX4_readStop_16 : decode cX4_readStop 16 = .ok (.iadd, 1) := by decide +kernel
theorem dX4_readStop_17 : decode cX4_readStop 17 = .ok (.putfield 36, 3) := by decide +kernel
theorem dX4_readStop_20 : decode cX4_readStop 20 = .ok (.iconst 1, 1) := by decide +kernel
theorem dX4_readStop_21 : decode cX4_readStop 21 = .ok (.ireturn, 1) := by decide +kernel
theorem dX5_init_0 : decode cX5_init 0 = .ok (.aload_n 0, 1) := by decide +kernel
theorem dX5_init_1 : decode cX5_init 1 = .ok (.invokespecial 3, 3) := by decide +kernel
theorem dX5_init_4 : decode cX5_init 4 = .ok (.aload_n 0, 1) := by decide +kernel
theorem dX5_init_5 : decode cX5_init 5 = .ok (.sipush 300, 3) := by decide +kernel
theorem dX5_init_8 : decode cX5_init 8 = .ok (.newarray .byte, 2) := by decide +kernel
theorem dX5_init_10 : decode cX5_init 10 = .ok (.putfield 9, 3) := by decide +kernel
theorem dX5_init_13 : decode cX5_init 13 = .ok (.return_, 1) := by decide +kernel
theorem dX5_add_0 : decode cX5_add 0 = .ok (.aload_n 0, 1) := by decide +kernel
theorem dX5_add_1 : decode cX5_add 1 = .ok (.getfield 15, 3) := by decide +kernel
theorem dX5_add_4 : decode cX5_add 4 = .ok (.ifCond .lt 15, 3) := by decide +kernel
theorem dX5_add_7 : decode cX5_add 7 = .ok (.aload_n 0, 1) := by decide +kernel
theorem dX5_add_8 : decode cX5_add 8 = .ok (.getfield 15, 3) := by decide +kernel
theorem dX5_add_11 : decode cX5_add 11 = .ok (.aload_n 0, 1) := by decide +kernel
theorem dX5_add_12 : decode cX5_add 12 = .ok (.getfield 9, 3) := by decide +kernel
theorem dX5_add_15 : decode cX5_add 15 = .ok (.arraylength, 1) := by decide +kernel
theorem dX5_add_16 : decode cX5_add 16 = .ok (.if_icmp .lt 4, 3) := by decide +kernel
theorem dX5_add_19 : decode cX5_add 19 = .ok (.return_, 1) := by decide +kernel
theorem dX5_add_20 : decode cX5_add 20 = .ok (.aload_n 0, 1) := by decide +kernel
theorem dX5_add_21 : decode cX5_add 21 = .ok (.getfield 9, 3) := by decide +kernel
theorem dX5_add_24 : decode cX5_add 24 = .ok (.aload_n 0, 1) := by decide +kernel
theorem dX5_add_25 : decode cX5_add 25 = .ok (.getfield 15, 3) := by decide +kernel
theorem dX5_add_28 : decode cX5_add 28 = .ok (.iload_n 1, 1) := by decide +kernel
theorem dX5_add_29 : decode cX5_add 29 = .ok (.i2b, 1) := by decide +kernel
theorem dX5_add_30 : decode cX5_add 30 = .ok (.bastore, 1) := by decide +kernel
theorem dX5_add_31 : decode cX5_add 31 = .ok (.aload_n 0, 1) := by decide +kernel
theorem dX5_add_32 : decode cX5_add 32 = .ok (.dup, 1) := by decide +kernel
theorem dX5_add_33 : decode cX5_add 33 = .ok (.getfield 15, 3) := by decide +kernel
theorem dX5_add_36 : decode cX5_add 36 = .ok (.iconst 1, 1) := by decide +kernel
theorem dX5_add_37 : decode cX5_add 37 = .ok (.iadd, 1) := by decide +kernel
theorem dX5_add_38 : decode cX5_add 38 = .ok (.putfield 15, 3) := by decide +kernel
theorem dX5_add_41 : decode cX5_add 41 = .ok (.return_, 1) := by decide +kernel
theorem dX5_byteAt_0 : decode cX5_byteAt 0 = .ok (.iload_n 1, 1) := by decide +kernel
theorem dX5_byteAt_1 : decode cX5_byteAt 1 = .ok (.ifCond .lt 33, 3) := by decide +kernel
theorem dX5_byteAt_4 : decode cX5_byteAt 4 = .ok (.iload_n 1, 1) := by decide +kernel
theorem dX5_byteAt_5 : decode cX5_byteAt 5 = .ok (.aload_n 0, 1) := by decide +kernel
theorem dX5_byteAt_6 : decode cX5_byteAt 6 = .ok (.getfield 15, 3) := by decide +kernel
theorem dX5_byteAt_9 : decode cX5_byteAt 9 = .ok (.if_icmp .ge 25, 3) := by decide +kernel
theorem dX5_byteAt_12 : decode cX5_byteAt 12 = .ok (.iload_n 1, 1) := by decide +kernel
theorem dX5_byteAt_13 : decode cX5_byteAt 13 = .ok (.aload_n 0, 1) := by decide +kernel
theorem dX5_byteAt_14 : decode cX5_byteAt 14 = .ok (.getfield 9, 3) := by decide +kernel
theorem dX5_byteAt_17 : decode cX5_byteAt 17 = .ok (.arraylength, 1) := by decide +kernel
theorem dX5_byteAt_18 : decode cX5_byteAt 18 = .ok (.if_icmp .ge 16, 3) := by decide +kernel
theorem dX5_byteAt_21 : decode cX5_byteAt 21 = .ok (.aload_n 0, 1) := by decide +kernel
theorem dX5_byteAt_22 : decode cX5_byteAt 22 = .ok (.getfield 9, 3) := by decide +kernel
theorem dX5_byteAt_25 : decode cX5_byteAt 25 = .ok (.iload_n 1, 1) := by decide +kernel
theorem dX5_byteAt_26 : decode cX5_byteAt 26 = .ok (.baload, 1) := by decide +kernel
theorem dX5_byteAt_27 : decode cX5_byteAt 27 = .ok (.sipush 255, 3) := by decide +kernel
theorem dX5_byteAt_30 : decode cX5_byteAt 30 = .ok (.iand, 1) := by decide +kernel
theorem dX5_byteAt_31 : decode cX5_byteAt 31 = .ok (.goto 4, 3) := by decide +kernel
theorem dX5_byteAt_34 : decode cX5_byteAt 34 = .ok (.iconst (-1), 1) := by decide +kernel
theorem dX5_byteAt_35 : decode cX5_byteAt 35 = .ok (.ireturn, 1) := by decide +kernel
theorem dX6_init_0 : decode cX6_init 0 = .ok (.aload_n 0, 1) := by decide +kernel
theorem dX6_init_1 : decode cX6_init 1 = .ok (.invokespecial 3, 3) := by decide +kernel
theorem dX6_init_4 : decode cX6_init 4 = .ok (.aload_n 0, 1) := by decide +kernel
theorem dX6_init_5 : decode cX6_init 5 = .ok (.sipush 301, 3) := by decide +kernel
theorem dX6_init_8 : decode cX6_init 8 = .ok (.newarray .int, 2) := by decide +kernel
theorem dX6_init_10 : decode cX6_init 10 = .ok (.putfield 9, 3) := by decide +kernel
theorem dX6_init_13 : decode cX6_init 13 = .ok (.aload_n 0, 1) := by decide +kernel
theorem dX6_init_14 : decode cX6_init 14 = .ok (.sipush 301, 3) := by decide +kernel
theorem dX6_init_17 : decode cX6_init 17 = .ok (.newarray .int, 2) := by decide +kernel
theorem dX6_init_19 : decode cX6_init 19 = .ok (.putfield 15, 3) := by decide +kernel
theorem dX6_init_22 : decode cX6_init 22 = .ok (.aload_n 0, 1) := by decide +kernel
theorem dX6_init_23 : decode cX6_init 23 = .ok (.sipush 301, 3) := by decide +kernel
theorem dX6_init_26 : decode cX6_init 26 = .ok (.newarray .int, 2) := by decide +kernel
theorem dX6_init_28 : decode cX6_init 28 = .ok (.putfield 18, 3) := by decide +kernel
theorem dX6_init_31 : decode cX6_init 31 = .ok (.return_, 1) := by decide +kernel
theorem dX6_split_0 : decode cX6_split 0 = .ok (.iconst 0, 1) := by decide +kernel
theorem dX6_split_1 : decode cX6_split 1 = .ok (.istore_n 2, 1) := by decide +kernel
theorem dX6_split_2 : decode cX6_split 2 = .ok (.iconst 0, 1) := by decide +kernel
theorem dX6_split_3 : decode cX6_split 3 = .ok (.istore_n 3, 1) := by decide +kernel
theorem dX6_split_4 : decode cX6_split 4 = .ok (.iload_n 3, 1) := by decide +kernel
theorem dX6_split_5 : decode cX6_split 5 = .ok (.sipush 300, 3) := by decide +kernel
theorem dX6_split_8 : decode cX6_split 8 = .ok (.if_icmp .gt 95, 3) := by decide +kernel
theorem dX6_split_11 : decode cX6_split 11 = .ok (.aload_n 1, 1) := by decide +kernel
theorem dX6_split_12 : decode cX6_split 12 = .ok (.iload_n 2, 1) := by decide +kernel
theorem dX6_split_13 : decode cX6_split 13 = .ok (.invokestatic 21, 3) := by decide +kernel
theorem dX6_split_16 : decode cX6_split 16 = .ok (.istore 4, 2) := by decide +kernel
theorem dX6_split_18 : decode cX6_split 18 = .ok (.aload_n 1, 1) := by decide +kernel
theorem dX6_split_19 : decode cX6_split 19 = .ok (.iload 4, 2) := by decide +kernel
theorem dX6_split_21 : decode cX6_split 21 = .ok (.invokestatic 25, 3) := by decide +kernel
theorem dX6_split_24 : decode cX6_split 24 = .ok (.istore 5, 2) := by decide +kernel
theorem dX6_split_26 : decode cX6_split 26 = .ok (.aload_n 1, 1) := by decide +kernel
theorem dX6_split_27 : decode cX6_split 27 = .ok (.iload 4, 2) := by decide +kernel
theorem dX6_split_29 : decode cX6_split 29 = .ok (.iload 5, 2) := by decide +kernel
theorem dX6_split_31 : decode cX6_split 31 = .ok (.invokestatic 28, 3) := by decide +kernel
theorem dX6_split_34 : decode cX6_split 34 = .ok (.istore 6, 2) := by decide +kernel
theorem dX6_split_36 : decode cX6_split 36 = .ok (.aload_n 0, 1) := by decide +kernel
theorem dX6_split_37 : decode cX6_split 37 = .ok (.getfield 15, 3) := by decide +kernel
theorem dX6_split_40 : decode cX6_split 40 = .ok (.iload_n 3, 1) := by decide +kernel
theorem dX6_split_41 : decode cX6_split 41 = .ok (.iload 4, 2) := by decide +kernel
theorem dX6_split_43 : decode cX6_split 43 = .ok (.invokestatic 32, 3) := by decide +kernel
theorem dX6_split_46 : decode cX6_split 46 = .ok (.aload_n 0, 1) := by decide +kernel
theorem dX6_split_47 : decode cX6_split 47 = .ok (.getfield 9, 3) := by decide +kernel
theorem dX6_split_50 : decode cX6_split 50 = .ok (.iload_n 3, 1) := by decide +kernel
theorem dX6_split_51 : decode cX6_split 51 = .ok (.iload 6, 2) := by decide +kernel
theorem dX6_split_53 : decode cX6_split 53 = .ok (.invokestatic 32, 3) := by decide +kernel
theorem dX6_split_56 : decode cX6_split 56 = .ok (.aload_n 0, 1) := by decide +kernel
theorem dX6_split_57 : decode cX6_split 57 = .ok (.getfield 18, 3) := by decide +kernel
theorem dX6_split_60 : decode cX6_split 60 = .ok (.iload_n 3, 1) := by decide +kernel
theorem dX6_split_61 : decode cX6_split 61 = .ok (.iload 6, 2) := by decide +kernel
theorem dX6_split_63 : decode cX6_split 63 = .ok (.iconst 3, 1) := by decide +kernel
theorem dX6_split_64 : decode cX6_split 64 = .ok (.if_icmp .ne 14, 3) := by decide +kernel
theorem dX6_split_67 : decode cX6_split 67 = .ok (.aload_n 1, 1) := by decide +kernel
theorem dX6_split_68 : decode cX6_split 68 = .ok (.iload 4, 2) := by decide +kernel
theorem dX6_split_70 : decode cX6_split 70 = .ok (.iload 5, 2) := by decide +kernel
theorem dX6_split_72 : decode cX6_split 72 = .ok (.invokestatic 36, 3) := by decide +kernel
theorem dX6_split_75 : decode cX6_split 75 = .ok (.goto 4, 3) := by decide +kernel
theorem dX6_split_78 : decode cX6_split 78 = .ok (.iconst (-1), 1) := by decide +kernel
theorem dX6_split_79 : decode cX6_split 79 = .ok (.invokestatic 32, 3) := by decide +kernel
theorem dX6_split_82 : decode cX6_split 82 = .ok (.iload 6, 2) := by decide +kernel
theorem dX6_split_84 : decode cX6_split 84 = .ok (.ifCond .eq 9, 3) := by decide +kernel
theorem dX6_split_87 : decode cX6_split 87 = .ok (.iload 6, 2) := by decide +kernel
theorem dX6_split_89 : decode cX6_split 89 = .ok (.iconst 1, 1) := by decide +kernel
theorem dX6_split_90 : decode cX6_split 90 = .ok (.if_icmp .ne 4, 3) := by decide +kernel
theorem dX6_split_93 : decode cX6_split 93 = .ok (.return_, 1) := by decide +kernel
theorem dX6_split_94 : decode cX6_split 94 = .ok (.iload 5, 2) := by decide +kernel
theorem dX6_split_96 : decode cX6_split 96 = .ok (.istore_n 2, 1) := by decide +kernel
theorem dX6_split_97 : decode cX6_split 97 = .ok (.iinc 3 1, 3) := by decide +kernel
theorem dX6_split_100 : decode cX6_split 100 = .ok (.goto (-96), 3) := by decide +kernel
theorem dX6_split_103 : decode cX6_split 103 = .ok (.return_, 1) := by decide +kernel
theorem dX6_passBlanks_0 : decode cX6_passBlanks 0 = .ok (.iload_n 1, 1) := by decide +kernel
theorem dX6_passBlanks_1 : decode cX6_passBlanks 1 = .ok (.istore_n 2, 1) := by decide +kernel
theorem dX6_passBlanks_2 : decode cX6_passBlanks 2 = .ok (.iload_n 2, 1) := by decide +kernel
theorem dX6_passBlanks_3 : decode cX6_passBlanks 3 = .ok (.sipush 300, 3) := by decide +kernel
theorem dX6_passBlanks_6 : decode cX6_passBlanks 6 = .ok (.if_icmp .ge 19, 3) := by decide +kernel
theorem dX6_passBlanks_9 : decode cX6_passBlanks 9 = .ok (.aload_n 0, 1) := by decide +kernel
theorem dX6_passBlanks_10 : decode cX6_passBlanks 10 = .ok (.iload_n 2, 1) := by decide +kernel
theorem dX6_passBlanks_11 : decode cX6_passBlanks 11 = .ok (.invokevirtual 39, 3) := by decide +kernel
theorem dX6_passBlanks_14 : decode cX6_passBlanks 14 = .ok (.bipush 32, 2) := by decide +kernel
theorem dX6_passBlanks_16 : decode cX6_passBlanks 16 = .ok (.if_icmp .ne 9, 3) := by decide +kernel
theorem dX6_passBlanks_19 : decode cX6_passBlanks 19 = .ok (.iinc 2 1, 3) := by decide +kernel
theorem dX6_passBlanks_22 : decode cX6_passBlanks 22 = .ok (.goto (-20), 3) := by decide +kernel
theorem dX6_passBlanks_25 : decode cX6_passBlanks 25 = .ok (.iload_n 2, 1) := by decide +kernel
theorem dX6_passBlanks_26 : decode cX6_passBlanks 26 = .ok (.ireturn, 1) := by decide +kernel
theorem dX6_endOf_0 : decode cX6_endOf 0 = .ok (.iload_n 1, 1) := by decide +kernel
theorem dX6_endOf_1 : decode cX6_endOf 1 = .ok (.iconst 1, 1) := by decide +kernel
theorem dX6_endOf_2 : decode cX6_endOf 2 = .ok (.iadd, 1) := by decide +kernel
theorem dX6_endOf_3 : decode cX6_endOf 3 = .ok (.istore_n 2, 1) := by decide +kernel
theorem dX6_endOf_4 : decode cX6_endOf 4 = .ok (.aload_n 0, 1) := by decide +kernel
theorem dX6_endOf_5 : decode cX6_endOf 5 = .ok (.iload_n 1, 1) := by decide +kernel
theorem dX6_endOf_6 : decode cX6_endOf 6 = .ok (.invokevirtual 39, 3) := by decide +kernel
theorem dX6_endOf_9 : decode cX6_endOf 9 = .ok (.invokestatic 45, 3) := by decide +kernel
theorem dX6_endOf_12 : decode cX6_endOf 12 = .ok (.ifCond .eq 27, 3) := by decide +kernel
theorem dX6_endOf_15 : decode cX6_endOf 15 = .ok (.iload_n 2, 1) := by decide +kernel
theorem dX6_endOf_16 : decode cX6_endOf 16 = .ok (.sipush 300, 3) := by decide +kernel
theorem dX6_endOf_19 : decode cX6_endOf 19 = .ok (.if_icmp .ge 55, 3) := by decide +kernel
theorem dX6_endOf_22 : decode cX6_endOf 22 = .ok (.aload_n 0, 1) := by decide +kernel
theorem dX6_endOf_23 : decode cX6_endOf 23 = .ok (.iload_n 2, 1) := by decide +kernel
theorem dX6_endOf_24 : decode cX6_endOf 24 = .ok (.invokevirtual 39, 3) := by decide +kernel
theorem dX6_endOf_27 : decode cX6_endOf 27 = .ok (.invokestatic 45, 3) := by decide +kernel
theorem dX6_endOf_30 : decode cX6_endOf 30 = .ok (.ifCond .eq 44, 3) := by decide +kernel
theorem dX6_endOf_33 : decode cX6_endOf 33 = .ok (.iinc 2 1, 3) := by decide +kernel
theorem dX6_endOf_36 : decode cX6_endOf 36 = .ok (.goto (-21), 3) := by decide +kernel
theorem dX6_endOf_39 : decode cX6_endOf 39 = .ok (.aload_n 0, 1) := by decide +kernel
theorem dX6_endOf_40 : decode cX6_endOf 40 = .ok (.iload_n 1, 1) := by decide +kernel
theorem dX6_endOf_41 : decode cX6_endOf 41 = .ok (.invokevirtual 39, 3) := by decide +kernel
theorem dX6_endOf_44 : decode cX6_endOf 44 = .ok (.invokestatic 49, 3) := by decide +kernel
theorem dX6_endOf_47 : decode cX6_endOf 47 = .ok (.ifCond .eq 27, 3) := by decide +kernel
theorem dX6_endOf_50 : decode cX6_endOf 50 = .ok (.iload_n 2, 1) := by decide +kernel
theorem dX6_endOf_51 : decode cX6_endOf 51 = .ok (.sipush 300, 3) := by decide +kernel
theorem dX6_endOf_54 : decode cX6_endOf 54 = .ok (.if_icmp .ge 20, 3) := by decide +kernel
theorem dX6_endOf_57 : decode cX6_endOf 57 = .ok (.aload_n 0, 1) := by decide +kernel
theorem dX6_endOf_58 : decode cX6_endOf 58 = .ok (.iload_n 2, 1) := by decide +kernel
theorem dX6_endOf_59 : decode cX6_endOf 59 = .ok (.invokevirtual 39, 3) := by decide +kernel
theorem dX6_endOf_62 : decode cX6_endOf 62 = .ok (.invokestatic 49, 3) := by decide +kernel
theorem dX6_endOf_65 : decode cX6_endOf 65 = .ok (.ifCond .eq 9, 3) := by decide +kernel
theorem dX6_endOf_68 : decode cX6_endOf 68 = .ok (.iinc 2 1, 3) := by decide +kernel
theorem dX6_endOf_71 : decode cX6_endOf 71 = .ok (.goto (-21), 3) := by decide +kernel
theorem dX6_endOf_74 : decode cX6_endOf 74 = .ok (.iload_n 2, 1) := by decide +kernel
theorem dX6_endOf_75 : decode cX6_endOf 75 = .ok (.ireturn, 1) := by decide +kernel
theorem dX6_kindOf_0 : decode cX6_kindOf 0 = .ok (.aload_n 0, 1) := by decide +kernel
theorem dX6_kindOf_1 : decode cX6_kindOf 1 = .ok (.iload_n 1, 1) := by decide +kernel
theorem dX6_kindOf_2 : decode cX6_kindOf 2 = .ok (.invokevirtual 39, 3) := by decide +kernel
theorem dX6_kindOf_5 : decode cX6_kindOf 5 = .ok (.istore_n 3, 1) := by decide +kernel
theorem dX6_kindOf_6 : decode cX6_kindOf 6 = .ok (.iload_n 3, 1) := by decide +kernel
theorem dX6_kindOf_7 : decode cX6_kindOf 7 = .ok (.ifCond .ge 5, 3) := by decide +kernel
theorem dX6_kindOf_10 : decode cX6_kindOf 10 = .ok (.iconst 0, 1) := by decide +kernel
theorem dX6_kindOf_11 : decode cX6_kindOf 11 = .ok (.ireturn, 1) := by decide +kernel
theorem dX6_kindOf_12 : decode cX6_kindOf 12 = .ok (.iload_n 3, 1) := by decide +kernel
theorem dX6_kindOf_13 : decode cX6_kindOf 13 = .ok (.bipush 59, 2) := by decide +kernel
theorem dX6_kindOf_15 : decode cX6_kindOf 15 = .ok (.if_icmp .ne 5, 3) := by decide +kernel
theorem dX6_kindOf_18 : decode cX6_kindOf 18 = .ok (.iconst 2, 1) := by decide +kernel
theorem dX6_kindOf_19 : decode cX6_kindOf 19 = .ok (.ireturn, 1) := by decide +kernel
theorem dX6_kindOf_20 : decode cX6_kindOf 20 = .ok (.iload_n 3, 1) := by decide +kernel
theorem dX6_kindOf_21 : decode cX6_kindOf 21 = .ok (.invokestatic 49, 3) := by decide +kernel
theorem dX6_kindOf_24 : decode cX6_kindOf 24 = .ok (.ifCond .eq 18, 3) := by decide +kernel
theorem dX6_kindOf_27 : decode cX6_kindOf 27 = .ok (.aload_n 0, 1) := by decide +kernel
theorem dX6_kindOf_28 : decode cX6_kindOf 28 = .ok (.iload_n 1, 1) := by decide +kernel
theorem dX6_kindOf_29 : decode cX6_kindOf 29 = .ok (.iload_n 2, 1) := by decide +kernel
theorem dX6_kindOf_30 : decode cX6_kindOf 30 = .ok (.invokestatic 36, 3) := by decide +kernel
theorem dX6_kindOf_33 : decode cX6_kindOf 33 = .ok (.ifCond .ge 7, 3) := by decide +kernel
theorem dX6_kindOf_36 : decode cX6_kindOf 36 = .ok (.iconst 1, 1) := by decide +kernel
theorem dX6_kindOf_37 : decode cX6_kindOf 37 = .ok (.goto 4, 3) := by decide +kernel
theorem dX6_kindOf_40 : decode cX6_kindOf 40 = .ok (.iconst 3, 1) := by decide +kernel
theorem dX6_kindOf_41 : decode cX6_kindOf 41 = .ok (.ireturn, 1) := by decide +kernel
theorem dX6_kindOf_42 : decode cX6_kindOf 42 = .ok (.aload_n 0, 1) := by decide +kernel
theorem dX6_kindOf_43 : decode cX6_kindOf 43 = .ok (.iload_n 1, 1) := by decide +kernel
theorem dX6_kindOf_44 : decode cX6_kindOf 44 = .ok (.iload_n 2, 1) := by decide +kernel
theorem dX6_kindOf_45 : decode cX6_kindOf 45 = .ok (.ldc 52, 2) := by decide +kernel
theorem dX6_kindOf_47 : decode cX6_kindOf 47 = .ok (.invokestatic 54, 3) := by decide +kernel
theorem dX6_kindOf_50 : decode cX6_kindOf 50 = .ok (.ifCond .eq 5, 3) := by decide +kernel
theorem dX6_kindOf_53 : decode cX6_kindOf 53 = .ok (.iconst 4, 1) := by decide +kernel
theorem dX6_kindOf_54 : decode cX6_kindOf 54 = .ok (.ireturn, 1) := by decide +kernel
theorem dX6_kindOf_55 : decode cX6_kindOf 55 = .ok (.aload_n 0, 1) := by decide +kernel
theorem dX6_kindOf_56 : decode cX6_kindOf 56 = .ok (.iload_n 1, 1) := by decide +kernel
theorem dX6_kindOf_57 : decode cX6_kindOf 57 = .ok (.iload_n 2, 1) := by decide +kernel
theorem dX6_kindOf_58 : decode cX6_kindOf 58 = .ok (.ldc 58, 2) := by decide +kernel
theorem dX6_kindOf_60 : decode cX6_kindOf 60 = .ok (.invokestatic 54, 3) := by decide +kernel
theorem dX6_kindOf_63 : decode cX6_kindOf 63 = .ok (.ifCond .eq 5, 3) := by decide +kernel
theorem dX6_kindOf_66 : decode cX6_kindOf 66 = .ok (.iconst 5, 1) := by decide +kernel
theorem dX6_kindOf_67 : decode cX6_kindOf 67 = .ok (.ireturn, 1) := by decide +kernel
theorem dX6_kindOf_68 : decode cX6_kindOf 68 = .ok (.aload_n 0, 1) := by decide +kernel
theorem dX6_kindOf_69 : decode cX6_kindOf 69 = .ok (.iload_n 1, 1) := by decide +kernel
theorem dX6_kindOf_70 : decode cX6_kindOf 70 = .ok (.iload_n 2, 1) := by decide +kernel
theorem dX6_kindOf_71 : decode cX6_kindOf 71 = .ok (.ldc 60, 2) := by decide +kernel
theorem dX6_kindOf_73 : decode cX6_kindOf 73 = .ok (.invokestatic 54, 3) := by decide +kernel
theorem dX6_kindOf_76 : decode cX6_kindOf 76 = .ok (.ifCond .eq 6, 3) := by decide +kernel
theorem dX6_kindOf_79 : decode cX6_kindOf 79 = .ok (.bipush 6, 2) := by decide +kernel
theorem dX6_kindOf_81 : decode cX6_kindOf 81 = .ok (.ireturn, 1) := by decide +kernel
theorem dX6_kindOf_82 : decode cX6_kindOf 82 = .ok (.aload_n 0, 1) := by decide +kernel
theorem dX6_kindOf_83 : decode cX6_kindOf 83 = .ok (.iload_n 1, 1) := by decide +kernel
theorem dX6_kindOf_84 : decode cX6_kindOf 84 = .ok (.iload_n 2, 1) := by decide +kernel
theorem dX6_kindOf_85 : decode cX6_kindOf 85 = .ok (.ldc 62, 2) := by decide +kernel
theorem dX6_kindOf_87 : decode cX6_kindOf 87 = .ok (.invokestatic 54, 3) := by decide +kernel
theorem dX6_kindOf_90 : decode cX6_kindOf 90 = .ok (.ifCond .eq 8, 3) := by decide +kernel
theorem dX6_kindOf_93 : decode cX6_kindOf 93 = .ok (.bipush 7, 2) := by decide +kernel
theorem dX6_kindOf_95 : decode cX6_kindOf 95 = .ok (.goto 4, 3) := by decide +kernel
theorem dX6_kindOf_98 : decode cX6_kindOf 98 = .ok (.iconst 1, 1) := by decide +kernel
theorem dX6_kindOf_99 : decode cX6_kindOf 99 = .ok (.ireturn, 1) := by decide +kernel
theorem dX6_numberOf_0 : decode cX6_numberOf 0 = .ok (.aload_n 0, 1) := by decide +kernel
theorem dX6_numberOf_1 : decode cX6_numberOf 1 = .ok (.iload_n 1, 1) := by decide +kernel
theorem dX6_numberOf_2 : decode cX6_numberOf 2 = .ok (.invokevirtual 39, 3) := by decide +kernel
theorem dX6_numberOf_5 : decode cX6_numberOf 5 = .ok (.bipush 48, 2) := by decide +kernel
theorem dX6_numberOf_7 : decode cX6_numberOf 7 = .ok (.isub, 1) := by decide +kernel
theorem dX6_numberOf_8 : decode cX6_numberOf 8 = .ok (.istore_n 3, 1) := by decide +kernel
theorem dX6_numberOf_9 : decode cX6_numberOf 9 = .ok (.iload_n 2, 1) := by decide +kernel
theorem dX6_numberOf_10 : decode cX6_numberOf 10 = .ok (.iload_n 1, 1) := by decide +kernel
theorem dX6_numberOf_11 : decode cX6_numberOf 11 = .ok (.isub, 1) := by decide +kernel
theorem dX6_numberOf_12 : decode cX6_numberOf 12 = .ok (.iconst 1, 1) := by decide +kernel
theorem dX6_numberOf_13 : decode cX6_numberOf 13 = .ok (.if_icmp .ne 5, 3) := by decide +kernel
theorem dX6_numberOf_16 : decode cX6_numberOf 16 = .ok (.iload_n 3, 1) := by decide +kernel
theorem dX6_numberOf_17 : decode cX6_numberOf 17 = .ok (.ireturn, 1) := by decide +kernel
theorem dX6_numberOf_18 : decode cX6_numberOf 18 = .ok (.iload_n 2, 1) := by decide +kernel
theorem dX6_numberOf_19 : decode cX6_numberOf 19 = .ok (.iload_n 1, 1) := by decide +kernel
theorem dX6_numberOf_20 : decode cX6_numberOf 20 = .ok (.isub, 1) := by decide +kernel
theorem dX6_numberOf_21 : decode cX6_numberOf 21 = .ok (.iconst 2, 1) := by decide +kernel
theorem dX6_numberOf_22 : decode cX6_numberOf 22 = .ok (.if_icmp .ne 25, 3) := by decide +kernel
theorem dX6_numberOf_25 : decode cX6_numberOf 25 = .ok (.iload_n 3, 1) := by decide +kernel
theorem dX6_numberOf_26 : decode cX6_numberOf 26 = .ok (.ifCond .le 21, 3) := by decide +kernel
theorem dX6_numberOf_29 : decode cX6_numberOf 29 = .ok (.bipush 10, 2) := by decide +kernel
theorem dX6_numberOf_31 : decode cX6_numberOf 31 = .ok (.iload_n 3, 1) := by decide +kernel
theorem dX6_numberOf_32 : decode cX6_numberOf 32 = .ok (.imul, 1) := by decide +kernel
theorem dX6_numberOf_33 : decode cX6_numberOf 33 = .ok (.aload_n 0, 1) := by decide +kernel
theorem dX6_numberOf_34 : decode cX6_numberOf 34 = .ok (.iload_n 1, 1) := by decide +kernel
theorem dX6_numberOf_35 : decode cX6_numberOf 35 = .ok (.iconst 1, 1) := by decide +kernel
theorem dX6_numberOf_36 : decode cX6_numberOf 36 = .ok (.iadd, 1) := by decide +kernel
theorem dX6_numberOf_37 : decode cX6_numberOf 37 = .ok (.invokevirtual 39, 3) := by decide +kernel
theorem dX6_numberOf_40 : decode cX6_numberOf 40 = .ok (.iadd, 1) := by decide +kernel
theorem dX6_numberOf_41 : decode cX6_numberOf 41 = .ok (.bipush 48, 2) := by decide +kernel
theorem dX6_numberOf_43 : decode cX6_numberOf 43 = .ok (.isub, 1) := by decide +kernel
theorem dX6_numberOf_44 : decode cX6_numberOf 44 = .ok (.goto 4, 3) := by decide +kernel
theorem dX6_numberOf_47 : decode cX6_numberOf 47 = .ok (.iconst (-1), 1) := by decide +kernel
theorem dX6_numberOf_48 : decode cX6_numberOf 48 = .ok (.ireturn, 1) := by decide +kernel
theorem dX6_isWord_0 : decode cX6_isWord 0 = .ok (.iload_n 2, 1) := by decide +kernel
theorem dX6_isWord_1 : decode cX6_isWord 1 = .ok (.iload_n 1, 1) := by decide +kernel
theorem dX6_isWord_2 : decode cX6_isWord 2 = .ok (.isub, 1) := by decide +kernel
theorem dX6_isWord_3 : decode cX6_isWord 3 = .ok (.aload_n 3, 1) := by decide +kernel
theorem dX6_isWord_4 : decode cX6_isWord 4 = .ok (.invokevirtual 64, 3) := by decide +kernel
theorem dX6_isWord_7 : decode cX6_isWord 7 = .ok (.if_icmp .eq 5, 3) := by decide +kernel
theorem dX6_isWord_10 : decode cX6_isWord 10 = .ok (.iconst 0, 1) := by decide +kernel
theorem dX6_isWord_11 : decode cX6_isWord 11 = .ok (.ireturn, 1) := by decide +kernel
theorem dX6_isWord_12 : decode cX6_isWord 12 = .ok (.iconst 0, 1) := by decide +kernel
