theorem dX9_mostOf_7 : decode cX9_mostOf 7 = .ok (.iand, 1) := by decide +kernel
theorem dX9_mostOf_8 : decode cX9_mostOf 8 = .ok (.invokestatic 118, 3) := by decide +kernel
theorem dX9_mostOf_11 : decode cX9_mostOf 11 = .ok (.istore 4, 2) := by decide +kernel
theorem dX9_mostOf_13 : decode cX9_mostOf 13 = .ok (.iconst 1, 1) := by decide +kernel
theorem dX9_mostOf_14 : decode cX9_mostOf 14 = .ok (.istore 5, 2) := by decide +kernel
theorem dX9_mostOf_16 : decode cX9_mostOf 16 = .ok (.iload 5, 2) := by decide +kernel
theorem dX9_mostOf_18 : decode cX9_mostOf 18 = .ok (.iconst 1, 1) := by decide +kernel
theorem dX9_mostOf_19 : decode cX9_mostOf 19 = .ok (.aload_n 0, 1) := by decide +kernel
theorem dX9_mostOf_20 : decode cX9_mostOf 20 = .ok (.getfield 137, 3) := by decide +kernel
theorem dX9_mostOf_23 : decode cX9_mostOf 23 = .ok (.ishl, 1) := by decide +kernel
theorem dX9_mostOf_24 : decode cX9_mostOf 24 = .ok (.if_icmp .ge 78, 3) := by decide +kernel
theorem dX9_mostOf_27 : decode cX9_mostOf 27 = .ok (.iload_n 3, 1) := by decide +kernel
theorem dX9_mostOf_28 : decode cX9_mostOf 28 = .ok (.ifCond .lt 74, 3) := by decide +kernel
theorem dX9_mostOf_31 : decode cX9_mostOf 31 = .ok (.aload_n 0, 1) := by decide +kernel
theorem dX9_mostOf_32 : decode cX9_mostOf 32 = .ok (.iload 5, 2) := by decide +kernel
theorem dX9_mostOf_34 : decode cX9_mostOf 34 = .ok (.invokevirtual 182, 3) := by decide +kernel
theorem dX9_mostOf_37 : decode cX9_mostOf 37 = .ok (.iload_n 3, 1) := by decide +kernel
theorem dX9_mostOf_38 : decode cX9_mostOf 38 = .ok (.if_icmp .gt 18, 3) := by decide +kernel
theorem dX9_mostOf_41 : decode cX9_mostOf 41 = .ok (.aload_n 0, 1) := by decide +kernel
theorem dX9_mostOf_42 : decode cX9_mostOf 42 = .ok (.aload_n 0, 1) := by decide +kernel
theorem dX9_mostOf_43 : decode cX9_mostOf 43 = .ok (.getfield 25, 3) := by decide +kernel
theorem dX9_mostOf_46 : decode cX9_mostOf 46 = .ok (.iload_n 1, 1) := by decide +kernel
theorem dX9_mostOf_47 : decode cX9_mostOf 47 = .ok (.iaload, 1) := by decide +kernel
theorem dX9_mostOf_48 : decode cX9_mostOf 48 = .ok (.iload 5, 2) := by decide +kernel
theorem dX9_mostOf_50 : decode cX9_mostOf 50 = .ok (.invokevirtual 179, 3) := by decide +kernel
theorem dX9_mostOf_53 : decode cX9_mostOf 53 = .ok (.goto 5, 3) := by decide +kernel
theorem dX9_mostOf_56 : decode cX9_mostOf 56 = .ok (.bipush (-9), 2) := by decide +kernel
theorem dX9_mostOf_58 : decode cX9_mostOf 58 = .ok (.istore 6, 2) := by decide +kernel
theorem dX9_mostOf_60 : decode cX9_mostOf 60 = .ok (.iload 6, 2) := by decide +kernel
theorem dX9_mostOf_62 : decode cX9_mostOf 62 = .ok (.bipush (-9), 2) := by decide +kernel
theorem dX9_mostOf_64 : decode cX9_mostOf 64 = .ok (.if_icmp .ne 7, 3) := by decide +kernel
theorem dX9_mostOf_67 : decode cX9_mostOf 67 = .ok (.iconst 0, 1) := by decide +kernel
theorem dX9_mostOf_68 : decode cX9_mostOf 68 = .ok (.goto 10, 3) := by decide +kernel
theorem dX9_mostOf_71 : decode cX9_mostOf 71 = .ok (.iload 6, 2) := by decide +kernel
theorem dX9_mostOf_73 : decode cX9_mostOf 73 = .ok (.iload_n 2, 1) := by decide +kernel
theorem dX9_mostOf_74 : decode cX9_mostOf 74 = .ok (.iand, 1) := by decide +kernel
theorem dX9_mostOf_75 : decode cX9_mostOf 75 = .ok (.invokestatic 118, 3) := by decide +kernel
theorem dX9_mostOf_78 : decode cX9_mostOf 78 = .ok (.istore 7, 2) := by decide +kernel
theorem dX9_mostOf_80 : decode cX9_mostOf 80 = .ok (.iload 7, 2) := by decide +kernel
theorem dX9_mostOf_82 : decode cX9_mostOf 82 = .ok (.iload 4, 2) := by decide +kernel
theorem dX9_mostOf_84 : decode cX9_mostOf 84 = .ok (.if_icmp .le 8, 3) := by decide +kernel
theorem dX9_mostOf_87 : decode cX9_mostOf 87 = .ok (.iload 7, 2) := by decide +kernel
theorem dX9_mostOf_89 : decode cX9_mostOf 89 = .ok (.goto 5, 3) := by decide +kernel
theorem dX9_mostOf_92 : decode cX9_mostOf 92 = .ok (.iload 4, 2) := by decide +kernel
theorem dX9_mostOf_94 : decode cX9_mostOf 94 = .ok (.istore 4, 2) := by decide +kernel
theorem dX9_mostOf_96 : decode cX9_mostOf 96 = .ok (.iinc 5 1, 3) := by decide +kernel
theorem dX9_mostOf_99 : decode cX9_mostOf 99 = .ok (.goto (-83), 3) := by decide +kernel
theorem dX9_mostOf_102 : decode cX9_mostOf 102 = .ok (.iload 4, 2) := by decide +kernel
theorem dX9_mostOf_104 : decode cX9_mostOf 104 = .ok (.ireturn, 1) := by decide +kernel
theorem dX9_ruleBy_0 : decode cX9_ruleBy 0 = .ok (.bipush (-9), 2) := by decide +kernel
theorem dX9_ruleBy_2 : decode cX9_ruleBy 2 = .ok (.istore_n 2, 1) := by decide +kernel
theorem dX9_ruleBy_3 : decode cX9_ruleBy 3 = .ok (.iconst 1, 1) := by decide +kernel
theorem dX9_ruleBy_4 : decode cX9_ruleBy 4 = .ok (.istore_n 3, 1) := by decide +kernel
theorem dX9_ruleBy_5 : decode cX9_ruleBy 5 = .ok (.iload_n 3, 1) := by decide +kernel
theorem dX9_ruleBy_6 : decode cX9_ruleBy 6 = .ok (.sipush 256, 3) := by decide +kernel
theorem dX9_ruleBy_9 : decode cX9_ruleBy 9 = .ok (.if_icmp .ge 168, 3) := by decide +kernel
theorem dX9_ruleBy_12 : decode cX9_ruleBy 12 = .ok (.iload_n 2, 1) := by decide +kernel
theorem dX9_ruleBy_13 : decode cX9_ruleBy 13 = .ok (.bipush (-9), 2) := by decide +kernel
theorem dX9_ruleBy_15 : decode cX9_ruleBy 15 = .ok (.if_icmp .eq 18, 3) := by decide +kernel
theorem dX9_ruleBy_18 : decode cX9_ruleBy 18 = .ok (.iload_n 3, 1) := by decide +kernel
theorem dX9_ruleBy_19 : decode cX9_ruleBy 19 = .ok (.invokestatic 118, 3) := by decide +kernel
theorem dX9_ruleBy_22 : decode cX9_ruleBy 22 = .ok (.iload_n 2, 1) := by decide +kernel
theorem dX9_ruleBy_23 : decode cX9_ruleBy 23 = .ok (.sipush 255, 3) := by decide +kernel
theorem dX9_ruleBy_26 : decode cX9_ruleBy 26 = .ok (.iand, 1) := by decide +kernel
theorem dX9_ruleBy_27 : decode cX9_ruleBy 27 = .ok (.invokestatic 118, 3) := by decide +kernel
theorem dX9_ruleBy_30 : decode cX9_ruleBy 30 = .ok (.if_icmp .ge 141, 3) := by decide +kernel
theorem dX9_ruleBy_33 : decode cX9_ruleBy 33 = .ok (.iload_n 3, 1) := by decide +kernel
theorem dX9_ruleBy_34 : decode cX9_ruleBy 34 = .ok (.invokestatic 118, 3) := by decide +kernel
theorem dX9_ruleBy_37 : decode cX9_ruleBy 37 = .ok (.istore 4, 2) := by decide +kernel
theorem dX9_ruleBy_39 : decode cX9_ruleBy 39 = .ok (.iconst 0, 1) := by decide +kernel
theorem dX9_ruleBy_40 : decode cX9_ruleBy 40 = .ok (.istore 5, 2) := by decide +kernel
theorem dX9_ruleBy_42 : decode cX9_ruleBy 42 = .ok (.iconst 0, 1) := by decide +kernel
theorem dX9_ruleBy_43 : decode cX9_ruleBy 43 = .ok (.istore 6, 2) := by decide +kernel
theorem dX9_ruleBy_45 : decode cX9_ruleBy 45 = .ok (.iload 6, 2) := by decide +kernel
theorem dX9_ruleBy_47 : decode cX9_ruleBy 47 = .ok (.aload_n 0, 1) := by decide +kernel
theorem dX9_ruleBy_48 : decode cX9_ruleBy 48 = .ok (.getfield 134, 3) := by decide +kernel
theorem dX9_ruleBy_51 : decode cX9_ruleBy 51 = .ok (.if_icmp .ge 98, 3) := by decide +kernel
theorem dX9_ruleBy_54 : decode cX9_ruleBy 54 = .ok (.aload_n 0, 1) := by decide +kernel
theorem dX9_ruleBy_55 : decode cX9_ruleBy 55 = .ok (.getfield 13, 3) := by decide +kernel
theorem dX9_ruleBy_58 : decode cX9_ruleBy 58 = .ok (.iload 6, 2) := by decide +kernel
theorem dX9_ruleBy_60 : decode cX9_ruleBy 60 = .ok (.iaload, 1) := by decide +kernel
theorem dX9_ruleBy_61 : decode cX9_ruleBy 61 = .ok (.iconst 1, 1) := by decide +kernel
theorem dX9_ruleBy_62 : decode cX9_ruleBy 62 = .ok (.if_icmp .ne 18, 3) := by decide +kernel
theorem dX9_ruleBy_65 : decode cX9_ruleBy 65 = .ok (.aload_n 0, 1) := by decide +kernel
theorem dX9_ruleBy_66 : decode cX9_ruleBy 66 = .ok (.getfield 25, 3) := by decide +kernel
theorem dX9_ruleBy_69 : decode cX9_ruleBy 69 = .ok (.iload 6, 2) := by decide +kernel
theorem dX9_ruleBy_71 : decode cX9_ruleBy 71 = .ok (.iaload, 1) := by decide +kernel
theorem dX9_ruleBy_72 : decode cX9_ruleBy 72 = .ok (.iload_n 3, 1) := by decide +kernel
theorem dX9_ruleBy_73 : decode cX9_ruleBy 73 = .ok (.iand, 1) := by decide +kernel
theorem dX9_ruleBy_74 : decode cX9_ruleBy 74 = .ok (.invokestatic 118, 3) := by decide +kernel
theorem dX9_ruleBy_77 : decode cX9_ruleBy 77 = .ok (.goto 11, 3) := by decide +kernel
theorem dX9_ruleBy_80 : decode cX9_ruleBy 80 = .ok (.aload_n 0, 1) := by decide +kernel
theorem dX9_ruleBy_81 : decode cX9_ruleBy 81 = .ok (.iload 6, 2) := by decide +kernel
theorem dX9_ruleBy_83 : decode cX9_ruleBy 83 = .ok (.iload_n 3, 1) := by decide +kernel
theorem dX9_ruleBy_84 : decode cX9_ruleBy 84 = .ok (.iload_n 1, 1) := by decide +kernel
theorem dX9_ruleBy_85 : decode cX9_ruleBy 85 = .ok (.invokevirtual 191, 3) := by decide +kernel
theorem dX9_ruleBy_88 : decode cX9_ruleBy 88 = .ok (.istore 7, 2) := by decide +kernel
theorem dX9_ruleBy_90 : decode cX9_ruleBy 90 = .ok (.aload_n 0, 1) := by decide +kernel
theorem dX9_ruleBy_91 : decode cX9_ruleBy 91 = .ok (.getfield 13, 3) := by decide +kernel
theorem dX9_ruleBy_94 : decode cX9_ruleBy 94 = .ok (.iload 6, 2) := by decide +kernel
theorem dX9_ruleBy_96 : decode cX9_ruleBy 96 = .ok (.iaload, 1) := by decide +kernel
theorem dX9_ruleBy_97 : decode cX9_ruleBy 97 = .ok (.iconst 1, 1) := by decide +kernel
theorem dX9_ruleBy_98 : decode cX9_ruleBy 98 = .ok (.if_icmp .ne 15, 3) := by decide +kernel
theorem dX9_ruleBy_101 : decode cX9_ruleBy 101 = .ok (.iload 7, 2) := by decide +kernel
theorem dX9_ruleBy_103 : decode cX9_ruleBy 103 = .ok (.iload 4, 2) := by decide +kernel
theorem dX9_ruleBy_105 : decode cX9_ruleBy 105 = .ok (.if_icmp .ge 8, 3) := by decide +kernel
theorem dX9_ruleBy_108 : decode cX9_ruleBy 108 = .ok (.iload 7, 2) := by decide +kernel
theorem dX9_ruleBy_110 : decode cX9_ruleBy 110 = .ok (.goto 5, 3) := by decide +kernel
theorem dX9_ruleBy_113 : decode cX9_ruleBy 113 = .ok (.iload 4, 2) := by decide +kernel
theorem dX9_ruleBy_115 : decode cX9_ruleBy 115 = .ok (.istore 4, 2) := by decide +kernel
theorem dX9_ruleBy_117 : decode cX9_ruleBy 117 = .ok (.aload_n 0, 1) := by decide +kernel
theorem dX9_ruleBy_118 : decode cX9_ruleBy 118 = .ok (.getfield 13, 3) := by decide +kernel
theorem dX9_ruleBy_121 : decode cX9_ruleBy 121 = .ok (.iload 6, 2) := by decide +kernel
theorem dX9_ruleBy_123 : decode cX9_ruleBy 123 = .ok (.iaload, 1) := by decide +kernel
theorem dX9_ruleBy_124 : decode cX9_ruleBy 124 = .ok (.ifCond .ne 15, 3) := by decide +kernel
theorem dX9_ruleBy_127 : decode cX9_ruleBy 127 = .ok (.iload 7, 2) := by decide +kernel
theorem dX9_ruleBy_129 : decode cX9_ruleBy 129 = .ok (.iload 5, 2) := by decide +kernel
theorem dX9_ruleBy_131 : decode cX9_ruleBy 131 = .ok (.if_icmp .le 8, 3) := by decide +kernel
theorem dX9_ruleBy_134 : decode cX9_ruleBy 134 = .ok (.iload 7, 2) := by decide +kernel
theorem dX9_ruleBy_136 : decode cX9_ruleBy 136 = .ok (.goto 5, 3) := by decide +kernel
theorem dX9_ruleBy_139 : decode cX9_ruleBy 139 = .ok (.iload 5, 2) := by decide +kernel
theorem dX9_ruleBy_141 : decode cX9_ruleBy 141 = .ok (.istore 5, 2) := by decide +kernel
theorem dX9_ruleBy_143 : decode cX9_ruleBy 143 = .ok (.iinc 6 1, 3) := by decide +kernel
theorem dX9_ruleBy_146 : decode cX9_ruleBy 146 = .ok (.goto (-101), 3) := by decide +kernel
theorem dX9_ruleBy_149 : decode cX9_ruleBy 149 = .ok (.iload 4, 2) := by decide +kernel
theorem dX9_ruleBy_151 : decode cX9_ruleBy 151 = .ok (.iload 5, 2) := by decide +kernel
theorem dX9_ruleBy_153 : decode cX9_ruleBy 153 = .ok (.if_icmp .le 16, 3) := by decide +kernel
theorem dX9_ruleBy_156 : decode cX9_ruleBy 156 = .ok (.iload_n 3, 1) := by decide +kernel
theorem dX9_ruleBy_157 : decode cX9_ruleBy 157 = .ok (.sipush 256, 3) := by decide +kernel
theorem dX9_ruleBy_160 : decode cX9_ruleBy 160 = .ok (.iload 5, 2) := by decide +kernel
theorem dX9_ruleBy_162 : decode cX9_ruleBy 162 = .ok (.iconst 1, 1) := by decide +kernel
theorem dX9_ruleBy_163 : decode cX9_ruleBy 163 = .ok (.iadd, 1) := by decide +kernel
theorem dX9_ruleBy_164 : decode cX9_ruleBy 164 = .ok (.imul, 1) := by decide +kernel
theorem dX9_ruleBy_165 : decode cX9_ruleBy 165 = .ok (.iadd, 1) := by decide +kernel
theorem dX9_ruleBy_166 : decode cX9_ruleBy 166 = .ok (.goto 4, 3) := by decide +kernel
theorem dX9_ruleBy_169 : decode cX9_ruleBy 169 = .ok (.iload_n 2, 1) := by decide +kernel
theorem dX9_ruleBy_170 : decode cX9_ruleBy 170 = .ok (.istore_n 2, 1) := by decide +kernel
theorem dX9_ruleBy_171 : decode cX9_ruleBy 171 = .ok (.iinc 3 1, 3) := by decide +kernel
theorem dX9_ruleBy_174 : decode cX9_ruleBy 174 = .ok (.goto (-169), 3) := by decide +kernel
theorem dX9_ruleBy_177 : decode cX9_ruleBy 177 = .ok (.iload_n 2, 1) := by decide +kernel
theorem dX9_ruleBy_178 : decode cX9_ruleBy 178 = .ok (.ireturn, 1) := by decide +kernel
theorem dX9_ruleTold_0 : decode cX9_ruleTold 0 = .ok (.aload_n 0, 1) := by decide +kernel
theorem dX9_ruleTold_1 : decode cX9_ruleTold 1 = .ok (.iload_n 1, 1) := by decide +kernel
theorem dX9_ruleTold_2 : decode cX9_ruleTold 2 = .ok (.invokevirtual 195, 3) := by decide +kernel
theorem dX9_ruleTold_5 : decode cX9_ruleTold 5 = .ok (.istore_n 3, 1) := by decide +kernel
theorem dX9_ruleTold_6 : decode cX9_ruleTold 6 = .ok (.iload_n 3, 1) := by decide +kernel
theorem dX9_ruleTold_7 : decode cX9_ruleTold 7 = .ok (.bipush (-9), 2) := by decide +kernel
theorem dX9_ruleTold_9 : decode cX9_ruleTold 9 = .ok (.if_icmp .ne 8, 3) := by decide +kernel
theorem dX9_ruleTold_12 : decode cX9_ruleTold 12 = .ok (.bipush (-9), 2) := by decide +kernel
theorem dX9_ruleTold_14 : decode cX9_ruleTold 14 = .ok (.goto 20, 3) := by decide +kernel
theorem dX9_ruleTold_17 : decode cX9_ruleTold 17 = .ok (.iload_n 2, 1) := by decide +kernel
theorem dX9_ruleTold_18 : decode cX9_ruleTold 18 = .ok (.ifCond .ne 11, 3) := by decide +kernel
theorem dX9_ruleTold_21 : decode cX9_ruleTold 21 = .ok (.iload_n 3, 1) := by decide +kernel
theorem dX9_ruleTold_22 : decode cX9_ruleTold 22 = .ok (.sipush 256, 3) := by decide +kernel
theorem dX9_ruleTold_25 : decode cX9_ruleTold 25 = .ok (.irem, 1) := by decide +kernel
theorem dX9_ruleTold_26 : decode cX9_ruleTold 26 = .ok (.goto 8, 3) := by decide +kernel
theorem dX9_ruleTold_29 : decode cX9_ruleTold 29 = .ok (.iload_n 3, 1) := by decide +kernel
theorem dX9_ruleTold_30 : decode cX9_ruleTold 30 = .ok (.sipush 256, 3) := by decide +kernel
theorem dX9_ruleTold_33 : decode cX9_ruleTold 33 = .ok (.idiv, 1) := by decide +kernel
theorem dX9_ruleTold_34 : decode cX9_ruleTold 34 = .ok (.ireturn, 1) := by decide +kernel
theorem dX9_ask_0 : decode cX9_ask 0 = .ok (.aload_n 0, 1) := by decide +kernel
theorem dX9_ask_1 : decode cX9_ask 1 = .ok (.iconst 0, 1) := by decide +kernel
theorem dX9_ask_2 : decode cX9_ask 2 = .ok (.putfield 44, 3) := by decide +kernel
theorem dX9_ask_5 : decode cX9_ask 5 = .ok (.iload_n 1, 1) := by decide +kernel
theorem dX9_ask_6 : decode cX9_ask 6 = .ok (.iconst 0, 1) := by decide +kernel
theorem dX9_ask_7 : decode cX9_ask 7 = .ok (.iconst 1, 1) := by decide +kernel
theorem dX9_ask_8 : decode cX9_ask 8 = .ok (.invokestatic 48, 3) := by decide +kernel
theorem dX9_ask_11 : decode cX9_ask 11 = .ok (.ifCond .eq 12, 3) := by decide +kernel
theorem dX9_ask_14 : decode cX9_ask 14 = .ok (.aload_n 0, 1) := by decide +kernel
theorem dX9_ask_15 : decode cX9_ask 15 = .ok (.iconst (-1), 1) := by decide +kernel
theorem dX9_ask_16 : decode cX9_ask 16 = .ok (.iload_n 1, 1) := by decide +kernel
theorem dX9_ask_17 : decode cX9_ask 17 = .ok (.invokevirtual 198, 3) := by decide +kernel
theorem dX9_ask_20 : decode cX9_ask 20 = .ok (.goto 4, 3) := by decide +kernel
theorem dX9_ask_23 : decode cX9_ask 23 = .ok (.iconst (-1), 1) := by decide +kernel
theorem dX9_ask_24 : decode cX9_ask 24 = .ok (.ireturn, 1) := by decide +kernel
theorem dX9_safe_0 : decode cX9_safe 0 = .ok (.aload_n 0, 1) := by decide +kernel
theorem dX9_safe_1 : decode cX9_safe 1 = .ok (.iconst 0, 1) := by decide +kernel
theorem dX9_safe_2 : decode cX9_safe 2 = .ok (.putfield 44, 3) := by decide +kernel
theorem dX9_safe_5 : decode cX9_safe 5 = .ok (.iload_n 1, 1) := by decide +kernel
theorem dX9_safe_6 : decode cX9_safe 6 = .ok (.iconst 0, 1) := by decide +kernel
theorem dX9_safe_7 : decode cX9_safe 7 = .ok (.bipush 99, 2) := by decide +kernel
theorem dX9_safe_9 : decode cX9_safe 9 = .ok (.invokestatic 48, 3) := by decide +kernel
theorem dX9_safe_12 : decode cX9_safe 12 = .ok (.ifCond .eq 21, 3) := by decide +kernel
theorem dX9_safe_15 : decode cX9_safe 15 = .ok (.iload_n 2, 1) := by decide +kernel
theorem dX9_safe_16 : decode cX9_safe 16 = .ok (.iconst 0, 1) := by decide +kernel
theorem dX9_safe_17 : decode cX9_safe 17 = .ok (.iconst 1, 1) := by decide +kernel
theorem dX9_safe_18 : decode cX9_safe 18 = .ok (.invokestatic 48, 3) := by decide +kernel
theorem dX9_safe_21 : decode cX9_safe 21 = .ok (.ifCond .eq 12, 3) := by decide +kernel
theorem dX9_safe_24 : decode cX9_safe 24 = .ok (.aload_n 0, 1) := by decide +kernel
theorem dX9_safe_25 : decode cX9_safe 25 = .ok (.iload_n 1, 1) := by decide +kernel
theorem dX9_safe_26 : decode cX9_safe 26 = .ok (.iload_n 2, 1) := by decide +kernel
theorem dX9_safe_27 : decode cX9_safe 27 = .ok (.invokevirtual 198, 3) := by decide +kernel
theorem dX9_safe_30 : decode cX9_safe 30 = .ok (.goto 4, 3) := by decide +kernel
theorem dX9_safe_33 : decode cX9_safe 33 = .ok (.iconst (-1), 1) := by decide +kernel
theorem dX9_safe_34 : decode cX9_safe 34 = .ok (.ireturn, 1) := by decide +kernel
theorem dX9_gcd_0 : decode cX9_gcd 0 = .ok (.lload_n 0, 1) := by decide +kernel
theorem dX9_gcd_1 : decode cX9_gcd 1 = .ok (.lstore 4, 2) := by decide +kernel
theorem dX9_gcd_3 : decode cX9_gcd 3 = .ok (.lload_n 2, 1) := by decide +kernel
theorem dX9_gcd_4 : decode cX9_gcd 4 = .ok (.lstore 6, 2) := by decide +kernel
theorem dX9_gcd_6 : decode cX9_gcd 6 = .ok (.lload 6, 2) := by decide +kernel
theorem dX9_gcd_8 : decode cX9_gcd 8 = .ok (.lconst 0, 1) := by decide +kernel
theorem dX9_gcd_9 : decode cX9_gcd 9 = .ok (.lcmp, 1) := by decide +kernel
theorem dX9_gcd_10 : decode cX9_gcd 10 = .ok (.ifCond .eq 21, 3) := by decide +kernel
theorem dX9_gcd_13 : decode cX9_gcd 13 = .ok (.lload 4, 2) := by decide +kernel
theorem dX9_gcd_15 : decode cX9_gcd 15 = .ok (.lload 6, 2) := by decide +kernel
theorem dX9_gcd_17 : decode cX9_gcd 17 = .ok (.lrem, 1) := by decide +kernel
theorem dX9_gcd_18 : decode cX9_gcd 18 = .ok (.lstore 8, 2) := by decide +kernel
theorem dX9_gcd_20 : decode cX9_gcd 20 = .ok (.lload 6, 2) := by decide +kernel
theorem dX9_gcd_22 : decode cX9_gcd 22 = .ok (.lstore 4, 2) := by decide +kernel
theorem dX9_gcd_24 : decode cX9_gcd 24 = .ok (.lload 8, 2) := by decide +kernel
theorem dX9_gcd_26 : decode cX9_gcd 26 = .ok (.lstore 6, 2) := by decide +kernel
theorem dX9_gcd_28 : decode cX9_gcd 28 = .ok (.goto (-22), 3) := by decide +kernel
theorem dX9_gcd_31 : decode cX9_gcd 31 = .ok (.lload 4, 2) := by decide +kernel
theorem dX9_gcd_33 : decode cX9_gcd 33 = .ok (.lreturn, 1) := by decide +kernel
theorem dX9_odds_0 : decode cX9_odds 0 = .ok (.aload_n 0, 1) := by decide +kernel
theorem dX9_odds_1 : decode cX9_odds 1 = .ok (.iconst 0, 1) := by decide +kernel
theorem dX9_odds_2 : decode cX9_odds 2 = .ok (.putfield 44, 3) := by decide +kernel
theorem dX9_odds_5 : decode cX9_odds 5 = .ok (.aload_n 0, 1) := by decide +kernel
theorem dX9_odds_6 : decode cX9_odds 6 = .ok (.iload_n 1, 1) := by decide +kernel
theorem dX9_odds_7 : decode cX9_odds 7 = .ok (.invokevirtual 153, 3) := by decide +kernel
theorem dX9_odds_10 : decode cX9_odds 10 = .ok (.ifCond .eq 22, 3) := by decide +kernel
theorem dX9_odds_13 : decode cX9_odds 13 = .ok (.iload_n 2, 1) := by decide +kernel
theorem dX9_odds_14 : decode cX9_odds 14 = .ok (.iconst 0, 1) := by decide +kernel
theorem dX9_odds_15 : decode cX9_odds 15 = .ok (.bipush 10, 2) := by decide +kernel
theorem dX9_odds_17 : decode cX9_odds 17 = .ok (.invokestatic 48, 3) := by decide +kernel
theorem dX9_odds_20 : decode cX9_odds 20 = .ok (.ifCond .eq 12, 3) := by decide +kernel
theorem dX9_odds_23 : decode cX9_odds 23 = .ok (.iload_n 3, 1) := by decide +kernel
theorem dX9_odds_24 : decode cX9_odds 24 = .ok (.iconst 0, 1) := by decide +kernel
theorem dX9_odds_25 : decode cX9_odds 25 = .ok (.iconst 1, 1) := by decide +kernel
theorem dX9_odds_26 : decode cX9_odds 26 = .ok (.invokestatic 48, 3) := by decide +kernel
theorem dX9_odds_29 : decode cX9_odds 29 = .ok (.ifCond .ne 7, 3) := by decide +kernel
theorem dX9_odds_32 : decode cX9_odds 32 = .ok (.ldc2_w 201, 3) := by decide +kernel
theorem dX9_odds_35 : decode cX9_odds 35 = .ok (.lreturn, 1) := by decide +kernel
theorem dX9_odds_36 : decode cX9_odds 36 = .ok (.lconst 0, 1) := by decide +kernel
theorem dX9_odds_37 : decode cX9_odds 37 = .ok (.lstore 4, 2) := by decide +kernel
theorem dX9_odds_39 : decode cX9_odds 39 = .ok (.lconst 1, 1) := by decide +kernel
theorem dX9_odds_40 : decode cX9_odds 40 = .ok (.lstore 6, 2) := by decide +kernel
theorem dX9_odds_42 : decode cX9_odds 42 = .ok (.iconst 0, 1) := by decide +kernel
theorem dX9_odds_43 : decode cX9_odds 43 = .ok (.istore 8, 2) := by decide +kernel
theorem dX9_odds_45 : decode cX9_odds 45 = .ok (.iload 8, 2) := by decide +kernel
theorem dX9_odds_47 : decode cX9_odds 47 = .ok (.aload_n 0, 1) := by decide +kernel
theorem dX9_odds_48 : decode cX9_odds 48 = .ok (.getfield 25, 3) := by decide +kernel
theorem dX9_odds_51 : decode cX9_odds 51 = .ok (.iload_n 1, 1) := by decide +kernel
theorem dX9_odds_52 : decode cX9_odds 52 = .ok (.iaload, 1) := by decide +kernel
theorem dX9_odds_53 : decode cX9_odds 53 = .ok (.invokestatic 118, 3) := by decide +kernel
theorem dX9_odds_56 : decode cX9_odds 56 = .ok (.if_icmp .ge 17, 3) := by decide +kernel
theorem dX9_odds_59 : decode cX9_odds 59 = .ok (.lload 6, 2) := by decide +kernel
theorem dX9_odds_61 : decode cX9_odds 61 = .ok (.ldc2_w 203, 3) := by decide +kernel
theorem dX9_odds_64 : decode cX9_odds 64 = .ok (.lmul, 1) := by decide +kernel
theorem dX9_odds_65 : decode cX9_odds 65 = .ok (.lstore 6, 2) := by decide +kernel
theorem dX9_odds_67 : decode cX9_odds 67 = .ok (.iinc 8 1, 3) := by decide +kernel
theorem dX9_odds_70 : decode cX9_odds 70 = .ok (.goto (-25), 3) := by decide +kernel
theorem dX9_odds_73 : decode cX9_odds 73 = .ok (.iconst 0, 1) := by decide +kernel
theorem dX9_odds_74 : decode cX9_odds 74 = .ok (.istore 8, 2) := by decide +kernel
theorem dX9_odds_76 : decode cX9_odds 76 = .ok (.iload 8, 2) := by decide +kernel
theorem dX9_odds_78 : decode cX9_odds 78 = .ok (.sipush 256, 3) := by decide +kernel
theorem dX9_odds_81 : decode cX9_odds 81 = .ok (.if_icmp .ge 90, 3) := by decide +kernel
theorem dX9_odds_84 : decode cX9_odds 84 = .ok (.iload 8, 2) := by decide +kernel
theorem dX9_odds_86 : decode cX9_odds 86 = .ok (.aload_n 0, 1) := by decide +kernel
theorem dX9_odds_87 : decode cX9_odds 87 = .ok (.getfield 25, 3) := by decide +kernel
theorem dX9_odds_90 : decode cX9_odds 90 = .ok (.iload_n 1, 1) := by decide +kernel
theorem dX9_odds_91 : decode cX9_odds 91 = .ok (.iaload, 1) := by decide +kernel
theorem dX9_odds_92 : decode cX9_odds 92 = .ok (.iconst (-1), 1) := by decide +kernel
theorem dX9_odds_93 : decode cX9_odds 93 = .ok (.ixor, 1) := by decide +kernel
theorem dX9_odds_94 : decode cX9_odds 94 = .ok (.iand, 1) := by decide +kernel
theorem dX9_odds_95 : decode cX9_odds 95 = .ok (.ifCond .ne 70, 3) := by decide +kernel
theorem dX9_odds_98 : decode cX9_odds 98 = .ok (.aload_n 0, 1) := by decide +kernel
theorem dX9_odds_99 : decode cX9_odds 99 = .ok (.iload 8, 2) := by decide +kernel
theorem dX9_odds_101 : decode cX9_odds 101 = .ok (.invokevirtual 157, 3) := by decide +kernel
theorem dX9_odds_104 : decode cX9_odds 104 = .ok (.ifCond .eq 61, 3) := by decide +kernel
theorem dX9_odds_107 : decode cX9_odds 107 = .ok (.lconst 1, 1) := by decide +kernel
theorem dX9_odds_108 : decode cX9_odds 108 = .ok (.lstore 9, 2) := by decide +kernel
theorem dX9_odds_110 : decode cX9_odds 110 = .ok (.iconst 0, 1) := by decide +kernel
theorem dX9_odds_111 : decode cX9_odds 111 = .ok (.istore 11, 2) := by decide +kernel
theorem dX9_odds_113 : decode cX9_odds 113 = .ok (.iload 11, 2) := by decide +kernel
theorem dX9_odds_115 : decode cX9_odds 115 = .ok (.aload_n 0, 1) := by decide +kernel
theorem dX9_odds_116 : decode cX9_odds 116 = .ok (.getfield 25, 3) := by decide +kernel
theorem dX9_odds_119 : decode cX9_odds 119 = .ok (.iload_n 1, 1) := by decide +kernel
theorem dX9_odds_120 : decode cX9_odds 120 = .ok (.iaload, 1) := by decide +kernel
theorem dX9_odds_121 : decode cX9_odds 121 = .ok (.invokestatic 118, 3) := by decide +kernel
theorem dX9_odds_124 : decode cX9_odds 124 = .ok (.if_icmp .ge 34, 3) := by decide +kernel
theorem dX9_odds_127 : decode cX9_odds 127 = .ok (.lload 9, 2) := by decide +kernel
theorem dX9_odds_129 : decode cX9_odds 129 = .ok (.iload 11, 2) := by decide +kernel
theorem dX9_odds_131 : decode cX9_odds 131 = .ok (.iload 8, 2) := by decide +kernel
theorem dX9_odds_133 : decode cX9_odds 133 = .ok (.invokestatic 118, 3) := by decide +kernel
theorem dX9_odds_136 : decode cX9_odds 136 = .ok (.if_icmp .ge 11, 3) := by decide +kernel
theorem dX9_odds_139 : decode cX9_odds 139 = .ok (.bipush 10, 2) := by decide +kernel
theorem dX9_odds_141 : decode cX9_odds 141 = .ok (.iload_n 2, 1) := by decide +kernel
theorem dX9_odds_142 : decode cX9_odds 142 = .ok (.isub, 1) := by decide +kernel
theorem dX9_odds_143 : decode cX9_odds 143 = .ok (.i2l, 1) := by decide +kernel
theorem dX9_odds_144 : decode cX9_odds 144 = .ok (.goto 5, 3) := by decide +kernel
theorem dX9_odds_147 : decode cX9_odds 147 = .ok (.iload_n 2, 1) := by decide +kernel
theorem dX9_odds_148 : decode cX9_odds 148 = .ok (.i2l, 1) := by decide +kernel
theorem dX9_odds_149 : decode cX9_odds 149 = .ok (.lmul, 1) := by decide +kernel
theorem dX9_odds_150 : decode cX9_odds 150 = .ok (.lstore 9, 2) := by decide +kernel
theorem dX9_odds_152 : decode cX9_odds 152 = .ok (.iinc 11 1, 3) := by decide +kernel
theorem dX9_odds_155 : decode cX9_odds 155 = .ok (.goto (-42), 3) := by decide +kernel
theorem dX9_odds_158 : decode cX9_odds 158 = .ok (.lload 4, 2) := by decide +kernel
theorem dX9_odds_160 : decode cX9_odds 160 = .ok (.lload 9, 2) := by decide +kernel
theorem dX9_odds_162 : decode cX9_odds 162 = .ok (.ladd, 1) := by decide +kernel
theorem dX9_odds_163 : decode cX9_odds 163 = .ok (.lstore 4, 2) := by decide +kernel
theorem dX9_odds_165 : decode cX9_odds 165 = .ok (.iinc 8 1, 3) := by decide +kernel
theorem dX9_odds_168 : decode cX9_odds 168 = .ok (.goto (-92), 3) := by decide +kernel
theorem dX9_odds_171 : decode cX9_odds 171 = .ok (.lload 4, 2) := by decide +kernel
theorem dX9_odds_173 : decode cX9_odds 173 = .ok (.lload 6, 2) := by decide +kernel
theorem dX9_odds_175 : decode cX9_odds 175 = .ok (.invokestatic 205, 3) := by decide +kernel
theorem dX9_odds_178 : decode cX9_odds 178 = .ok (.lstore 8, 2) := by decide +kernel
theorem dX9_odds_180 : decode cX9_odds 180 = .ok (.iload_n 3, 1) := by decide +kernel
theorem dX9_odds_181 : decode cX9_odds 181 = .ok (.ifCond .ne 11, 3) := by decide +kernel
theorem dX9_odds_184 : decode cX9_odds 184 = .ok (.lload 4, 2) := by decide +kernel
theorem dX9_odds_186 : decode cX9_odds 186 = .ok (.lload 8, 2) := by decide +kernel
theorem dX9_odds_188 : decode cX9_odds 188 = .ok (.ldiv, 1) := by decide +kernel
theorem dX9_odds_189 : decode cX9_odds 189 = .ok (.goto 8, 3) := by decide +kernel
theorem dX9_odds_192 : decode cX9_odds 192 = .ok (.lload 6, 2) := by decide +kernel
theorem dX9_odds_194 : decode cX9_odds 194 = .ok (.lload 8, 2) := by decide +kernel
theorem dX9_odds_196 : decode cX9_odds 196 = .ok (.ldiv, 1) := by decide +kernel
theorem dX9_odds_197 : decode cX9_odds 197 = .ok (.lreturn, 1) := by decide +kernel
theorem dX9_shown_0 : decode cX9_shown 0 = .ok (.aload_n 0, 1) := by decide +kernel
theorem dX9_shown_1 : decode cX9_shown 1 = .ok (.iconst 0, 1) := by decide +kernel
theorem dX9_shown_2 : decode cX9_shown 2 = .ok (.putfield 44, 3) := by decide +kernel
theorem dX9_shown_5 : decode cX9_shown 5 = .ok (.iload_n 1, 1) := by decide +kernel
theorem dX9_shown_6 : decode cX9_shown 6 = .ok (.iconst 0, 1) := by decide +kernel
theorem dX9_shown_7 : decode cX9_shown 7 = .ok (.bipush 7, 2) := by decide +kernel
theorem dX9_shown_9 : decode cX9_shown 9 = .ok (.invokestatic 48, 3) := by decide +kernel
theorem dX9_shown_12 : decode cX9_shown 12 = .ok (.ifCond .eq 12, 3) := by decide +kernel
theorem dX9_shown_15 : decode cX9_shown 15 = .ok (.iload_n 2, 1) := by decide +kernel
theorem dX9_shown_16 : decode cX9_shown 16 = .ok (.iconst 0, 1) := by decide +kernel
theorem dX9_shown_17 : decode cX9_shown 17 = .ok (.iconst 1, 1) := by decide +kernel
theorem dX9_shown_18 : decode cX9_shown 18 = .ok (.invokestatic 48, 3) := by decide +kernel
theorem dX9_shown_21 : decode cX9_shown 21 = .ok (.ifCond .ne 5, 3) := by decide +kernel
theorem dX9_shown_24 : decode cX9_shown 24 = .ok (.iconst (-1), 1) := by decide +kernel
theorem dX9_shown_25 : decode cX9_shown 25 = .ok (.ireturn, 1) := by decide +kernel
theorem dX9_shown_26 : decode cX9_shown 26 = .ok (.aload_n 0, 1) := by decide +kernel
theorem dX9_shown_27 : decode cX9_shown 27 = .ok (.getfield 146, 3) := by decide +kernel
theorem dX9_shown_30 : decode cX9_shown 30 = .ok (.bipush 6, 2) := by decide +kernel
theorem dX9_shown_32 : decode cX9_shown 32 = .ok (.if_icmp .ne 6, 3) := by decide +kernel
theorem dX9_shown_35 : decode cX9_shown 35 = .ok (.bipush (-3), 2) := by decide +kernel
theorem dX9_shown_37 : decode cX9_shown 37 = .ok (.ireturn, 1) := by decide +kernel
theorem dX9_shown_38 : decode cX9_shown 38 = .ok (.aload_n 0, 1) := by decide +kernel
theorem dX9_shown_39 : decode cX9_shown 39 = .ok (.getfield 38, 3) := by decide +kernel
theorem dX9_shown_42 : decode cX9_shown 42 = .ok (.aload_n 0, 1) := by decide +kernel
theorem dX9_shown_43 : decode cX9_shown 43 = .ok (.getfield 146, 3) := by decide +kernel
theorem dX9_shown_46 : decode cX9_shown 46 = .ok (.iload_n 1, 1) := by decide +kernel
theorem dX9_shown_47 : decode cX9_shown 47 = .ok (.iastore, 1) := by decide +kernel
theorem dX9_shown_48 : decode cX9_shown 48 = .ok (.aload_n 0, 1) := by decide +kernel
theorem dX9_shown_49 : decode cX9_shown 49 = .ok (.getfield 41, 3) := by decide +kernel
theorem dX9_shown_52 : decode cX9_shown 52 = .ok (.aload_n 0, 1) := by decide +kernel
theorem dX9_shown_53 : decode cX9_shown 53 = .ok (.getfield 146, 3) := by decide +kernel
theorem dX9_shown_56 : decode cX9_shown 56 = .ok (.iload_n 2, 1) := by decide +kernel
theorem dX9_shown_57 : decode cX9_shown 57 = .ok (.iastore, 1) := by decide +kernel
theorem dX9_shown_58 : decode cX9_shown 58 = .ok (.aload_n 0, 1) := by decide +kernel
theorem dX9_shown_59 : decode cX9_shown 59 = .ok (.dup, 1) := by decide +kernel
theorem dX9_shown_60 : decode cX9_shown 60 = .ok (.getfield 146, 3) := by decide +kernel
theorem dX9_shown_63 : decode cX9_shown 63 = .ok (.iconst 1, 1) := by decide +kernel
theorem dX9_shown_64 : decode cX9_shown 64 = .ok (.iadd, 1) := by decide +kernel
theorem dX9_shown_65 : decode cX9_shown 65 = .ok (.putfield 146, 3) := by decide +kernel
theorem dX9_shown_68 : decode cX9_shown 68 = .ok (.aload_n 0, 1) := by decide +kernel
theorem dX9_shown_69 : decode cX9_shown 69 = .ok (.getfield 146, 3) := by decide +kernel
theorem dX9_shown_72 : decode cX9_shown 72 = .ok (.ireturn, 1) := by decide +kernel
theorem dX9_forget_0 : decode cX9_forget 0 = .ok (.aload_n 0, 1) := by decide +kernel
theorem dX9_forget_1 : decode cX9_forget 1 = .ok (.iconst 0, 1) := by decide +kernel
theorem dX9_forget_2 : decode cX9_forget 2 = .ok (.putfield 44, 3) := by decide +kernel
theorem dX9_forget_5 : decode cX9_forget 5 = .ok (.aload_n 0, 1) := by decide +kernel
theorem dX9_forget_6 : decode cX9_forget 6 = .ok (.getfield 146, 3) := by decide +kernel
theorem dX9_forget_9 : decode cX9_forget 9 = .ok (.istore_n 1, 1) := by decide +kernel
theorem dX9_forget_10 : decode cX9_forget 10 = .ok (.aload_n 0, 1) := by decide +kernel
theorem dX9_forget_11 : decode cX9_forget 11 = .ok (.iconst 0, 1) := by decide +kernel
theorem dX9_forget_12 : decode cX9_forget 12 = .ok (.putfield 146, 3) := by decide +kernel
theorem dX9_forget_15 : decode cX9_forget 15 = .ok (.iload_n 1, 1) := by decide +kernel
theorem dX9_forget_16 : decode cX9_forget 16 = .ok (.ireturn, 1) := by decide +kernel
theorem dX9_whoFits_0 : decode cX9_whoFits 0 = .ok (.iconst 0, 1) := by decide +kernel
theorem dX9_whoFits_1 : decode cX9_whoFits 1 = .ok (.istore_n 1, 1) := by decide +kernel
theorem dX9_whoFits_2 : decode cX9_whoFits 2 = .ok (.iconst 0, 1) := by decide +kernel
theorem dX9_whoFits_3 : decode cX9_whoFits 3 = .ok (.istore_n 2, 1) := by decide +kernel
theorem dX9_whoFits_4 : decode cX9_whoFits 4 = .ok (.iload_n 2, 1) := by decide +kernel
theorem dX9_whoFits_5 : decode cX9_whoFits 5 = .ok (.aload_n 0, 1) := by decide +kernel
theorem dX9_whoFits_6 : decode cX9_whoFits 6 = .ok (.getfield 134, 3) := by decide +kernel
theorem dX9_whoFits_9 : decode cX9_whoFits 9 = .ok (.if_icmp .ge 79, 3) := by decide +kernel
theorem dX9_whoFits_12 : decode cX9_whoFits 12 = .ok (.iconst 1, 1) := by decide +kernel
theorem dX9_whoFits_13 : decode cX9_whoFits 13 = .ok (.istore_n 3, 1) := by decide +kernel
theorem dX9_whoFits_14 : decode cX9_whoFits 14 = .ok (.iconst 0, 1) := by decide +kernel
theorem dX9_whoFits_15 : decode cX9_whoFits 15 = .ok (.istore 4, 2) := by decide +kernel
theorem dX9_whoFits_17 : decode cX9_whoFits 17 = .ok (.iload 4, 2) := by decide +kernel
theorem dX9_whoFits_19 : decode cX9_whoFits 19 = .ok (.aload_n 0, 1) := by decide +kernel
theorem dX9_whoFits_20 : decode cX9_whoFits 20 = .ok (.getfield 146, 3) := by decide +kernel
theorem dX9_whoFits_23 : decode cX9_whoFits 23 = .ok (.if_icmp .ge 45, 3) := by decide +kernel
theorem dX9_whoFits_26 : decode cX9_whoFits 26 = .ok (.iload_n 3, 1) := by decide +kernel
theorem dX9_whoFits_27 : decode cX9_whoFits 27 = .ok (.ifCond .eq 33, 3) := by decide +kernel
theorem dX9_whoFits_30 : decode cX9_whoFits 30 = .ok (.aload_n 0, 1) := by decide +kernel
theorem dX9_whoFits_31 : decode cX9_whoFits 31 = .ok (.getfield 25, 3) := by decide +kernel
theorem dX9_whoFits_34 : decode cX9_whoFits 34 = .ok (.iload_n 2, 1) := by decide +kernel
theorem dX9_whoFits_35 : decode cX9_whoFits 35 = .ok (.iaload, 1) := by decide +kernel
theorem dX9_whoFits_36 : decode cX9_whoFits 36 = .ok (.aload_n 0, 1) := by decide +kernel
theorem dX9_whoFits_37 : decode cX9_whoFits 37 = .ok (.getfield 38, 3) := by decide +kernel
theorem dX9_whoFits_40 : decode cX9_whoFits 40 = .ok (.iload 4, 2) := by decide +kernel
theorem dX9_whoFits_42 : decode cX9_whoFits 42 = .ok (.iaload, 1) := by decide +kernel
theorem dX9_whoFits_43 : decode cX9_whoFits 43 = .ok (.ishr, 1) := by decide +kernel
theorem dX9_whoFits_44 : decode cX9_whoFits 44 = .ok (.iconst 1, 1) := by decide +kernel
theorem dX9_whoFits_45 : decode cX9_whoFits 45 = .ok (.iand, 1) := by decide +kernel
theorem dX9_whoFits_46 : decode cX9_whoFits 46 = .ok (.aload_n 0, 1) := by decide +kernel
theorem dX9_whoFits_47 : decode cX9_whoFits 47 = .ok (.getfield 41, 3) := by decide +kernel
theorem dX9_whoFits_50 : decode cX9_whoFits 50 = .ok (.iload 4, 2) := by decide +kernel
theorem dX9_whoFits_52 : decode cX9_whoFits 52 = .ok (.iaload, 1) := by decide +kernel
theorem dX9_whoFits_53 : decode cX9_whoFits 53 = .ok (.if_icmp .ne 7, 3) := by decide +kernel
theorem dX9_whoFits_56 : decode cX9_whoFits 56 = .ok (.iconst 1, 1) := by decide +kernel
theorem dX9_whoFits_57 : decode cX9_whoFits 57 = .ok (.goto 4, 3) := by decide +kernel
theorem dX9_whoFits_60 : decode cX9_whoFits 60 = .ok (.iconst 0, 1) := by decide +kernel
theorem dX9_whoFits_61 : decode cX9_whoFits 61 = .ok (.istore_n 3, 1) := by decide +kernel
theorem dX9_whoFits_62 : decode cX9_whoFits 62 = .ok (.iinc 4 1, 3) := by decide +kernel
theorem dX9_whoFits_65 : decode cX9_whoFits 65 = .ok (.goto (-48), 3) := by decide +kernel
theorem dX9_whoFits_68 : decode cX9_whoFits 68 = .ok (.iload_n 1, 1) := by decide +kernel
theorem dX9_whoFits_69 : decode cX9_whoFits 69 = .ok (.iload_n 3, 1) := by decide +kernel
theorem dX9_whoFits_70 : decode cX9_whoFits 70 = .ok (.ifCond .eq 9, 3) := by decide +kernel
theorem dX9_whoFits_73 : decode cX9_whoFits 73 = .ok (.iconst 1, 1) := by decide +kernel
theorem dX9_whoFits_74 : decode cX9_whoFits 74 = .ok (.iload_n 2, 1) := by decide +kernel
theorem dX9_whoFits_75 : decode cX9_whoFits 75 = .ok (.ishl, 1) := by decide +kernel
theorem dX9_whoFits_76 : decode cX9_whoFits 76 = .ok (.goto 4, 3) := by decide +kernel
theorem dX9_whoFits_79 : decode cX9_whoFits 79 = .ok (.iconst 0, 1) := by decide +kernel
theorem dX9_whoFits_80 : decode cX9_whoFits 80 = .ok (.ior, 1) := by decide +kernel
theorem dX9_whoFits_81 : decode cX9_whoFits 81 = .ok (.istore_n 1, 1) := by decide +kernel
theorem dX9_whoFits_82 : decode cX9_whoFits 82 = .ok (.iinc 2 1, 3) := by decide +kernel
theorem dX9_whoFits_85 : decode cX9_whoFits 85 = .ok (.goto (-81), 3) := by decide +kernel
theorem dX9_whoFits_88 : decode cX9_whoFits 88 = .ok (.iload_n 1, 1) := by decide +kernel
theorem dX9_whoFits_89 : decode cX9_whoFits 89 = .ok (.ireturn, 1) := by decide +kernel
theorem dX9_who_0 : decode cX9_who 0 = .ok (.aload_n 0, 1) := by decide +kernel
theorem dX9_who_1 : decode cX9_who 1 = .ok (.iconst 0, 1) := by decide +kernel
theorem dX9_who_2 : decode cX9_who 2 = .ok (.putfield 44, 3) := by decide +kernel
theorem dX9_who_5 : decode cX9_who 5 = .ok (.aload_n 0, 1) := by decide +kernel
theorem dX9_who_6 : decode cX9_who 6 = .ok (.invokevirtual 209, 3) := by decide +kernel
theorem dX9_who_9 : decode cX9_who 9 = .ok (.ireturn, 1) := by decide +kernel
theorem dX9_tell_0 : decode cX9_tell 0 = .ok (.aload_n 0, 1) := by decide +kernel
theorem dX9_tell_1 : decode cX9_tell 1 = .ok (.iconst 0, 1) := by decide +kernel
theorem dX9_tell_2 : decode cX9_tell 2 = .ok (.putfield 44, 3) := by decide +kernel
theorem dX9_tell_5 : decode cX9_tell 5 = .ok (.iload_n 1, 1) := by decide +kernel
theorem dX9_tell_6 : decode cX9_tell 6 = .ok (.iconst 0, 1) := by decide +kernel
theorem dX9_tell_7 : decode cX9_tell 7 = .ok (.iconst 1, 1) := by decide +kernel
theorem dX9_tell_8 : decode cX9_tell 8 = .ok (.invokestatic 48, 3) := by decide +kernel
theorem dX9_tell_11 : decode cX9_tell 11 = .ok (.ifCond .ne 5, 3) := by decide +kernel
theorem dX9_tell_14 : decode cX9_tell 14 = .ok (.iconst (-1), 1) := by decide +kernel
theorem dX9_tell_15 : decode cX9_tell 15 = .ok (.ireturn, 1) := by decide +kernel
theorem dX9_tell_16 : decode cX9_tell 16 = .ok (.aload_n 0, 1) := by decide +kernel
theorem dX9_tell_17 : decode cX9_tell 17 = .ok (.invokevirtual 209, 3) := by decide +kernel
theorem dX9_tell_20 : decode cX9_tell 20 = .ok (.istore_n 2, 1) := by decide +kernel
theorem dX9_tell_21 : decode cX9_tell 21 = .ok (.bipush (-9), 2) := by decide +kernel
theorem dX9_tell_23 : decode cX9_tell 23 = .ok (.istore_n 3, 1) := by decide +kernel
theorem dX9_tell_24 : decode cX9_tell 24 = .ok (.bipush (-9), 2) := by decide +kernel
theorem dX9_tell_26 : decode cX9_tell 26 = .ok (.istore 4, 2) := by decide +kernel
theorem dX9_tell_28 : decode cX9_tell 28 = .ok (.iconst 0, 1) := by decide +kernel
theorem dX9_tell_29 : decode cX9_tell 29 = .ok (.istore 5, 2) := by decide +kernel
theorem dX9_tell_31 : decode cX9_tell 31 = .ok (.iload 5, 2) := by decide +kernel
theorem dX9_tell_33 : decode cX9_tell 33 = .ok (.bipush 8, 2) := by decide +kernel
theorem dX9_tell_35 : decode cX9_tell 35 = .ok (.if_icmp .ge 116, 3) := by decide +kernel
theorem dX9_tell_38 : decode cX9_tell 38 = .ok (.iload_n 2, 1) := by decide +kernel
theorem dX9_tell_39 : decode cX9_tell 39 = .ok (.ifCond .eq 112, 3) := by decide +kernel
theorem dX9_tell_42 : decode cX9_tell 42 = .ok (.iconst 0, 1) := by decide +kernel
theorem dX9_tell_43 : decode cX9_tell 43 = .ok (.istore 6, 2) := by decide +kernel
theorem dX9_tell_45 : decode cX9_tell 45 = .ok (.iconst 0, 1) := by decide +kernel
theorem dX9_tell_46 : decode cX9_tell 46 = .ok (.istore 7, 2) := by decide +kernel
theorem dX9_tell_48 : decode cX9_tell 48 = .ok (.iload 7, 2) := by decide +kernel
theorem dX9_tell_50 : decode cX9_tell 50 = .ok (.aload_n 0, 1) := by decide +kernel
theorem dX9_tell_51 : decode cX9_tell 51 = .ok (.getfield 134, 3) := by decide +kernel
theorem dX9_tell_54 : decode cX9_tell 54 = .ok (.if_icmp .ge 31, 3) := by decide +kernel
theorem dX9_tell_57 : decode cX9_tell 57 = .ok (.iload 6, 2) := by decide +kernel
theorem dX9_tell_59 : decode cX9_tell 59 = .ok (.iload_n 2, 1) := by decide +kernel
theorem dX9_tell_60 : decode cX9_tell 60 = .ok (.iload 7, 2) := by decide +kernel
theorem dX9_tell_62 : decode cX9_tell 62 = .ok (.ishr, 1) := by decide +kernel
theorem dX9_tell_63 : decode cX9_tell 63 = .ok (.aload_n 0, 1) := by decide +kernel
theorem dX9_tell_64 : decode cX9_tell 64 = .ok (.getfield 25, 3) := by decide +kernel
theorem dX9_tell_67 : decode cX9_tell 67 = .ok (.iload 7, 2) := by decide +kernel
theorem dX9_tell_69 : decode cX9_tell 69 = .ok (.iaload, 1) := by decide +kernel
theorem dX9_tell_70 : decode cX9_tell 70 = .ok (.iload 5, 2) := by decide +kernel
theorem dX9_tell_72 : decode cX9_tell 72 = .ok (.ishr, 1) := by decide +kernel
theorem dX9_tell_73 : decode cX9_tell 73 = .ok (.iand, 1) := by decide +kernel
theorem dX9_tell_74 : decode cX9_tell 74 = .ok (.iconst 1, 1) := by decide +kernel
theorem dX9_tell_75 : decode cX9_tell 75 = .ok (.iand, 1) := by decide +kernel
theorem dX9_tell_76 : decode cX9_tell 76 = .ok (.iadd, 1) := by decide +kernel
theorem dX9_tell_77 : decode cX9_tell 77 = .ok (.istore 6, 2) := by decide +kernel
theorem dX9_tell_79 : decode cX9_tell 79 = .ok (.iinc 7 1, 3) := by decide +kernel
theorem dX9_tell_82 : decode cX9_tell 82 = .ok (.goto (-34), 3) := by decide +kernel
theorem dX9_tell_85 : decode cX9_tell 85 = .ok (.iload_n 2, 1) := by decide +kernel
theorem dX9_tell_86 : decode cX9_tell 86 = .ok (.invokestatic 118, 3) := by decide +kernel
theorem dX9_tell_89 : decode cX9_tell 89 = .ok (.iload 6, 2) := by decide +kernel
theorem dX9_tell_91 : decode cX9_tell 91 = .ok (.isub, 1) := by decide +kernel
theorem dX9_tell_92 : decode cX9_tell 92 = .ok (.istore 7, 2) := by decide +kernel
theorem dX9_tell_94 : decode cX9_tell 94 = .ok (.iload 6, 2) := by decide +kernel
theorem dX9_tell_96 : decode cX9_tell 96 = .ok (.iload 7, 2) := by decide +kernel
theorem dX9_tell_98 : decode cX9_tell 98 = .ok (.if_icmp .le 8, 3) := by decide +kernel
theorem dX9_tell_101 : decode cX9_tell 101 = .ok (.iload 6, 2) := by decide +kernel
theorem dX9_tell_103 : decode cX9_tell 103 = .ok (.goto 5, 3) := by decide +kernel
theorem dX9_tell_106 : decode cX9_tell 106 = .ok (.iload 7, 2) := by decide +kernel
theorem dX9_tell_108 : decode cX9_tell 108 = .ok (.istore 8, 2) := by decide +kernel
theorem dX9_tell_110 : decode cX9_tell 110 = .ok (.iload_n 3, 1) := by decide +kernel
theorem dX9_tell_111 : decode cX9_tell 111 = .ok (.bipush (-9), 2) := by decide +kernel
theorem dX9_tell_113 : decode cX9_tell 113 = .ok (.if_icmp .eq 10, 3) := by decide +kernel
theorem dX9_tell_116 : decode cX9_tell 116 = .ok (.iload 8, 2) := by decide +kernel
theorem dX9_tell_118 : decode cX9_tell 118 = .ok (.iload 4, 2) := by decide +kernel
theorem dX9_tell_120 : decode cX9_tell 120 = .ok (.if_icmp .ge 8, 3) := by decide +kernel
theorem dX9_tell_123 : decode cX9_tell 123 = .ok (.iload 5, 2) := by decide +kernel
theorem dX9_tell_125 : decode cX9_tell 125 = .ok (.goto 4, 3) := by decide +kernel
theorem dX9_tell_128 : decode cX9_tell 128 = .ok (.iload_n 3, 1) := by decide +kernel
theorem dX9_tell_129 : decode cX9_tell 129 = .ok (.istore_n 3, 1) := by decide +kernel
theorem dX9_tell_130 : decode cX9_tell 130 = .ok (.iload_n 3, 1) := by decide +kernel
theorem dX9_tell_131 : decode cX9_tell 131 = .ok (.iload 5, 2) := by decide +kernel
theorem dX9_tell_133 : decode cX9_tell 133 = .ok (.if_icmp .ne 8, 3) := by decide +kernel
theorem dX9_tell_136 : decode cX9_tell 136 = .ok (.iload 8, 2) := by decide +kernel
theorem dX9_tell_138 : decode cX9_tell 138 = .ok (.goto 5, 3) := by decide +kernel
theorem dX9_tell_141 : decode cX9_tell 141 = .ok (.iload 4, 2) := by decide +kernel
theorem dX9_tell_143 : decode cX9_tell 143 = .ok (.istore 4, 2) := by decide +kernel
theorem dX9_tell_145 : decode cX9_tell 145 = .ok (.iinc 5 1, 3) := by decide +kernel
theorem dX9_tell_148 : decode cX9_tell 148 = .ok (.goto (-117), 3) := by decide +kernel
theorem dX9_tell_151 : decode cX9_tell 151 = .ok (.iload_n 1, 1) := by decide +kernel
theorem dX9_tell_152 : decode cX9_tell 152 = .ok (.ifCond .ne 7, 3) := by decide +kernel
theorem dX9_tell_155 : decode cX9_tell 155 = .ok (.iload_n 3, 1) := by decide +kernel
theorem dX9_tell_156 : decode cX9_tell 156 = .ok (.goto 5, 3) := by decide +kernel
theorem dX9_tell_159 : decode cX9_tell 159 = .ok (.iload 4, 2) := by decide +kernel
theorem dX9_tell_161 : decode cX9_tell 161 = .ok (.ireturn, 1) := by decide +kernel
theorem dX9_rate_0 : decode cX9_rate 0 = .ok (.aload_n 0, 1) := by decide +kernel
theorem dX9_rate_1 : decode cX9_rate 1 = .ok (.iconst 0, 1) := by decide +kernel
theorem dX9_rate_2 : decode cX9_rate 2 = .ok (.putfield 44, 3) := by decide +kernel
theorem dX9_rate_5 : decode cX9_rate 5 = .ok (.iload_n 1, 1) := by decide +kernel
theorem dX9_rate_6 : decode cX9_rate 6 = .ok (.iconst 0, 1) := by decide +kernel
theorem dX9_rate_7 : decode cX9_rate 7 = .ok (.iconst 5, 1) := by decide +kernel
theorem dX9_rate_8 : decode cX9_rate 8 = .ok (.invokestatic 48, 3) := by decide +kernel
theorem dX9_rate_11 : decode cX9_rate 11 = .ok (.ifCond .eq 11, 3) := by decide +kernel
theorem dX9_rate_14 : decode cX9_rate 14 = .ok (.aload_n 0, 1) := by decide +kernel
theorem dX9_rate_15 : decode cX9_rate 15 = .ok (.iload_n 2, 1) := by decide +kernel
theorem dX9_rate_16 : decode cX9_rate 16 = .ok (.invokevirtual 153, 3) := by decide +kernel
theorem dX9_rate_19 : decode cX9_rate 19 = .ok (.ifCond .ne 6, 3) := by decide +kernel
theorem dX9_rate_22 : decode cX9_rate 22 = .ok (.ldc 212, 2) := by decide +kernel
theorem dX9_rate_24 : decode cX9_rate 24 = .ok (.ireturn, 1) := by decide +kernel
theorem dX9_rate_25 : decode cX9_rate 25 = .ok (.aload_n 0, 1) := by decide +kernel
theorem dX9_rate_26 : decode cX9_rate 26 = .ok (.getfield 25, 3) := by decide +kernel
theorem dX9_rate_29 : decode cX9_rate 29 = .ok (.iload_n 2, 1) := by decide +kernel
theorem dX9_rate_30 : decode cX9_rate 30 = .ok (.iaload, 1) := by decide +kernel
theorem dX9_rate_31 : decode cX9_rate 31 = .ok (.invokestatic 118, 3) := by decide +kernel
theorem dX9_rate_34 : decode cX9_rate 34 = .ok (.istore_n 3, 1) := by decide +kernel
theorem dX9_rate_35 : decode cX9_rate 35 = .ok (.iload_n 3, 1) := by decide +kernel
theorem dX9_rate_36 : decode cX9_rate 36 = .ok (.istore 4, 2) := by decide +kernel
theorem dX9_rate_38 : decode cX9_rate 38 = .ok (.iconst 0, 1) := by decide +kernel
theorem dX9_rate_39 : decode cX9_rate 39 = .ok (.istore 5, 2) := by decide +kernel
theorem dX9_rate_41 : decode cX9_rate 41 = .ok (.iload 5, 2) := by decide +kernel
theorem dX9_rate_43 : decode cX9_rate 43 = .ok (.aload_n 0, 1) := by decide +kernel
theorem dX9_rate_44 : decode cX9_rate 44 = .ok (.getfield 140, 3) := by decide +kernel
theorem dX9_rate_47 : decode cX9_rate 47 = .ok (.if_icmp .ge 34, 3) := by decide +kernel
theorem dX9_rate_50 : decode cX9_rate 50 = .ok (.iload 4, 2) := by decide +kernel
theorem dX9_rate_52 : decode cX9_rate 52 = .ok (.aload_n 0, 1) := by decide +kernel
theorem dX9_rate_53 : decode cX9_rate 53 = .ok (.aload_n 0, 1) := by decide +kernel
theorem dX9_rate_54 : decode cX9_rate 54 = .ok (.getfield 25, 3) := by decide +kernel
theorem dX9_rate_57 : decode cX9_rate 57 = .ok (.iload_n 2, 1) := by decide +kernel
theorem dX9_rate_58 : decode cX9_rate 58 = .ok (.iaload, 1) := by decide +kernel
theorem dX9_rate_59 : decode cX9_rate 59 = .ok (.iload 5, 2) := by decide +kernel
theorem dX9_rate_61 : decode cX9_rate 61 = .ok (.invokevirtual 149, 3) := by decide +kernel
theorem dX9_rate_64 : decode cX9_rate 64 = .ok (.ifCond .eq 7, 3) := by decide +kernel
theorem dX9_rate_67 : decode cX9_rate 67 = .ok (.iconst 1, 1) := by decide +kernel
theorem dX9_rate_68 : decode cX9_rate 68 = .ok (.goto 4, 3) := by decide +kernel
theorem dX9_rate_71 : decode cX9_rate 71 = .ok (.iconst 0, 1) := by decide +kernel
theorem dX9_rate_72 : decode cX9_rate 72 = .ok (.iadd, 1) := by decide +kernel
theorem dX9_rate_73 : decode cX9_rate 73 = .ok (.istore 4, 2) := by decide +kernel
theorem dX9_rate_75 : decode cX9_rate 75 = .ok (.iinc 5 1, 3) := by decide +kernel
theorem dX9_rate_78 : decode cX9_rate 78 = .ok (.goto (-37), 3) := by decide +kernel
theorem dX9_rate_81 : decode cX9_rate 81 = .ok (.iload_n 3, 1) := by decide +kernel
theorem dX9_rate_82 : decode cX9_rate 82 = .ok (.aload_n 0, 1) := by decide +kernel
theorem dX9_rate_83 : decode cX9_rate 83 = .ok (.getfield 25, 3) := by decide +kernel
theorem dX9_rate_86 : decode cX9_rate 86 = .ok (.iconst 5, 1) := by decide +kernel
theorem dX9_rate_87 : decode cX9_rate 87 = .ok (.iload_n 2, 1) := by decide +kernel
theorem dX9_rate_88 : decode cX9_rate 88 = .ok (.iadd, 1) := by decide +kernel
theorem dX9_rate_89 : decode cX9_rate 89 = .ok (.iaload, 1) := by decide +kernel
theorem dX9_rate_90 : decode cX9_rate 90 = .ok (.isub, 1) := by decide +kernel
theorem dX9_rate_91 : decode cX9_rate 91 = .ok (.istore 5, 2) := by decide +kernel
theorem dX9_rate_93 : decode cX9_rate 93 = .ok (.aload_n 0, 1) := by decide +kernel
theorem dX9_rate_94 : decode cX9_rate 94 = .ok (.dup, 1) := by decide +kernel
theorem dX9_rate_95 : decode cX9_rate 95 = .ok (.getfield 213, 3) := by decide +kernel
theorem dX9_rate_98 : decode cX9_rate 98 = .ok (.iload_n 1, 1) := by decide +kernel
theorem dX9_rate_99 : decode cX9_rate 99 = .ok (.ifCond .ne 7, 3) := by decide +kernel
theorem dX9_rate_102 : decode cX9_rate 102 = .ok (.lconst 1, 1) := by decide +kernel
theorem dX9_rate_103 : decode cX9_rate 103 = .ok (.goto 50, 3) := by decide +kernel
theorem dX9_rate_106 : decode cX9_rate 106 = .ok (.iload_n 1, 1) := by decide +kernel
theorem dX9_rate_107 : decode cX9_rate 107 = .ok (.iconst 1, 1) := by decide +kernel
theorem dX9_rate_108 : decode cX9_rate 108 = .ok (.if_icmp .ne 9, 3) := by decide +kernel
theorem dX9_rate_111 : decode cX9_rate 111 = .ok (.ldc2_w 217, 3) := by decide +kernel
theorem dX9_rate_114 : decode cX9_rate 114 = .ok (.goto 39, 3) := by decide +kernel
theorem dX9_rate_117 : decode cX9_rate 117 = .ok (.iload_n 1, 1) := by decide +kernel
theorem dX9_rate_118 : decode cX9_rate 118 = .ok (.iconst 2, 1) := by decide +kernel
theorem dX9_rate_119 : decode cX9_rate 119 = .ok (.if_icmp .ne 9, 3) := by decide +kernel
theorem dX9_rate_122 : decode cX9_rate 122 = .ok (.ldc2_w 219, 3) := by decide +kernel
theorem dX9_rate_125 : decode cX9_rate 125 = .ok (.goto 28, 3) := by decide +kernel
theorem dX9_rate_128 : decode cX9_rate 128 = .ok (.iload_n 1, 1) := by decide +kernel
theorem dX9_rate_129 : decode cX9_rate 129 = .ok (.iconst 3, 1) := by decide +kernel
theorem dX9_rate_130 : decode cX9_rate 130 = .ok (.if_icmp .ne 9, 3) := by decide +kernel
theorem dX9_rate_133 : decode cX9_rate 133 = .ok (.ldc2_w 221, 3) := by decide +kernel
theorem dX9_rate_136 : decode cX9_rate 136 = .ok (.goto 17, 3) := by decide +kernel
theorem dX9_rate_139 : decode cX9_rate 139 = .ok (.iload_n 1, 1) := by decide +kernel
theorem dX9_rate_140 : decode cX9_rate 140 = .ok (.iconst 4, 1) := by decide +kernel
theorem dX9_rate_141 : decode cX9_rate 141 = .ok (.if_icmp .ne 9, 3) := by decide +kernel
theorem dX9_rate_144 : decode cX9_rate 144 = .ok (.ldc2_w 223, 3) := by decide +kernel
theorem dX9_rate_147 : decode cX9_rate 147 = .ok (.goto 6, 3) := by decide +kernel
theorem dX9_rate_150 : decode cX9_rate 150 = .ok (.ldc2_w 225, 3) := by decide +kernel
theorem dX9_rate_153 : decode cX9_rate 153 = .ok (.ladd, 1) := by decide +kernel
theorem dX9_rate_154 : decode cX9_rate 154 = .ok (.putfield 213, 3) := by decide +kernel
theorem dX9_rate_157 : decode cX9_rate 157 = .ok (.iload_n 1, 1) := by decide +kernel
theorem dX9_rate_158 : decode cX9_rate 158 = .ok (.ifCond .ne 7, 3) := by decide +kernel
theorem dX9_rate_161 : decode cX9_rate 161 = .ok (.iload_n 3, 1) := by decide +kernel
theorem dX9_rate_162 : decode cX9_rate 162 = .ok (.goto 63, 3) := by decide +kernel
theorem dX9_rate_165 : decode cX9_rate 165 = .ok (.iload_n 1, 1) := by decide +kernel
theorem dX9_rate_166 : decode cX9_rate 166 = .ok (.iconst 1, 1) := by decide +kernel
theorem dX9_rate_167 : decode cX9_rate 167 = .ok (.if_icmp .ne 8, 3) := by decide +kernel
theorem dX9_rate_170 : decode cX9_rate 170 = .ok (.iload 4, 2) := by decide +kernel
theorem dX9_rate_172 : decode cX9_rate 172 = .ok (.goto 53, 3) := by decide +kernel
theorem dX9_rate_175 : decode cX9_rate 175 = .ok (.iload_n 1, 1) := by decide +kernel
theorem dX9_rate_176 : decode cX9_rate 176 = .ok (.iconst 2, 1) := by decide +kernel
theorem dX9_rate_177 : decode cX9_rate 177 = .ok (.if_icmp .ne 8, 3) := by decide +kernel
theorem dX9_rate_180 : decode cX9_rate 180 = .ok (.iload 5, 2) := by decide +kernel
theorem dX9_rate_182 : decode cX9_rate 182 = .ok (.goto 43, 3) := by decide +kernel
theorem dX9_rate_185 : decode cX9_rate 185 = .ok (.iload_n 1, 1) := by decide +kernel
theorem dX9_rate_186 : decode cX9_rate 186 = .ok (.iconst 3, 1) := by decide +kernel
theorem dX9_rate_187 : decode cX9_rate 187 = .ok (.if_icmp .ne 10, 3) := by decide +kernel
theorem dX9_rate_190 : decode cX9_rate 190 = .ok (.iconst 2, 1) := by decide +kernel
theorem dX9_rate_191 : decode cX9_rate 191 = .ok (.iload 4, 2) := by decide +kernel
theorem dX9_rate_193 : decode cX9_rate 193 = .ok (.imul, 1) := by decide +kernel
theorem dX9_rate_194 : decode cX9_rate 194 = .ok (.goto 31, 3) := by decide +kernel
theorem dX9_rate_197 : decode cX9_rate 197 = .ok (.iload_n 1, 1) := by decide +kernel
theorem dX9_rate_198 : decode cX9_rate 198 = .ok (.iconst 4, 1) := by decide +kernel
theorem dX9_rate_199 : decode cX9_rate 199 = .ok (.if_icmp .ne 10, 3) := by decide +kernel
theorem dX9_rate_202 : decode cX9_rate 202 = .ok (.iload 5, 2) := by decide +kernel
theorem dX9_rate_204 : decode cX9_rate 204 = .ok (.iload_n 2, 1) := by decide +kernel
theorem dX9_rate_205 : decode cX9_rate 205 = .ok (.iadd, 1) := by decide +kernel
theorem dX9_rate_206 : decode cX9_rate 206 = .ok (.goto 19, 3) := by decide +kernel
theorem dX9_rate_209 : decode cX9_rate 209 = .ok (.iload_n 3, 1) := by decide +kernel
theorem dX9_rate_210 : decode cX9_rate 210 = .ok (.aload_n 0, 1) := by decide +kernel
theorem dX9_rate_211 : decode cX9_rate 211 = .ok (.getfield 25, 3) := by decide +kernel
theorem dX9_rate_214 : decode cX9_rate 214 = .ok (.iload_n 2, 1) := by decide +kernel
theorem dX9_rate_215 : decode cX9_rate 215 = .ok (.iaload, 1) := by decide +kernel
theorem dX9_rate_216 : decode cX9_rate 216 = .ok (.aload_n 0, 1) := by decide +kernel
theorem dX9_rate_217 : decode cX9_rate 217 = .ok (.getfield 131, 3) := by decide +kernel
theorem dX9_rate_220 : decode cX9_rate 220 = .ok (.iand, 1) := by decide +kernel
theorem dX9_rate_221 : decode cX9_rate 221 = .ok (.invokestatic 118, 3) := by decide +kernel
theorem dX9_rate_224 : decode cX9_rate 224 = .ok (.iadd, 1) := by decide +kernel
theorem dX9_rate_225 : decode cX9_rate 225 = .ok (.ireturn, 1) := by decide +kernel
theorem dX9_keep_0 : decode cX9_keep 0 = .ok (.aload_n 0, 1) := by decide +kernel
theorem dX9_keep_1 : decode cX9_keep 1 = .ok (.iconst 0, 1) := by decide +kernel
theorem dX9_keep_2 : decode cX9_keep 2 = .ok (.putfield 44, 3) := by decide +kernel
theorem dX9_keep_5 : decode cX9_keep 5 = .ok (.iload_n 1, 1) := by decide +kernel
theorem dX9_keep_6 : decode cX9_keep 6 = .ok (.iconst 0, 1) := by decide +kernel
theorem dX9_keep_7 : decode cX9_keep 7 = .ok (.iconst 1, 1) := by decide +kernel
theorem dX9_keep_8 : decode cX9_keep 8 = .ok (.invokestatic 48, 3) := by decide +kernel
theorem dX9_keep_11 : decode cX9_keep 11 = .ok (.ifCond .ne 5, 3) := by decide +kernel
theorem dX9_keep_14 : decode cX9_keep 14 = .ok (.iconst (-1), 1) := by decide +kernel
theorem dX9_keep_15 : decode cX9_keep 15 = .ok (.ireturn, 1) := by decide +kernel
theorem dX9_keep_16 : decode cX9_keep 16 = .ok (.iconst 0, 1) := by decide +kernel
theorem dX9_keep_17 : decode cX9_keep 17 = .ok (.istore_n 2, 1) := by decide +kernel
theorem dX9_keep_18 : decode cX9_keep 18 = .ok (.iload_n 2, 1) := by decide +kernel
theorem dX9_keep_19 : decode cX9_keep 19 = .ok (.bipush 18, 2) := by decide +kernel
theorem dX9_keep_21 : decode cX9_keep 21 = .ok (.if_icmp .ge 26, 3) := by decide +kernel
theorem dX9_keep_24 : decode cX9_keep 24 = .ok (.aload_n 0, 1) := by decide +kernel
theorem dX9_keep_25 : decode cX9_keep 25 = .ok (.getfield 28, 3) := by decide +kernel
theorem dX9_keep_28 : decode cX9_keep 28 = .ok (.bipush 18, 2) := by decide +kernel
theorem dX9_keep_30 : decode cX9_keep 30 = .ok (.iload_n 1, 1) := by decide +kernel
theorem dX9_keep_31 : decode cX9_keep 31 = .ok (.imul, 1) := by decide +kernel
theorem dX9_keep_32 : decode cX9_keep 32 = .ok (.iload_n 2, 1) := by decide +kernel
theorem dX9_keep_33 : decode cX9_keep 33 = .ok (.iadd, 1) := by decide +kernel
theorem dX9_keep_34 : decode cX9_keep 34 = .ok (.aload_n 0, 1) := by decide +kernel
theorem dX9_keep_35 : decode cX9_keep 35 = .ok (.getfield 25, 3) := by decide +kernel
theorem dX9_keep_38 : decode cX9_keep 38 = .ok (.iload_n 2, 1) := by decide +kernel
theorem dX9_keep_39 : decode cX9_keep 39 = .ok (.iaload, 1) := by decide +kernel
theorem dX9_keep_40 : decode cX9_keep 40 = .ok (.iastore, 1) := by decide +kernel
theorem dX9_keep_41 : decode cX9_keep 41 = .ok (.iinc 2 1, 3) := by decide +kernel
theorem dX9_keep_44 : decode cX9_keep 44 = .ok (.goto (-26), 3) := by decide +kernel
theorem dX9_keep_47 : decode cX9_keep 47 = .ok (.aload_n 0, 1) := by decide +kernel
theorem dX9_keep_48 : decode cX9_keep 48 = .ok (.getfield 31, 3) := by decide +kernel
theorem dX9_keep_51 : decode cX9_keep 51 = .ok (.iload_n 1, 1) := by decide +kernel
theorem dX9_keep_52 : decode cX9_keep 52 = .ok (.iconst 1, 1) := by decide +kernel
theorem dX9_keep_53 : decode cX9_keep 53 = .ok (.bastore, 1) := by decide +kernel
theorem dX9_keep_54 : decode cX9_keep 54 = .ok (.aload_n 0, 1) := by decide +kernel
theorem dX9_keep_55 : decode cX9_keep 55 = .ok (.invokevirtual 173, 3) := by decide +kernel
theorem dX9_keep_58 : decode cX9_keep 58 = .ok (.invokestatic 118, 3) := by decide +kernel
theorem dX9_keep_61 : decode cX9_keep 61 = .ok (.ireturn, 1) := by decide +kernel
theorem dX9_back_0 : decode cX9_back 0 = .ok (.aload_n 0, 1) := by decide +kernel
theorem dX9_back_1 : decode cX9_back 1 = .ok (.iconst 0, 1) := by decide +kernel
theorem dX9_back_2 : decode cX9_back 2 = .ok (.putfield 44, 3) := by decide +kernel
theorem dX9_back_5 : decode cX9_back 5 = .ok (.iload_n 1, 1) := by decide +kernel
theorem dX9_back_6 : decode cX9_back 6 = .ok (.iconst 0, 1) := by decide +kernel
theorem dX9_back_7 : decode cX9_back 7 = .ok (.iconst 1, 1) := by decide +kernel
theorem dX9_back_8 : decode cX9_back 8 = .ok (.invokestatic 48, 3) := by decide +kernel
theorem dX9_back_11 : decode cX9_back 11 = .ok (.ifCond .ne 5, 3) := by decide +kernel
theorem dX9_back_14 : decode cX9_back 14 = .ok (.iconst (-1), 1) := by decide +kernel
theorem dX9_back_15 : decode cX9_back 15 = .ok (.ireturn, 1) := by decide +kernel
theorem dX9_back_16 : decode cX9_back 16 = .ok (.aload_n 0, 1) := by decide +kernel
theorem dX9_back_17 : decode cX9_back 17 = .ok (.getfield 31, 3) := by decide +kernel
theorem dX9_back_20 : decode cX9_back 20 = .ok (.iload_n 1, 1) := by decide +kernel
theorem dX9_back_21 : decode cX9_back 21 = .ok (.baload, 1) := by decide +kernel
theorem dX9_back_22 : decode cX9_back 22 = .ok (.ifCond .ne 6, 3) := by decide +kernel
theorem dX9_back_25 : decode cX9_back 25 = .ok (.bipush (-2), 2) := by decide +kernel
theorem dX9_back_27 : decode cX9_back 27 = .ok (.ireturn, 1) := by decide +kernel
theorem dX9_back_28 : decode cX9_back 28 = .ok (.iconst 0, 1) := by decide +kernel
theorem dX9_back_29 : decode cX9_back 29 = .ok (.istore_n 2, 1) := by decide +kernel
theorem dX9_back_30 : decode cX9_back 30 = .ok (.iload_n 2, 1) := by decide +kernel
theorem dX9_back_31 : decode cX9_back 31 = .ok (.bipush 18, 2) := by decide +kernel
theorem dX9_back_33 : decode cX9_back 33 = .ok (.if_icmp .ge 26, 3) := by decide +kernel
theorem dX9_back_36 : decode cX9_back 36 = .ok (.aload_n 0, 1) := by decide +kernel
theorem dX9_back_37 : decode cX9_back 37 = .ok (.getfield 25, 3) := by decide +kernel
theorem dX9_back_40 : decode cX9_back 40 = .ok (.iload_n 2, 1) := by decide +kernel
theorem dX9_back_41 : decode cX9_back 41 = .ok (.aload_n 0, 1) := by decide +kernel
theorem dX9_back_42 : decode cX9_back 42 = .ok (.getfield 28, 3) := by decide +kernel
theorem dX9_back_45 : decode cX9_back 45 = .ok (.bipush 18, 2) := by decide +kernel
theorem dX9_back_47 : decode cX9_back 47 = .ok (.iload_n 1, 1) := by decide +kernel
theorem dX9_back_48 : decode cX9_back 48 = .ok (.imul, 1) := by decide +kernel
theorem dX9_back_49 : decode cX9_back 49 = .ok (.iload_n 2, 1) := by decide +kernel
theorem dX9_back_50 : decode cX9_back 50 = .ok (.iadd, 1) := by decide +kernel
theorem dX9_back_51 : decode cX9_back 51 = .ok (.iaload, 1) := by decide +kernel
theorem dX9_back_52 : decode cX9_back 52 = .ok (.iastore, 1) := by decide +kernel
theorem dX9_back_53 : decode cX9_back 53 = .ok (.iinc 2 1, 3) := by decide +kernel
theorem dX9_back_56 : decode cX9_back 56 = .ok (.goto (-26), 3) := by decide +kernel
theorem dX9_back_59 : decode cX9_back 59 = .ok (.aload_n 0, 1) := by decide +kernel
theorem dX9_back_60 : decode cX9_back 60 = .ok (.iconst 0, 1) := by decide +kernel
theorem dX9_back_61 : decode cX9_back 61 = .ok (.putfield 143, 3) := by decide +kernel
theorem dX9_back_64 : decode cX9_back 64 = .ok (.aload_n 0, 1) := by decide +kernel
theorem dX9_back_65 : decode cX9_back 65 = .ok (.invokevirtual 173, 3) := by decide +kernel
theorem dX9_back_68 : decode cX9_back 68 = .ok (.invokestatic 118, 3) := by decide +kernel
theorem dX9_back_71 : decode cX9_back 71 = .ok (.ireturn, 1) := by decide +kernel
theorem dX9_count_0 : decode cX9_count 0 = .ok (.aload_n 0, 1) := by decide +kernel
theorem dX9_count_1 : decode cX9_count 1 = .ok (.iconst 0, 1) := by decide +kernel
theorem dX9_count_2 : decode cX9_count 2 = .ok (.putfield 44, 3) := by decide +kernel
theorem dX9_count_5 : decode cX9_count 5 = .ok (.iload_n 1, 1) := by decide +kernel
theorem dX9_count_6 : decode cX9_count 6 = .ok (.ifCond .ne 10, 3) := by decide +kernel
theorem dX9_count_9 : decode cX9_count 9 = .ok (.aload_n 0, 1) := by decide +kernel
theorem dX9_count_10 : decode cX9_count 10 = .ok (.getfield 134, 3) := by decide +kernel
theorem dX9_count_13 : decode cX9_count 13 = .ok (.goto 52, 3) := by decide +kernel
theorem dX9_count_16 : decode cX9_count 16 = .ok (.iload_n 1, 1) := by decide +kernel
theorem dX9_count_17 : decode cX9_count 17 = .ok (.iconst 1, 1) := by decide +kernel
theorem dX9_count_18 : decode cX9_count 18 = .ok (.if_icmp .ne 10, 3) := by decide +kernel
theorem dX9_count_21 : decode cX9_count 21 = .ok (.aload_n 0, 1) := by decide +kernel
theorem dX9_count_22 : decode cX9_count 22 = .ok (.getfield 137, 3) := by decide +kernel
theorem dX9_count_25 : decode cX9_count 25 = .ok (.goto 40, 3) := by decide +kernel
theorem dX9_count_28 : decode cX9_count 28 = .ok (.iload_n 1, 1) := by decide +kernel
theorem dX9_count_29 : decode cX9_count 29 = .ok (.iconst 2, 1) := by decide +kernel
theorem dX9_count_30 : decode cX9_count 30 = .ok (.if_icmp .ne 10, 3) := by decide +kernel
theorem dX9_count_33 : decode cX9_count 33 = .ok (.aload_n 0, 1) := by decide +kernel
theorem dX9_count_34 : decode cX9_count 34 = .ok (.getfield 140, 3) := by decide +kernel
theorem dX9_count_37 : decode cX9_count 37 = .ok (.goto 28, 3) := by decide +kernel
theorem dX9_count_40 : decode cX9_count 40 = .ok (.iload_n 1, 1) := by decide +kernel
theorem dX9_count_41 : decode cX9_count 41 = .ok (.iconst 3, 1) := by decide +kernel
theorem dX9_count_42 : decode cX9_count 42 = .ok (.if_icmp .ne 10, 3) := by decide +kernel
theorem dX9_count_45 : decode cX9_count 45 = .ok (.aload_n 0, 1) := by decide +kernel
theorem dX9_count_46 : decode cX9_count 46 = .ok (.getfield 146, 3) := by decide +kernel
theorem dX9_count_49 : decode cX9_count 49 = .ok (.goto 16, 3) := by decide +kernel
theorem dX9_count_52 : decode cX9_count 52 = .ok (.iload_n 1, 1) := by decide +kernel
theorem dX9_count_53 : decode cX9_count 53 = .ok (.iconst 4, 1) := by decide +kernel
theorem dX9_count_54 : decode cX9_count 54 = .ok (.if_icmp .ne 10, 3) := by decide +kernel
theorem dX9_count_57 : decode cX9_count 57 = .ok (.aload_n 0, 1) := by decide +kernel
theorem dX9_count_58 : decode cX9_count 58 = .ok (.getfield 52, 3) := by decide +kernel
theorem dX9_count_61 : decode cX9_count 61 = .ok (.goto 4, 3) := by decide +kernel
theorem dX9_count_64 : decode cX9_count 64 = .ok (.iconst (-1), 1) := by decide +kernel
theorem dX9_count_65 : decode cX9_count 65 = .ok (.ireturn, 1) := by decide +kernel
theorem dX9_trace_0 : decode cX9_trace 0 = .ok (.aload_n 0, 1) := by decide +kernel
theorem dX9_trace_1 : decode cX9_trace 1 = .ok (.iconst 0, 1) := by decide +kernel
theorem dX9_trace_2 : decode cX9_trace 2 = .ok (.putfield 44, 3) := by decide +kernel
theorem dX9_trace_5 : decode cX9_trace 5 = .ok (.aload_n 0, 1) := by decide +kernel
theorem dX9_trace_6 : decode cX9_trace 6 = .ok (.getfield 213, 3) := by decide +kernel
theorem dX9_trace_9 : decode cX9_trace 9 = .ok (.lreturn, 1) := by decide +kernel
theorem dJ6_bitCount_0f7a4_0 : decode cJ6_bitCount_0f7a4 0 = .ok (.iload_n 0, 1) := by decide +kernel
theorem dJ6_bitCount_0f7a4_1 : decode cJ6_bitCount_0f7a4 1 = .ok (.iload_n 0, 1) := by decide +kernel
theorem dJ6_bitCount_0f7a4_2 : decode cJ6_bitCount_0f7a4 2 = .ok (.iconst 1, 1) := by decide +kernel
theorem dJ6_bitCount_0f7a4_3 : decode cJ6_bitCount_0f7a4 3 = .ok (.iushr, 1) := by decide +kernel
theorem dJ6_bitCount_0f7a4_4 : decode cJ6_bitCount_0f7a4 4 = .ok (.ldc_w 265, 3) := by decide +kernel
theorem dJ6_bitCount_0f7a4_7 : decode cJ6_bitCount_0f7a4 7 = .ok (.iand, 1) := by decide +kernel
theorem dJ6_bitCount_0f7a4_8 : decode cJ6_bitCount_0f7a4 8 = .ok (.isub, 1) := by decide +kernel
theorem dJ6_bitCount_0f7a4_9 : decode cJ6_bitCount_0f7a4 9 = .ok (.istore_n 0, 1) := by decide +kernel
theorem dJ6_bitCount_0f7a4_10 : decode cJ6_bitCount_0f7a4 10 = .ok (.iload_n 0, 1) := by decide +kernel
theorem dJ6_bitCount_0f7a4_11 : decode cJ6_bitCount_0f7a4 11 = .ok (.ldc_w 266, 3) := by decide +kernel
theorem dJ6_bitCount_0f7a4_14 : decode cJ6_bitCount_0f7a4 14 = .ok (.iand, 1) := by decide +kernel
theorem dJ6_bitCount_0f7a4_15 : decode cJ6_bitCount_0f7a4 15 = .ok (.iload_n 0, 1) := by decide +kernel
theorem dJ6_bitCount_0f7a4_16 : decode cJ6_bitCount_0f7a4 16 = .ok (.iconst 2, 1) := by decide +kernel
theorem dJ6_bitCount_0f7a4_17 : decode cJ6_bitCount_0f7a4 17 = .ok (.iushr, 1) := by decide +kernel
theorem dJ6_bitCount_0f7a4_18 : decode cJ6_bitCount_0f7a4 18 = .ok (.ldc_w 266, 3) := by decide +kernel
theorem dJ6_bitCount_0f7a4_21 : decode cJ6_bitCount_0f7a4 21 = .ok (.iand, 1) := by decide +kernel
theorem dJ6_bitCount_0f7a4_22 : decode cJ6_bitCount_0f7a4 22 = .ok (.iadd, 1) := by decide +kernel
theorem dJ6_bitCount_0f7a4_23 : decode cJ6_bitCount_0f7a4 23 = .ok (.istore_n 0, 1) := by decide +kernel
theorem dJ6_bitCount_0f7a4_24 : decode cJ6_bitCount_0f7a4 24 = .ok (.iload_n 0, 1) := by decide +kernel
theorem dJ6_bitCount_0f7a4_25 : decode cJ6_bitCount_0f7a4 25 = .ok (.iload_n 0, 1) := by decide +kernel
theorem dJ6_bitCount_0f7a4_26 : decode cJ6_bitCount_0f7a4 26 = .ok (.iconst 4, 1) := by decide +kernel
theorem dJ6_bitCount_0f7a4_27 : decode cJ6_bitCount_0f7a4 27 = .ok (.iushr, 1) := by decide +kernel
theorem dJ6_bitCount_0f7a4_28 : decode cJ6_bitCount_0f7a4 28 = .ok (.iadd, 1) := by decide +kernel
theorem dJ6_bitCount_0f7a4_29 : decode cJ6_bitCount_0f7a4 29 = .ok (.ldc_w 267, 3) := by decide +kernel
theorem dJ6_bitCount_0f7a4_32 : decode cJ6_bitCount_0f7a4 32 = .ok (.iand, 1) := by decide +kernel
theorem dJ6_bitCount_0f7a4_33 : decode cJ6_bitCount_0f7a4 33 = .ok (.istore_n 0, 1) := by decide +kernel
theorem dJ6_bitCount_0f7a4_34 : decode cJ6_bitCount_0f7a4 34 = .ok (.iload_n 0, 1) := by decide +kernel
theorem dJ6_bitCount_0f7a4_35 : decode cJ6_bitCount_0f7a4 35 = .ok (.iload_n 0, 1) := by decide +kernel
theorem dJ6_bitCount_0f7a4_36 : decode cJ6_bitCount_0f7a4 36 = .ok (.bipush 8, 2) := by decide +kernel
theorem dJ6_bitCount_0f7a4_38 : decode cJ6_bitCount_0f7a4 38 = .ok (.iushr, 1) := by decide +kernel
theorem dJ6_bitCount_0f7a4_39 : decode cJ6_bitCount_0f7a4 39 = .ok (.iadd, 1) := by decide +kernel
theorem dJ6_bitCount_0f7a4_40 : decode cJ6_bitCount_0f7a4 40 = .ok (.istore_n 0, 1) := by decide +kernel
theorem dJ6_bitCount_0f7a4_41 : decode cJ6_bitCount_0f7a4 41 = .ok (.iload_n 0, 1) := by decide +kernel
theorem dJ6_bitCount_0f7a4_42 : decode cJ6_bitCount_0f7a4 42 = .ok (.iload_n 0, 1) := by decide +kernel
theorem dJ6_bitCount_0f7a4_43 : decode cJ6_bitCount_0f7a4 43 = .ok (.bipush 16, 2) := by decide +kernel
theorem dJ6_bitCount_0f7a4_45 : decode cJ6_bitCount_0f7a4 45 = .ok (.iushr, 1) := by decide +kernel
theorem dJ6_bitCount_0f7a4_46 : decode cJ6_bitCount_0f7a4 46 = .ok (.iadd, 1) := by decide +kernel
theorem dJ6_bitCount_0f7a4_47 : decode cJ6_bitCount_0f7a4 47 = .ok (.istore_n 0, 1) := by decide +kernel
theorem dJ6_bitCount_0f7a4_48 : decode cJ6_bitCount_0f7a4 48 = .ok (.iload_n 0, 1) := by decide +kernel
theorem dJ6_bitCount_0f7a4_49 : decode cJ6_bitCount_0f7a4 49 = .ok (.bipush 63, 2) := by decide +kernel
theorem dJ6_bitCount_0f7a4_51 : decode cJ6_bitCount_0f7a4 51 = .ok (.iand, 1) := by decide +kernel
theorem dJ6_bitCount_0f7a4_52 : decode cJ6_bitCount_0f7a4 52 = .ok (.ireturn, 1) := by decide +kernel
theorem dJ9_max_7cf53_0 : decode cJ9_max_7cf53 0 = .ok (.iload_n 0, 1) := by decide +kernel
theorem dJ9_max_7cf53_1 : decode cJ9_max_7cf53 1 = .ok (.iload_n 1, 1) := by decide +kernel
theorem dJ9_max_7cf53_2 : decode cJ9_max_7cf53 2 = .ok (.if_icmp .lt 7, 3) := by decide +kernel
theorem dJ9_max_7cf53_5 : decode cJ9_max_7cf53 5 = .ok (.iload_n 0, 1) := by decide +kernel
theorem dJ9_max_7cf53_6 : decode cJ9_max_7cf53 6 = .ok (.goto 4, 3) := by decide +kernel
theorem dJ9_max_7cf53_9 : decode cJ9_max_7cf53 9 = .ok (.iload_n 1, 1) := by decide +kernel
theorem dJ9_max_7cf53_10 : decode cJ9_max_7cf53 10 = .ok (.ireturn, 1) := by decide +kernel
theorem dJ9_max_f86c9_0 : decode cJ9_max_f86c9 0 = .ok (.lload_n 0, 1) := by decide +kernel
theorem dJ9_max_f86c9_1 : decode cJ9_max_f86c9 1 = .ok (.lload_n 2, 1) := by decide +kernel
theorem dJ9_max_f86c9_2 : decode cJ9_max_f86c9 2 = .ok (.lcmp, 1) := by decide +kernel
theorem dJ9_max_f86c9_3 : decode cJ9_max_f86c9 3 = .ok (.ifCond .lt 7, 3) := by decide +kernel
theorem dJ9_max_f86c9_6 : decode cJ9_max_f86c9 6 = .ok (.lload_n 0, 1) := by decide +kernel
theorem dJ9_max_f86c9_7 : decode cJ9_max_f86c9 7 = .ok (.goto 4, 3) := by decide +kernel
theorem dJ9_max_f86c9_10 : decode cJ9_max_f86c9 10 = .ok (.lload_n 2, 1) := by decide +kernel
theorem dJ9_max_f86c9_11 : decode cJ9_max_f86c9 11 = .ok (.lreturn, 1) := by decide +kernel
theorem dJ9_min_7cf53_0 : decode cJ9_min_7cf53 0 = .ok (.iload_n 0, 1) := by decide +kernel
theorem dJ9_min_7cf53_1 : decode cJ9_min_7cf53 1 = .ok (.iload_n 1, 1) := by decide +kernel
theorem dJ9_min_7cf53_2 : decode cJ9_min_7cf53 2 = .ok (.if_icmp .gt 7, 3) := by decide +kernel
theorem dJ9_min_7cf53_5 : decode cJ9_min_7cf53 5 = .ok (.iload_n 0, 1) := by decide +kernel
theorem dJ9_min_7cf53_6 : decode cJ9_min_7cf53 6 = .ok (.goto 4, 3) := by decide +kernel
theorem dJ9_min_7cf53_9 : decode cJ9_min_7cf53 9 = .ok (.iload_n 1, 1) := by decide +kernel
theorem dJ9_min_7cf53_10 : decode cJ9_min_7cf53 10 = .ok (.ireturn, 1) := by decide +kernel
theorem dJ0_length_8abf5_0 : decode cJ0_length_8abf5 0 = .ok (.aload_n 0, 1) := by decide +kernel
theorem dJ0_length_8abf5_1 : decode cJ0_length_8abf5 1 = .ok (.getfield 9, 3) := by decide +kernel
theorem dJ0_length_8abf5_4 : decode cJ0_length_8abf5 4 = .ok (.arraylength, 1) := by decide +kernel
theorem dJ0_length_8abf5_5 : decode cJ0_length_8abf5 5 = .ok (.aload_n 0, 1) := by decide +kernel
theorem dJ0_length_8abf5_6 : decode cJ0_length_8abf5 6 = .ok (.invokevirtual 335, 3) := by decide +kernel
theorem dJ0_length_8abf5_9 : decode cJ0_length_8abf5 9 = .ok (.ishr, 1) := by decide +kernel
theorem dJ0_length_8abf5_10 : decode cJ0_length_8abf5 10 = .ok (.ireturn, 1) := by decide +kernel
theorem dJ0_charAt_5068e_0 : decode cJ0_charAt_5068e 0 = .ok (.aload_n 0, 1) := by decide +kernel
theorem dJ0_charAt_5068e_1 : decode cJ0_charAt_5068e 1 = .ok (.invokevirtual 492, 3) := by decide +kernel
theorem dJ0_charAt_5068e_4 : decode cJ0_charAt_5068e 4 = .ok (.ifCond .eq 12, 3) := by decide +kernel
theorem dJ0_charAt_5068e_7 : decode cJ0_charAt_5068e 7 = .ok (.aload_n 0, 1) := by decide +kernel
theorem dJ0_charAt_5068e_8 : decode cJ0_charAt_5068e 8 = .ok (.getfield 9, 3) := by decide +kernel
theorem dJ0_charAt_5068e_11 : decode cJ0_charAt_5068e 11 = .ok (.iload_n 1, 1) := by decide +kernel
theorem dJ0_charAt_5068e_12 : decode cJ0_charAt_5068e 12 = .ok (.invokestatic 495, 3) := by decide +kernel
theorem dJ0_charAt_5068e_15 : decode cJ0_charAt_5068e 15 = .ok (.ireturn, 1) := by decide +kernel
theorem dJ0_charAt_5068e_16 : decode cJ0_charAt_5068e 16 = .ok (.aload_n 0, 1) := by decide +kernel
theorem dJ0_charAt_5068e_17 : decode cJ0_charAt_5068e 17 = .ok (.getfield 9, 3) := by decide +kernel
theorem dJ0_charAt_5068e_20 : decode cJ0_charAt_5068e 20 = .ok (.iload_n 1, 1) := by decide +kernel
theorem dJ0_charAt_5068e_21 : decode cJ0_charAt_5068e 21 = .ok (.invokestatic 498, 3) := by decide +kernel
theorem dJ0_charAt_5068e_24 : decode cJ0_charAt_5068e 24 = .ok (.ireturn, 1) := by decide +kernel
theorem dJ0_coder_7d493_0 : decode cJ0_coder_7d493 0 = .ok (.getstatic 38, 3) := by decide +kernel
theorem dJ0_coder_7d493_3 : decode cJ0_coder_7d493 3 = .ok (.ifCond .eq 10, 3) := by decide +kernel
theorem dJ0_coder_7d493_6 : decode cJ0_coder_7d493 6 = .ok (.aload_n 0, 1) := by decide +kernel
theorem dJ0_coder_7d493_7 : decode cJ0_coder_7d493 7 = .ok (.getfield 15, 3) := by decide +kernel
theorem dJ0_coder_7d493_10 : decode cJ0_coder_7d493 10 = .ok (.goto 4, 3) := by decide +kernel
theorem dJ0_coder_7d493_13 : decode cJ0_coder_7d493 13 = .ok (.iconst 1, 1) := by decide +kernel
theorem dJ0_coder_7d493_14 : decode cJ0_coder_7d493 14 = .ok (.ireturn, 1) := by decide +kernel
theorem dJ0_isLatin1_aae02_0 : decode cJ0_isLatin1_aae02 0 = .ok (.getstatic 38, 3) := by decide +kernel
theorem dJ0_isLatin1_aae02_3 : decode cJ0_isLatin1_aae02 3 = .ok (.ifCond .eq 14, 3) := by decide +kernel
theorem dJ0_isLatin1_aae02_6 : decode cJ0_isLatin1_aae02 6 = .ok (.aload_n 0, 1) := by decide +kernel
theorem dJ0_isLatin1_aae02_7 : decode cJ0_isLatin1_aae02 7 = .ok (.getfield 15, 3) := by decide +kernel
theorem dJ0_isLatin1_aae02_10 : decode cJ0_isLatin1_aae02 10 = .ok (.ifCond .ne 7, 3) := by decide +kernel
theorem dJ0_isLatin1_aae02_13 : decode cJ0_isLatin1_aae02 13 = .ok (.iconst 1, 1) := by decide +kernel
theorem dJ0_isLatin1_aae02_14 : decode cJ0_isLatin1_aae02 14 = .ok (.goto 4, 3) := by decide +kernel
theorem dJ0_isLatin1_aae02_17 : decode cJ0_isLatin1_aae02 17 = .ok (.iconst 0, 1) := by decide +kernel
theorem dJ0_isLatin1_aae02_18 : decode cJ0_isLatin1_aae02 18 = .ok (.ireturn, 1) := by decide +kernel
theorem dJ0_checkIndex_df160_0 : decode cJ0_checkIndex_df160 0 = .ok (.iload_n 0, 1) := by decide +kernel
theorem dJ0_checkIndex_df160_1 : decode cJ0_checkIndex_df160 1 = .ok (.iload_n 1, 1) := by decide +kernel
theorem dJ0_checkIndex_df160_2 : decode cJ0_checkIndex_df160 2 = .ok (.getstatic 1053, 3) := by decide +kernel
theorem dJ0_checkIndex_df160_5 : decode cJ0_checkIndex_df160 5 = .ok (.invokestatic 1059, 3) := by decide +kernel
theorem dJ0_checkIndex_df160_8 : decode cJ0_checkIndex_df160 8 = .ok (.pop, 1) := by decide +kernel
theorem dJ0_checkIndex_df160_9 : decode cJ0_checkIndex_df160 9 = .ok (.return_, 1) := by decide +kernel
theorem dJ1_charAt_3b067_0 : decode cJ1_charAt_3b067 0 = .ok (.iload_n 1, 1) := by decide +kernel
theorem dJ1_charAt_3b067_1 : decode cJ1_charAt_3b067 1 = .ok (.aload_n 0, 1) := by decide +kernel
theorem dJ1_charAt_3b067_2 : decode cJ1_charAt_3b067 2 = .ok (.arraylength, 1) := by decide +kernel
theorem dJ1_charAt_3b067_3 : decode cJ1_charAt_3b067 3 = .ok (.invokestatic 9, 3) := by decide +kernel
theorem dJ1_charAt_3b067_6 : decode cJ1_charAt_3b067 6 = .ok (.aload_n 0, 1) := by decide +kernel
theorem dJ1_charAt_3b067_7 : decode cJ1_charAt_3b067 7 = .ok (.iload_n 1, 1) := by decide +kernel
theorem dJ1_charAt_3b067_8 : decode cJ1_charAt_3b067 8 = .ok (.baload, 1) := by decide +kernel
theorem dJ1_charAt_3b067_9 : decode cJ1_charAt_3b067 9 = .ok (.sipush 255, 3) := by decide +kernel
theorem dJ1_charAt_3b067_12 : decode cJ1_charAt_3b067 12 = .ok (.iand, 1) := by decide +kernel
theorem dJ1_charAt_3b067_13 : decode cJ1_charAt_3b067 13 = .ok (.i2c, 1) := by decide +kernel
theorem dJ1_charAt_3b067_14 : decode cJ1_charAt_3b067 14 = .ok (.ireturn, 1) := by decide +kernel
theorem dJ2_getChar_3b067_0 : decode cJ2_getChar_3b067 0 = .ok (.getstatic 44, 3) := by decide +kernel
theorem dJ2_getChar_3b067_3 : decode cJ2_getChar_3b067 3 = .ok (.ifCond .ne 25, 3) := by decide +kernel
theorem dJ2_getChar_3b067_6 : decode cJ2_getChar_3b067 6 = .ok (.iload_n 1, 1) := by decide +kernel
theorem dJ2_getChar_3b067_7 : decode cJ2_getChar_3b067 7 = .ok (.ifCond .lt 11, 3) := by decide +kernel
theorem dJ2_getChar_3b067_10 : decode cJ2_getChar_3b067 10 = .ok (.iload_n 1, 1) := by decide +kernel
theorem dJ2_getChar_3b067_11 : decode cJ2_getChar_3b067 11 = .ok (.aload_n 0, 1) := by decide +kernel
theorem dJ2_getChar_3b067_12 : decode cJ2_getChar_3b067 12 = .ok (.invokestatic 48, 3) := by decide +kernel
theorem dJ2_getChar_3b067_15 : decode cJ2_getChar_3b067 15 = .ok (.if_icmp .lt 13, 3) := by decide +kernel
theorem dJ2_getChar_3b067_18 : decode cJ2_getChar_3b067 18 = .ok (.new 52, 3) := by decide +kernel
theorem dJ2_getChar_3b067_21 : decode cJ2_getChar_3b067 21 = .ok (.dup, 1) := by decide +kernel
theorem dJ2_getChar_3b067_22 : decode cJ2_getChar_3b067 22 = .ok (.ldc 54, 2) := by decide +kernel
theorem dJ2_getChar_3b067_24 : decode cJ2_getChar_3b067 24 = .ok (.invokespecial 56, 3) := by decide +kernel
theorem dJ2_getChar_3b067_27 : decode cJ2_getChar_3b067 27 = .ok (.athrow, 1) := by decide +kernel
theorem dJ2_getChar_3b067_28 : decode cJ2_getChar_3b067 28 = .ok (.iload_n 1, 1) := by decide +kernel
theorem dJ2_getChar_3b067_29 : decode cJ2_getChar_3b067 29 = .ok (.iconst 1, 1) := by decide +kernel
theorem dJ2_getChar_3b067_30 : decode cJ2_getChar_3b067 30 = .ok (.ishl, 1) := by decide +kernel
theorem dJ2_getChar_3b067_31 : decode cJ2_getChar_3b067 31 = .ok (.istore_n 1, 1) := by decide +kernel
theorem dJ2_getChar_3b067_32 : decode cJ2_getChar_3b067 32 = .ok (.aload_n 0, 1) := by decide +kernel
theorem dJ2_getChar_3b067_33 : decode cJ2_getChar_3b067 33 = .ok (.iload_n 1, 1) := by decide +kernel
theorem dJ2_getChar_3b067_34 : decode cJ2_getChar_3b067 34 = .ok (.iinc 1 1, 3) := by decide +kernel
theorem dJ2_getChar_3b067_37 : decode cJ2_getChar_3b067 37 = .ok (.baload, 1) := by decide +kernel
theorem dJ2_getChar_3b067_38 : decode cJ2_getChar_3b067 38 = .ok (.sipush 255, 3) := by decide +kernel
theorem dJ2_getChar_3b067_41 : decode cJ2_getChar_3b067 41 = .ok (.iand, 1) := by decide +kernel
theorem dJ2_getChar_3b067_42 : decode cJ2_getChar_3b067 42 = .ok (.getstatic 59, 3) := by decide +kernel
