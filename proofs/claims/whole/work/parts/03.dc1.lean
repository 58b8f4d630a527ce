theorem dX7_scan_114 : decode cX7_scan 114 = .ok (.iconst 3, 1) := by decide +kernel
theorem dX7_scan_115 : decode cX7_scan 115 = .ok (.if_icmp .eq 13, 3) := by decide +kernel
theorem dX7_scan_118 : decode cX7_scan 118 = .ok (.aload_n 0, 1) := by decide +kernel
theorem dX7_scan_119 : decode cX7_scan 119 = .ok (.getfield 15, 3) := by decide +kernel
theorem dX7_scan_122 : decode cX7_scan 122 = .ok (.iload_n 1, 1) := by decide +kernel
theorem dX7_scan_123 : decode cX7_scan 123 = .ok (.iaload, 1) := by decide +kernel
theorem dX7_scan_124 : decode cX7_scan 124 = .ok (.iconst 4, 1) := by decide +kernel
theorem dX7_scan_125 : decode cX7_scan 125 = .ok (.if_icmp .ne 6, 3) := by decide +kernel
theorem dX7_scan_128 : decode cX7_scan 128 = .ok (.iinc 4 1, 3) := by decide +kernel
theorem dX7_scan_131 : decode cX7_scan 131 = .ok (.iinc 1 1, 3) := by decide +kernel
theorem dX7_scan_134 : decode cX7_scan 134 = .ok (.iload 4, 2) := by decide +kernel
theorem dX7_scan_136 : decode cX7_scan 136 = .ok (.istore_n 2, 1) := by decide +kernel
theorem dX7_scan_137 : decode cX7_scan 137 = .ok (.goto (-133), 3) := by decide +kernel
theorem dX7_scan_140 : decode cX7_scan 140 = .ok (.aload_n 0, 1) := by decide +kernel
theorem dX7_scan_141 : decode cX7_scan 141 = .ok (.getfield 19, 3) := by decide +kernel
theorem dX7_scan_144 : decode cX7_scan 144 = .ok (.iload_n 1, 1) := by decide +kernel
theorem dX7_scan_145 : decode cX7_scan 145 = .ok (.aload_n 0, 1) := by decide +kernel
theorem dX7_scan_146 : decode cX7_scan 146 = .ok (.getfield 25, 3) := by decide +kernel
theorem dX7_scan_149 : decode cX7_scan 149 = .ok (.iastore, 1) := by decide +kernel
theorem dX7_scan_150 : decode cX7_scan 150 = .ok (.aload_n 0, 1) := by decide +kernel
theorem dX7_scan_151 : decode cX7_scan 151 = .ok (.getfield 15, 3) := by decide +kernel
theorem dX7_scan_154 : decode cX7_scan 154 = .ok (.iload_n 1, 1) := by decide +kernel
theorem dX7_scan_155 : decode cX7_scan 155 = .ok (.iconst 1, 1) := by decide +kernel
theorem dX7_scan_156 : decode cX7_scan 156 = .ok (.iastore, 1) := by decide +kernel
theorem dX7_scan_157 : decode cX7_scan 157 = .ok (.return_, 1) := by decide +kernel
theorem dX7_sortOf_0 : decode cX7_sortOf 0 = .ok (.iload_n 0, 1) := by decide +kernel
theorem dX7_sortOf_1 : decode cX7_sortOf 1 = .ok (.bipush 32, 2) := by decide +kernel
theorem dX7_sortOf_3 : decode cX7_sortOf 3 = .ok (.if_icmp .eq 9, 3) := by decide +kernel
theorem dX7_sortOf_6 : decode cX7_sortOf 6 = .ok (.iload_n 0, 1) := by decide +kernel
theorem dX7_sortOf_7 : decode cX7_sortOf 7 = .ok (.bipush 10, 2) := by decide +kernel
theorem dX7_sortOf_9 : decode cX7_sortOf 9 = .ok (.if_icmp .ne 5, 3) := by decide +kernel
theorem dX7_sortOf_12 : decode cX7_sortOf 12 = .ok (.iconst 0, 1) := by decide +kernel
theorem dX7_sortOf_13 : decode cX7_sortOf 13 = .ok (.ireturn, 1) := by decide +kernel
theorem dX7_sortOf_14 : decode cX7_sortOf 14 = .ok (.iload_n 0, 1) := by decide +kernel
theorem dX7_sortOf_15 : decode cX7_sortOf 15 = .ok (.bipush 48, 2) := by decide +kernel
theorem dX7_sortOf_17 : decode cX7_sortOf 17 = .ok (.if_icmp .lt 11, 3) := by decide +kernel
theorem dX7_sortOf_20 : decode cX7_sortOf 20 = .ok (.iload_n 0, 1) := by decide +kernel
theorem dX7_sortOf_21 : decode cX7_sortOf 21 = .ok (.bipush 57, 2) := by decide +kernel
theorem dX7_sortOf_23 : decode cX7_sortOf 23 = .ok (.if_icmp .gt 5, 3) := by decide +kernel
theorem dX7_sortOf_26 : decode cX7_sortOf 26 = .ok (.iconst 1, 1) := by decide +kernel
theorem dX7_sortOf_27 : decode cX7_sortOf 27 = .ok (.ireturn, 1) := by decide +kernel
theorem dX7_sortOf_28 : decode cX7_sortOf 28 = .ok (.iload_n 0, 1) := by decide +kernel
theorem dX7_sortOf_29 : decode cX7_sortOf 29 = .ok (.bipush 97, 2) := by decide +kernel
theorem dX7_sortOf_31 : decode cX7_sortOf 31 = .ok (.if_icmp .lt 9, 3) := by decide +kernel
theorem dX7_sortOf_34 : decode cX7_sortOf 34 = .ok (.iload_n 0, 1) := by decide +kernel
theorem dX7_sortOf_35 : decode cX7_sortOf 35 = .ok (.bipush 122, 2) := by decide +kernel
theorem dX7_sortOf_37 : decode cX7_sortOf 37 = .ok (.if_icmp .le 15, 3) := by decide +kernel
theorem dX7_sortOf_40 : decode cX7_sortOf 40 = .ok (.iload_n 0, 1) := by decide +kernel
theorem dX7_sortOf_41 : decode cX7_sortOf 41 = .ok (.bipush 65, 2) := by decide +kernel
theorem dX7_sortOf_43 : decode cX7_sortOf 43 = .ok (.if_icmp .lt 13, 3) := by decide +kernel
theorem dX7_sortOf_46 : decode cX7_sortOf 46 = .ok (.iload_n 0, 1) := by decide +kernel
theorem dX7_sortOf_47 : decode cX7_sortOf 47 = .ok (.bipush 90, 2) := by decide +kernel
theorem dX7_sortOf_49 : decode cX7_sortOf 49 = .ok (.if_icmp .gt 7, 3) := by decide +kernel
theorem dX7_sortOf_52 : decode cX7_sortOf 52 = .ok (.iconst 1, 1) := by decide +kernel
theorem dX7_sortOf_53 : decode cX7_sortOf 53 = .ok (.goto 4, 3) := by decide +kernel
theorem dX7_sortOf_56 : decode cX7_sortOf 56 = .ok (.iconst 0, 1) := by decide +kernel
theorem dX7_sortOf_57 : decode cX7_sortOf 57 = .ok (.istore_n 1, 1) := by decide +kernel
theorem dX7_sortOf_58 : decode cX7_sortOf 58 = .ok (.iload_n 1, 1) := by decide +kernel
theorem dX7_sortOf_59 : decode cX7_sortOf 59 = .ok (.ifCond .eq 7, 3) := by decide +kernel
theorem dX7_sortOf_62 : decode cX7_sortOf 62 = .ok (.iconst 2, 1) := by decide +kernel
theorem dX7_sortOf_63 : decode cX7_sortOf 63 = .ok (.goto 4, 3) := by decide +kernel
theorem dX7_sortOf_66 : decode cX7_sortOf 66 = .ok (.iconst 3, 1) := by decide +kernel
theorem dX7_sortOf_67 : decode cX7_sortOf 67 = .ok (.ireturn, 1) := by decide +kernel
theorem dX7_tokenOf_0 : decode cX7_tokenOf 0 = .ok (.iload_n 1, 1) := by decide +kernel
theorem dX7_tokenOf_1 : decode cX7_tokenOf 1 = .ok (.iconst 1, 1) := by decide +kernel
theorem dX7_tokenOf_2 : decode cX7_tokenOf 2 = .ok (.if_icmp .ne 5, 3) := by decide +kernel
theorem dX7_tokenOf_5 : decode cX7_tokenOf 5 = .ok (.iconst 2, 1) := by decide +kernel
theorem dX7_tokenOf_6 : decode cX7_tokenOf 6 = .ok (.ireturn, 1) := by decide +kernel
theorem dX7_tokenOf_7 : decode cX7_tokenOf 7 = .ok (.iload_n 1, 1) := by decide +kernel
theorem dX7_tokenOf_8 : decode cX7_tokenOf 8 = .ok (.iconst 2, 1) := by decide +kernel
theorem dX7_tokenOf_9 : decode cX7_tokenOf 9 = .ok (.if_icmp .ne 14, 3) := by decide +kernel
theorem dX7_tokenOf_12 : decode cX7_tokenOf 12 = .ok (.aload_n 0, 1) := by decide +kernel
theorem dX7_tokenOf_13 : decode cX7_tokenOf 13 = .ok (.iload_n 2, 1) := by decide +kernel
theorem dX7_tokenOf_14 : decode cX7_tokenOf 14 = .ok (.iload_n 3, 1) := by decide +kernel
theorem dX7_tokenOf_15 : decode cX7_tokenOf 15 = .ok (.iload_n 2, 1) := by decide +kernel
theorem dX7_tokenOf_16 : decode cX7_tokenOf 16 = .ok (.isub, 1) := by decide +kernel
theorem dX7_tokenOf_17 : decode cX7_tokenOf 17 = .ok (.invokevirtual 41, 3) := by decide +kernel
theorem dX7_tokenOf_20 : decode cX7_tokenOf 20 = .ok (.goto 8, 3) := by decide +kernel
theorem dX7_tokenOf_23 : decode cX7_tokenOf 23 = .ok (.aload_n 0, 1) := by decide +kernel
theorem dX7_tokenOf_24 : decode cX7_tokenOf 24 = .ok (.iload_n 2, 1) := by decide +kernel
theorem dX7_tokenOf_25 : decode cX7_tokenOf 25 = .ok (.invokevirtual 44, 3) := by decide +kernel
theorem dX7_tokenOf_28 : decode cX7_tokenOf 28 = .ok (.ireturn, 1) := by decide +kernel
theorem dX7_numberOf_0 : decode cX7_numberOf 0 = .ok (.iconst 0, 1) := by decide +kernel
theorem dX7_numberOf_1 : decode cX7_numberOf 1 = .ok (.istore_n 3, 1) := by decide +kernel
theorem dX7_numberOf_2 : decode cX7_numberOf 2 = .ok (.iload_n 1, 1) := by decide +kernel
theorem dX7_numberOf_3 : decode cX7_numberOf 3 = .ok (.istore 4, 2) := by decide +kernel
theorem dX7_numberOf_5 : decode cX7_numberOf 5 = .ok (.iload 4, 2) := by decide +kernel
theorem dX7_numberOf_7 : decode cX7_numberOf 7 = .ok (.iload_n 2, 1) := by decide +kernel
theorem dX7_numberOf_8 : decode cX7_numberOf 8 = .ok (.if_icmp .ge 31, 3) := by decide +kernel
theorem dX7_numberOf_11 : decode cX7_numberOf 11 = .ok (.sipush 10000, 3) := by decide +kernel
theorem dX7_numberOf_14 : decode cX7_numberOf 14 = .ok (.iload_n 3, 1) := by decide +kernel
theorem dX7_numberOf_15 : decode cX7_numberOf 15 = .ok (.bipush 10, 2) := by decide +kernel
theorem dX7_numberOf_17 : decode cX7_numberOf 17 = .ok (.imul, 1) := by decide +kernel
theorem dX7_numberOf_18 : decode cX7_numberOf 18 = .ok (.aload_n 0, 1) := by decide +kernel
theorem dX7_numberOf_19 : decode cX7_numberOf 19 = .ok (.getfield 11, 3) := by decide +kernel
theorem dX7_numberOf_22 : decode cX7_numberOf 22 = .ok (.iload 4, 2) := by decide +kernel
theorem dX7_numberOf_24 : decode cX7_numberOf 24 = .ok (.baload, 1) := by decide +kernel
theorem dX7_numberOf_25 : decode cX7_numberOf 25 = .ok (.iadd, 1) := by decide +kernel
theorem dX7_numberOf_26 : decode cX7_numberOf 26 = .ok (.bipush 48, 2) := by decide +kernel
theorem dX7_numberOf_28 : decode cX7_numberOf 28 = .ok (.isub, 1) := by decide +kernel
theorem dX7_numberOf_29 : decode cX7_numberOf 29 = .ok (.invokestatic 48, 3) := by decide +kernel
theorem dX7_numberOf_32 : decode cX7_numberOf 32 = .ok (.istore_n 3, 1) := by decide +kernel
theorem dX7_numberOf_33 : decode cX7_numberOf 33 = .ok (.iinc 4 1, 3) := by decide +kernel
theorem dX7_numberOf_36 : decode cX7_numberOf 36 = .ok (.goto (-31), 3) := by decide +kernel
theorem dX7_numberOf_39 : decode cX7_numberOf 39 = .ok (.iload_n 3, 1) := by decide +kernel
theorem dX7_numberOf_40 : decode cX7_numberOf 40 = .ok (.ireturn, 1) := by decide +kernel
theorem dX7_symbolOf_0 : decode cX7_symbolOf 0 = .ok (.aload_n 0, 1) := by decide +kernel
theorem dX7_symbolOf_1 : decode cX7_symbolOf 1 = .ok (.getfield 11, 3) := by decide +kernel
theorem dX7_symbolOf_4 : decode cX7_symbolOf 4 = .ok (.iload_n 1, 1) := by decide +kernel
theorem dX7_symbolOf_5 : decode cX7_symbolOf 5 = .ok (.baload, 1) := by decide +kernel
theorem dX7_symbolOf_6 : decode cX7_symbolOf 6 = .ok (.sipush 255, 3) := by decide +kernel
theorem dX7_symbolOf_9 : decode cX7_symbolOf 9 = .ok (.iand, 1) := by decide +kernel
theorem dX7_symbolOf_10 : decode cX7_symbolOf 10 = .ok (.i2c, 1) := by decide +kernel
theorem dX7_symbolOf_11 : decode cX7_symbolOf 11 = .ok (.istore_n 2, 1) := by decide +kernel
theorem dX7_symbolOf_12 : decode cX7_symbolOf 12 = .ok (.iload_n 1, 1) := by decide +kernel
theorem dX7_symbolOf_13 : decode cX7_symbolOf 13 = .ok (.iconst 1, 1) := by decide +kernel
theorem dX7_symbolOf_14 : decode cX7_symbolOf 14 = .ok (.iadd, 1) := by decide +kernel
theorem dX7_symbolOf_15 : decode cX7_symbolOf 15 = .ok (.aload_n 0, 1) := by decide +kernel
theorem dX7_symbolOf_16 : decode cX7_symbolOf 16 = .ok (.getfield 25, 3) := by decide +kernel
theorem dX7_symbolOf_19 : decode cX7_symbolOf 19 = .ok (.if_icmp .ge 20, 3) := by decide +kernel
theorem dX7_symbolOf_22 : decode cX7_symbolOf 22 = .ok (.aload_n 0, 1) := by decide +kernel
theorem dX7_symbolOf_23 : decode cX7_symbolOf 23 = .ok (.getfield 11, 3) := by decide +kernel
theorem dX7_symbolOf_26 : decode cX7_symbolOf 26 = .ok (.iload_n 1, 1) := by decide +kernel
theorem dX7_symbolOf_27 : decode cX7_symbolOf 27 = .ok (.iconst 1, 1) := by decide +kernel
theorem dX7_symbolOf_28 : decode cX7_symbolOf 28 = .ok (.iadd, 1) := by decide +kernel
theorem dX7_symbolOf_29 : decode cX7_symbolOf 29 = .ok (.baload, 1) := by decide +kernel
theorem dX7_symbolOf_30 : decode cX7_symbolOf 30 = .ok (.bipush 61, 2) := by decide +kernel
theorem dX7_symbolOf_32 : decode cX7_symbolOf 32 = .ok (.if_icmp .ne 7, 3) := by decide +kernel
theorem dX7_symbolOf_35 : decode cX7_symbolOf 35 = .ok (.iconst 1, 1) := by decide +kernel
theorem dX7_symbolOf_36 : decode cX7_symbolOf 36 = .ok (.goto 4, 3) := by decide +kernel
theorem dX7_symbolOf_39 : decode cX7_symbolOf 39 = .ok (.iconst 0, 1) := by decide +kernel
theorem dX7_symbolOf_40 : decode cX7_symbolOf 40 = .ok (.istore_n 3, 1) := by decide +kernel
theorem dX7_symbolOf_41 : decode cX7_symbolOf 41 = .ok (.iload_n 3, 1) := by decide +kernel
theorem dX7_symbolOf_42 : decode cX7_symbolOf 42 = .ok (.ifCond .eq 11, 3) := by decide +kernel
theorem dX7_symbolOf_45 : decode cX7_symbolOf 45 = .ok (.iload_n 2, 1) := by decide +kernel
theorem dX7_symbolOf_46 : decode cX7_symbolOf 46 = .ok (.bipush 60, 2) := by decide +kernel
theorem dX7_symbolOf_48 : decode cX7_symbolOf 48 = .ok (.if_icmp .ne 5, 3) := by decide +kernel
theorem dX7_symbolOf_51 : decode cX7_symbolOf 51 = .ok (.iconst 3, 1) := by decide +kernel
theorem dX7_symbolOf_52 : decode cX7_symbolOf 52 = .ok (.ireturn, 1) := by decide +kernel
theorem dX7_symbolOf_53 : decode cX7_symbolOf 53 = .ok (.iload_n 3, 1) := by decide +kernel
theorem dX7_symbolOf_54 : decode cX7_symbolOf 54 = .ok (.ifCond .eq 11, 3) := by decide +kernel
theorem dX7_symbolOf_57 : decode cX7_symbolOf 57 = .ok (.iload_n 2, 1) := by decide +kernel
theorem dX7_symbolOf_58 : decode cX7_symbolOf 58 = .ok (.bipush 62, 2) := by decide +kernel
theorem dX7_symbolOf_60 : decode cX7_symbolOf 60 = .ok (.if_icmp .ne 5, 3) := by decide +kernel
theorem dX7_symbolOf_63 : decode cX7_symbolOf 63 = .ok (.iconst 4, 1) := by decide +kernel
theorem dX7_symbolOf_64 : decode cX7_symbolOf 64 = .ok (.ireturn, 1) := by decide +kernel
theorem dX7_symbolOf_65 : decode cX7_symbolOf 65 = .ok (.ldc 53, 2) := by decide +kernel
theorem dX7_symbolOf_67 : decode cX7_symbolOf 67 = .ok (.iload_n 2, 1) := by decide +kernel
theorem dX7_symbolOf_68 : decode cX7_symbolOf 68 = .ok (.invokevirtual 55, 3) := by decide +kernel
theorem dX7_symbolOf_71 : decode cX7_symbolOf 71 = .ok (.ifCond .lt 7, 3) := by decide +kernel
theorem dX7_symbolOf_74 : decode cX7_symbolOf 74 = .ok (.iload_n 2, 1) := by decide +kernel
theorem dX7_symbolOf_75 : decode cX7_symbolOf 75 = .ok (.goto 4, 3) := by decide +kernel
theorem dX7_symbolOf_78 : decode cX7_symbolOf 78 = .ok (.iconst 0, 1) := by decide +kernel
theorem dX7_symbolOf_79 : decode cX7_symbolOf 79 = .ok (.ireturn, 1) := by decide +kernel
theorem dX7_keywordOf_0 : decode cX7_keywordOf 0 = .ok (.iload_n 2, 1) := by decide +kernel
theorem dX7_keywordOf_1 : decode cX7_keywordOf 1 = .ok (.bipush 8, 2) := by decide +kernel
theorem dX7_keywordOf_3 : decode cX7_keywordOf 3 = .ok (.if_icmp .lt 5, 3) := by decide +kernel
theorem dX7_keywordOf_6 : decode cX7_keywordOf 6 = .ok (.iconst 0, 1) := by decide +kernel
theorem dX7_keywordOf_7 : decode cX7_keywordOf 7 = .ok (.ireturn, 1) := by decide +kernel
theorem dX7_keywordOf_8 : decode cX7_keywordOf 8 = .ok (.iconst 0, 1) := by decide +kernel
theorem dX7_keywordOf_9 : decode cX7_keywordOf 9 = .ok (.istore_n 3, 1) := by decide +kernel
theorem dX7_keywordOf_10 : decode cX7_keywordOf 10 = .ok (.iload_n 3, 1) := by decide +kernel
theorem dX7_keywordOf_11 : decode cX7_keywordOf 11 = .ok (.bipush 23, 2) := by decide +kernel
theorem dX7_keywordOf_13 : decode cX7_keywordOf 13 = .ok (.if_icmp .ge 75, 3) := by decide +kernel
theorem dX7_keywordOf_16 : decode cX7_keywordOf 16 = .ok (.iconst 0, 1) := by decide +kernel
theorem dX7_keywordOf_17 : decode cX7_keywordOf 17 = .ok (.istore 4, 2) := by decide +kernel
theorem dX7_keywordOf_19 : decode cX7_keywordOf 19 = .ok (.iload 4, 2) := by decide +kernel
theorem dX7_keywordOf_21 : decode cX7_keywordOf 21 = .ok (.iload_n 2, 1) := by decide +kernel
theorem dX7_keywordOf_22 : decode cX7_keywordOf 22 = .ok (.if_icmp .ge 33, 3) := by decide +kernel
theorem dX7_keywordOf_25 : decode cX7_keywordOf 25 = .ok (.ldc 60, 2) := by decide +kernel
theorem dX7_keywordOf_27 : decode cX7_keywordOf 27 = .ok (.iload_n 3, 1) := by decide +kernel
theorem dX7_keywordOf_28 : decode cX7_keywordOf 28 = .ok (.bipush 8, 2) := by decide +kernel
theorem dX7_keywordOf_30 : decode cX7_keywordOf 30 = .ok (.imul, 1) := by decide +kernel
theorem dX7_keywordOf_31 : decode cX7_keywordOf 31 = .ok (.iload 4, 2) := by decide +kernel
theorem dX7_keywordOf_33 : decode cX7_keywordOf 33 = .ok (.iadd, 1) := by decide +kernel
theorem dX7_keywordOf_34 : decode cX7_keywordOf 34 = .ok (.invokevirtual 62, 3) := by decide +kernel
theorem dX7_keywordOf_37 : decode cX7_keywordOf 37 = .ok (.aload_n 0, 1) := by decide +kernel
theorem dX7_keywordOf_38 : decode cX7_keywordOf 38 = .ok (.getfield 11, 3) := by decide +kernel
theorem dX7_keywordOf_41 : decode cX7_keywordOf 41 = .ok (.iload_n 1, 1) := by decide +kernel
theorem dX7_keywordOf_42 : decode cX7_keywordOf 42 = .ok (.iload 4, 2) := by decide +kernel
theorem dX7_keywordOf_44 : decode cX7_keywordOf 44 = .ok (.iadd, 1) := by decide +kernel
theorem dX7_keywordOf_45 : decode cX7_keywordOf 45 = .ok (.baload, 1) := by decide +kernel
theorem dX7_keywordOf_46 : decode cX7_keywordOf 46 = .ok (.if_icmp .ne 9, 3) := by decide +kernel
theorem dX7_keywordOf_49 : decode cX7_keywordOf 49 = .ok (.iinc 4 1, 3) := by decide +kernel
theorem dX7_keywordOf_52 : decode cX7_keywordOf 52 = .ok (.goto (-33), 3) := by decide +kernel
theorem dX7_keywordOf_55 : decode cX7_keywordOf 55 = .ok (.iload 4, 2) := by decide +kernel
theorem dX7_keywordOf_57 : decode cX7_keywordOf 57 = .ok (.iload_n 2, 1) := by decide +kernel
theorem dX7_keywordOf_58 : decode cX7_keywordOf 58 = .ok (.if_icmp .ne 24, 3) := by decide +kernel
theorem dX7_keywordOf_61 : decode cX7_keywordOf 61 = .ok (.ldc 60, 2) := by decide +kernel
theorem dX7_keywordOf_63 : decode cX7_keywordOf 63 = .ok (.iload_n 3, 1) := by decide +kernel
theorem dX7_keywordOf_64 : decode cX7_keywordOf 64 = .ok (.bipush 8, 2) := by decide +kernel
theorem dX7_keywordOf_66 : decode cX7_keywordOf 66 = .ok (.imul, 1) := by decide +kernel
theorem dX7_keywordOf_67 : decode cX7_keywordOf 67 = .ok (.iload_n 2, 1) := by decide +kernel
theorem dX7_keywordOf_68 : decode cX7_keywordOf 68 = .ok (.iadd, 1) := by decide +kernel
theorem dX7_keywordOf_69 : decode cX7_keywordOf 69 = .ok (.invokevirtual 62, 3) := by decide +kernel
theorem dX7_keywordOf_72 : decode cX7_keywordOf 72 = .ok (.bipush 32, 2) := by decide +kernel
theorem dX7_keywordOf_74 : decode cX7_keywordOf 74 = .ok (.if_icmp .ne 8, 3) := by decide +kernel
theorem dX7_keywordOf_77 : decode cX7_keywordOf 77 = .ok (.bipush 100, 2) := by decide +kernel
theorem dX7_keywordOf_79 : decode cX7_keywordOf 79 = .ok (.iload_n 3, 1) := by decide +kernel
theorem dX7_keywordOf_80 : decode cX7_keywordOf 80 = .ok (.iadd, 1) := by decide +kernel
theorem dX7_keywordOf_81 : decode cX7_keywordOf 81 = .ok (.ireturn, 1) := by decide +kernel
theorem dX7_keywordOf_82 : decode cX7_keywordOf 82 = .ok (.iinc 3 1, 3) := by decide +kernel
theorem dX7_keywordOf_85 : decode cX7_keywordOf 85 = .ok (.goto (-75), 3) := by decide +kernel
theorem dX7_keywordOf_88 : decode cX7_keywordOf 88 = .ok (.iconst 0, 1) := by decide +kernel
theorem dX7_keywordOf_89 : decode cX7_keywordOf 89 = .ok (.ireturn, 1) := by decide +kernel
theorem dX8_init_0 : decode cX8_init 0 = .ok (.aload_n 0, 1) := by decide +kernel
theorem dX8_init_1 : decode cX8_init 1 = .ok (.invokespecial 3, 3) := by decide +kernel
theorem dX8_init_4 : decode cX8_init 4 = .ok (.aload_n 0, 1) := by decide +kernel
theorem dX8_init_5 : decode cX8_init 5 = .ok (.bipush 24, 2) := by decide +kernel
theorem dX8_init_7 : decode cX8_init 7 = .ok (.newarray .int, 2) := by decide +kernel
theorem dX8_init_9 : decode cX8_init 9 = .ok (.putfield 9, 3) := by decide +kernel
theorem dX8_init_12 : decode cX8_init 12 = .ok (.aload_n 0, 1) := by decide +kernel
theorem dX8_init_13 : decode cX8_init 13 = .ok (.sipush 144, 3) := by decide +kernel
theorem dX8_init_16 : decode cX8_init 16 = .ok (.newarray .int, 2) := by decide +kernel
theorem dX8_init_18 : decode cX8_init 18 = .ok (.putfield 15, 3) := by decide +kernel
theorem dX8_init_21 : decode cX8_init 21 = .ok (.aload_n 0, 1) := by decide +kernel
theorem dX8_init_22 : decode cX8_init 22 = .ok (.sipush 300, 3) := by decide +kernel
theorem dX8_init_25 : decode cX8_init 25 = .ok (.newarray .int, 2) := by decide +kernel
theorem dX8_init_27 : decode cX8_init 27 = .ok (.putfield 18, 3) := by decide +kernel
theorem dX8_init_30 : decode cX8_init 30 = .ok (.aload_n 0, 1) := by decide +kernel
theorem dX8_init_31 : decode cX8_init 31 = .ok (.iconst 3, 1) := by decide +kernel
theorem dX8_init_32 : decode cX8_init 32 = .ok (.newarray .int, 2) := by decide +kernel
theorem dX8_init_34 : decode cX8_init 34 = .ok (.putfield 21, 3) := by decide +kernel
theorem dX8_init_37 : decode cX8_init 37 = .ok (.aload_n 0, 1) := by decide +kernel
theorem dX8_init_38 : decode cX8_init 38 = .ok (.iconst 3, 1) := by decide +kernel
theorem dX8_init_39 : decode cX8_init 39 = .ok (.newarray .int, 2) := by decide +kernel
theorem dX8_init_41 : decode cX8_init 41 = .ok (.putfield 24, 3) := by decide +kernel
theorem dX8_init_44 : decode cX8_init 44 = .ok (.return_, 1) := by decide +kernel
theorem dX8_clear_0 : decode cX8_clear 0 = .ok (.aload_n 0, 1) := by decide +kernel
theorem dX8_clear_1 : decode cX8_clear 1 = .ok (.iconst 0, 1) := by decide +kernel
theorem dX8_clear_2 : decode cX8_clear 2 = .ok (.putfield 27, 3) := by decide +kernel
theorem dX8_clear_5 : decode cX8_clear 5 = .ok (.aload_n 0, 1) := by decide +kernel
theorem dX8_clear_6 : decode cX8_clear 6 = .ok (.iconst 0, 1) := by decide +kernel
theorem dX8_clear_7 : decode cX8_clear 7 = .ok (.putfield 31, 3) := by decide +kernel
theorem dX8_clear_10 : decode cX8_clear 10 = .ok (.aload_n 0, 1) := by decide +kernel
theorem dX8_clear_11 : decode cX8_clear 11 = .ok (.iconst 0, 1) := by decide +kernel
theorem dX8_clear_12 : decode cX8_clear 12 = .ok (.putfield 35, 3) := by decide +kernel
theorem dX8_clear_15 : decode cX8_clear 15 = .ok (.aload_n 0, 1) := by decide +kernel
theorem dX8_clear_16 : decode cX8_clear 16 = .ok (.getfield 21, 3) := by decide +kernel
theorem dX8_clear_19 : decode cX8_clear 19 = .ok (.iconst 0, 1) := by decide +kernel
theorem dX8_clear_20 : decode cX8_clear 20 = .ok (.invokestatic 38, 3) := by decide +kernel
theorem dX8_clear_23 : decode cX8_clear 23 = .ok (.aload_n 0, 1) := by decide +kernel
theorem dX8_clear_24 : decode cX8_clear 24 = .ok (.getfield 24, 3) := by decide +kernel
theorem dX8_clear_27 : decode cX8_clear 27 = .ok (.iconst 0, 1) := by decide +kernel
theorem dX8_clear_28 : decode cX8_clear 28 = .ok (.invokestatic 38, 3) := by decide +kernel
theorem dX8_clear_31 : decode cX8_clear 31 = .ok (.return_, 1) := by decide +kernel
theorem dX8_hasLaw_0 : decode cX8_hasLaw 0 = .ok (.aload_n 0, 1) := by decide +kernel
theorem dX8_hasLaw_1 : decode cX8_hasLaw 1 = .ok (.getfield 24, 3) := by decide +kernel
theorem dX8_hasLaw_4 : decode cX8_hasLaw 4 = .ok (.iload_n 1, 1) := by decide +kernel
theorem dX8_hasLaw_5 : decode cX8_hasLaw 5 = .ok (.iaload, 1) := by decide +kernel
theorem dX8_hasLaw_6 : decode cX8_hasLaw 6 = .ok (.aload_n 0, 1) := by decide +kernel
theorem dX8_hasLaw_7 : decode cX8_hasLaw 7 = .ok (.getfield 21, 3) := by decide +kernel
theorem dX8_hasLaw_10 : decode cX8_hasLaw 10 = .ok (.iload_n 1, 1) := by decide +kernel
theorem dX8_hasLaw_11 : decode cX8_hasLaw 11 = .ok (.iaload, 1) := by decide +kernel
theorem dX8_hasLaw_12 : decode cX8_hasLaw 12 = .ok (.if_icmp .le 7, 3) := by decide +kernel
theorem dX8_hasLaw_15 : decode cX8_hasLaw 15 = .ok (.iconst 1, 1) := by decide +kernel
theorem dX8_hasLaw_16 : decode cX8_hasLaw 16 = .ok (.goto 4, 3) := by decide +kernel
theorem dX8_hasLaw_19 : decode cX8_hasLaw 19 = .ok (.iconst 0, 1) := by decide +kernel
theorem dX8_hasLaw_20 : decode cX8_hasLaw 20 = .ok (.ireturn, 1) := by decide +kernel
theorem dX8_startClause_0 : decode cX8_startClause 0 = .ok (.aload_n 0, 1) := by decide +kernel
theorem dX8_startClause_1 : decode cX8_startClause 1 = .ok (.getfield 27, 3) := by decide +kernel
theorem dX8_startClause_4 : decode cX8_startClause 4 = .ok (.bipush 24, 2) := by decide +kernel
theorem dX8_startClause_6 : decode cX8_startClause 6 = .ok (.if_icmp .lt 4, 3) := by decide +kernel
theorem dX8_startClause_9 : decode cX8_startClause 9 = .ok (.return_, 1) := by decide +kernel
theorem dX8_startClause_10 : decode cX8_startClause 10 = .ok (.aload_n 0, 1) := by decide +kernel
theorem dX8_startClause_11 : decode cX8_startClause 11 = .ok (.getfield 9, 3) := by decide +kernel
theorem dX8_startClause_14 : decode cX8_startClause 14 = .ok (.aload_n 0, 1) := by decide +kernel
theorem dX8_startClause_15 : decode cX8_startClause 15 = .ok (.getfield 27, 3) := by decide +kernel
theorem dX8_startClause_18 : decode cX8_startClause 18 = .ok (.iload_n 1, 1) := by decide +kernel
theorem dX8_startClause_19 : decode cX8_startClause 19 = .ok (.iastore, 1) := by decide +kernel
theorem dX8_startClause_20 : decode cX8_startClause 20 = .ok (.aload_n 0, 1) := by decide +kernel
theorem dX8_startClause_21 : decode cX8_startClause 21 = .ok (.aload_n 0, 1) := by decide +kernel
theorem dX8_startClause_22 : decode cX8_startClause 22 = .ok (.getfield 27, 3) := by decide +kernel
theorem dX8_startClause_25 : decode cX8_startClause 25 = .ok (.bipush 6, 2) := by decide +kernel
theorem dX8_startClause_27 : decode cX8_startClause 27 = .ok (.imul, 1) := by decide +kernel
theorem dX8_startClause_28 : decode cX8_startClause 28 = .ok (.putfield 44, 3) := by decide +kernel
theorem dX8_startClause_31 : decode cX8_startClause 31 = .ok (.aload_n 0, 1) := by decide +kernel
theorem dX8_startClause_32 : decode cX8_startClause 32 = .ok (.dup, 1) := by decide +kernel
theorem dX8_startClause_33 : decode cX8_startClause 33 = .ok (.getfield 27, 3) := by decide +kernel
theorem dX8_startClause_36 : decode cX8_startClause 36 = .ok (.iconst 1, 1) := by decide +kernel
theorem dX8_startClause_37 : decode cX8_startClause 37 = .ok (.iadd, 1) := by decide +kernel
theorem dX8_startClause_38 : decode cX8_startClause 38 = .ok (.putfield 27, 3) := by decide +kernel
theorem dX8_startClause_41 : decode cX8_startClause 41 = .ok (.aload_n 0, 1) := by decide +kernel
theorem dX8_startClause_42 : decode cX8_startClause 42 = .ok (.getfield 44, 3) := by decide +kernel
theorem dX8_startClause_45 : decode cX8_startClause 45 = .ok (.istore_n 2, 1) := by decide +kernel
theorem dX8_startClause_46 : decode cX8_startClause 46 = .ok (.iload_n 2, 1) := by decide +kernel
theorem dX8_startClause_47 : decode cX8_startClause 47 = .ok (.aload_n 0, 1) := by decide +kernel
theorem dX8_startClause_48 : decode cX8_startClause 48 = .ok (.getfield 27, 3) := by decide +kernel
theorem dX8_startClause_51 : decode cX8_startClause 51 = .ok (.bipush 6, 2) := by decide +kernel
theorem dX8_startClause_53 : decode cX8_startClause 53 = .ok (.imul, 1) := by decide +kernel
theorem dX8_startClause_54 : decode cX8_startClause 54 = .ok (.if_icmp .ge 16, 3) := by decide +kernel
theorem dX8_startClause_57 : decode cX8_startClause 57 = .ok (.aload_n 0, 1) := by decide +kernel
theorem dX8_startClause_58 : decode cX8_startClause 58 = .ok (.getfield 15, 3) := by decide +kernel
theorem dX8_startClause_61 : decode cX8_startClause 61 = .ok (.iload_n 2, 1) := by decide +kernel
theorem dX8_startClause_62 : decode cX8_startClause 62 = .ok (.iconst (-1), 1) := by decide +kernel
theorem dX8_startClause_63 : decode cX8_startClause 63 = .ok (.iastore, 1) := by decide +kernel
theorem dX8_startClause_64 : decode cX8_startClause 64 = .ok (.iinc 2 1, 3) := by decide +kernel
theorem dX8_startClause_67 : decode cX8_startClause 67 = .ok (.goto (-21), 3) := by decide +kernel
theorem dX8_startClause_70 : decode cX8_startClause 70 = .ok (.return_, 1) := by decide +kernel
theorem dX8_tell_0 : decode cX8_tell 0 = .ok (.aload_n 0, 1) := by decide +kernel
theorem dX8_tell_1 : decode cX8_tell 1 = .ok (.getfield 44, 3) := by decide +kernel
theorem dX8_tell_4 : decode cX8_tell 4 = .ok (.aload_n 0, 1) := by decide +kernel
theorem dX8_tell_5 : decode cX8_tell 5 = .ok (.getfield 27, 3) := by decide +kernel
theorem dX8_tell_8 : decode cX8_tell 8 = .ok (.bipush 6, 2) := by decide +kernel
theorem dX8_tell_10 : decode cX8_tell 10 = .ok (.imul, 1) := by decide +kernel
theorem dX8_tell_11 : decode cX8_tell 11 = .ok (.if_icmp .ge 23, 3) := by decide +kernel
theorem dX8_tell_14 : decode cX8_tell 14 = .ok (.aload_n 0, 1) := by decide +kernel
theorem dX8_tell_15 : decode cX8_tell 15 = .ok (.getfield 15, 3) := by decide +kernel
theorem dX8_tell_18 : decode cX8_tell 18 = .ok (.aload_n 0, 1) := by decide +kernel
theorem dX8_tell_19 : decode cX8_tell 19 = .ok (.getfield 44, 3) := by decide +kernel
theorem dX8_tell_22 : decode cX8_tell 22 = .ok (.iload_n 1, 1) := by decide +kernel
theorem dX8_tell_23 : decode cX8_tell 23 = .ok (.iastore, 1) := by decide +kernel
theorem dX8_tell_24 : decode cX8_tell 24 = .ok (.aload_n 0, 1) := by decide +kernel
theorem dX8_tell_25 : decode cX8_tell 25 = .ok (.dup, 1) := by decide +kernel
theorem dX8_tell_26 : decode cX8_tell 26 = .ok (.getfield 44, 3) := by decide +kernel
theorem dX8_tell_29 : decode cX8_tell 29 = .ok (.iconst 1, 1) := by decide +kernel
theorem dX8_tell_30 : decode cX8_tell 30 = .ok (.iadd, 1) := by decide +kernel
theorem dX8_tell_31 : decode cX8_tell 31 = .ok (.putfield 44, 3) := by decide +kernel
theorem dX8_tell_34 : decode cX8_tell 34 = .ok (.return_, 1) := by decide +kernel
theorem dX8_what_0 : decode cX8_what 0 = .ok (.iload_n 1, 1) := by decide +kernel
theorem dX8_what_1 : decode cX8_what 1 = .ok (.ifCond .lt 20, 3) := by decide +kernel
theorem dX8_what_4 : decode cX8_what 4 = .ok (.iload_n 1, 1) := by decide +kernel
theorem dX8_what_5 : decode cX8_what 5 = .ok (.aload_n 0, 1) := by decide +kernel
theorem dX8_what_6 : decode cX8_what 6 = .ok (.getfield 27, 3) := by decide +kernel
theorem dX8_what_9 : decode cX8_what 9 = .ok (.if_icmp .ge 12, 3) := by decide +kernel
theorem dX8_what_12 : decode cX8_what 12 = .ok (.aload_n 0, 1) := by decide +kernel
theorem dX8_what_13 : decode cX8_what 13 = .ok (.getfield 9, 3) := by decide +kernel
theorem dX8_what_16 : decode cX8_what 16 = .ok (.iload_n 1, 1) := by decide +kernel
theorem dX8_what_17 : decode cX8_what 17 = .ok (.iaload, 1) := by decide +kernel
theorem dX8_what_18 : decode cX8_what 18 = .ok (.goto 4, 3) := by decide +kernel
theorem dX8_what_21 : decode cX8_what 21 = .ok (.iconst (-1), 1) := by decide +kernel
theorem dX8_what_22 : decode cX8_what 22 = .ok (.ireturn, 1) := by decide +kernel
theorem dX8_told_0 : decode cX8_told 0 = .ok (.iload_n 1, 1) := by decide +kernel
theorem dX8_told_1 : decode cX8_told 1 = .ok (.ifCond .lt 34, 3) := by decide +kernel
theorem dX8_told_4 : decode cX8_told 4 = .ok (.iload_n 1, 1) := by decide +kernel
theorem dX8_told_5 : decode cX8_told 5 = .ok (.aload_n 0, 1) := by decide +kernel
theorem dX8_told_6 : decode cX8_told 6 = .ok (.getfield 27, 3) := by decide +kernel
theorem dX8_told_9 : decode cX8_told 9 = .ok (.if_icmp .ge 26, 3) := by decide +kernel
theorem dX8_told_12 : decode cX8_told 12 = .ok (.iload_n 2, 1) := by decide +kernel
theorem dX8_told_13 : decode cX8_told 13 = .ok (.iconst 0, 1) := by decide +kernel
theorem dX8_told_14 : decode cX8_told 14 = .ok (.iconst 5, 1) := by decide +kernel
theorem dX8_told_15 : decode cX8_told 15 = .ok (.invokestatic 47, 3) := by decide +kernel
theorem dX8_told_18 : decode cX8_told 18 = .ok (.ifCond .eq 17, 3) := by decide +kernel
theorem dX8_told_21 : decode cX8_told 21 = .ok (.aload_n 0, 1) := by decide +kernel
theorem dX8_told_22 : decode cX8_told 22 = .ok (.getfield 15, 3) := by decide +kernel
theorem dX8_told_25 : decode cX8_told 25 = .ok (.iload_n 1, 1) := by decide +kernel
theorem dX8_told_26 : decode cX8_told 26 = .ok (.bipush 6, 2) := by decide +kernel
theorem dX8_told_28 : decode cX8_told 28 = .ok (.imul, 1) := by decide +kernel
theorem dX8_told_29 : decode cX8_told 29 = .ok (.iload_n 2, 1) := by decide +kernel
theorem dX8_told_30 : decode cX8_told 30 = .ok (.iadd, 1) := by decide +kernel
theorem dX8_told_31 : decode cX8_told 31 = .ok (.iaload, 1) := by decide +kernel
theorem dX8_told_32 : decode cX8_told 32 = .ok (.goto 4, 3) := by decide +kernel
theorem dX8_told_35 : decode cX8_told 35 = .ok (.iconst (-1), 1) := by decide +kernel
theorem dX8_told_36 : decode cX8_told 36 = .ok (.ireturn, 1) := by decide +kernel
theorem dX8_emit_0 : decode cX8_emit 0 = .ok (.aload_n 0, 1) := by decide +kernel
theorem dX8_emit_1 : decode cX8_emit 1 = .ok (.getfield 35, 3) := by decide +kernel
theorem dX8_emit_4 : decode cX8_emit 4 = .ok (.sipush 300, 3) := by decide +kernel
theorem dX8_emit_7 : decode cX8_emit 7 = .ok (.if_icmp .ge 23, 3) := by decide +kernel
theorem dX8_emit_10 : decode cX8_emit 10 = .ok (.aload_n 0, 1) := by decide +kernel
theorem dX8_emit_11 : decode cX8_emit 11 = .ok (.getfield 18, 3) := by decide +kernel
theorem dX8_emit_14 : decode cX8_emit 14 = .ok (.aload_n 0, 1) := by decide +kernel
theorem dX8_emit_15 : decode cX8_emit 15 = .ok (.getfield 35, 3) := by decide +kernel
theorem dX8_emit_18 : decode cX8_emit 18 = .ok (.iload_n 1, 1) := by decide +kernel
theorem dX8_emit_19 : decode cX8_emit 19 = .ok (.iastore, 1) := by decide +kernel
theorem dX8_emit_20 : decode cX8_emit 20 = .ok (.aload_n 0, 1) := by decide +kernel
theorem dX8_emit_21 : decode cX8_emit 21 = .ok (.dup, 1) := by decide +kernel
theorem dX8_emit_22 : decode cX8_emit 22 = .ok (.getfield 35, 3) := by decide +kernel
theorem dX8_emit_25 : decode cX8_emit 25 = .ok (.iconst 1, 1) := by decide +kernel
theorem dX8_emit_26 : decode cX8_emit 26 = .ok (.iadd, 1) := by decide +kernel
theorem dX8_emit_27 : decode cX8_emit 27 = .ok (.putfield 35, 3) := by decide +kernel
theorem dX8_emit_30 : decode cX8_emit 30 = .ok (.return_, 1) := by decide +kernel
theorem dX9_init_0 : decode cX9_init 0 = .ok (.aload_n 0, 1) := by decide +kernel
theorem dX9_init_1 : decode cX9_init 1 = .ok (.invokespecial 3, 3) := by decide +kernel
theorem dX9_init_4 : decode cX9_init 4 = .ok (.aload_n 0, 1) := by decide +kernel
theorem dX9_init_5 : decode cX9_init 5 = .ok (.bipush 10, 2) := by decide +kernel
theorem dX9_init_7 : decode cX9_init 7 = .ok (.newarray .int, 2) := by decide +kernel
theorem dX9_init_9 : decode cX9_init 9 = .ok (.putfield 9, 3) := by decide +kernel
theorem dX9_init_12 : decode cX9_init 12 = .ok (.aload_n 0, 1) := by decide +kernel
theorem dX9_init_13 : decode cX9_init 13 = .ok (.bipush 10, 2) := by decide +kernel
theorem dX9_init_15 : decode cX9_init 15 = .ok (.newarray .int, 2) := by decide +kernel
theorem dX9_init_17 : decode cX9_init 17 = .ok (.putfield 15, 3) := by decide +kernel
theorem dX9_init_20 : decode cX9_init 20 = .ok (.aload_n 0, 1) := by decide +kernel
theorem dX9_init_21 : decode cX9_init 21 = .ok (.bipush 8, 2) := by decide +kernel
theorem dX9_init_23 : decode cX9_init 23 = .ok (.newarray .int, 2) := by decide +kernel
theorem dX9_init_25 : decode cX9_init 25 = .ok (.putfield 18, 3) := by decide +kernel
theorem dX9_init_28 : decode cX9_init 28 = .ok (.aload_n 0, 1) := by decide +kernel
theorem dX9_init_29 : decode cX9_init 29 = .ok (.bipush 8, 2) := by decide +kernel
theorem dX9_init_31 : decode cX9_init 31 = .ok (.newarray .int, 2) := by decide +kernel
theorem dX9_init_33 : decode cX9_init 33 = .ok (.putfield 21, 3) := by decide +kernel
theorem dX9_init_36 : decode cX9_init 36 = .ok (.aload_n 0, 1) := by decide +kernel
theorem dX9_init_37 : decode cX9_init 37 = .ok (.iconst 2, 1) := by decide +kernel
theorem dX9_init_38 : decode cX9_init 38 = .ok (.newarray .int, 2) := by decide +kernel
theorem dX9_init_40 : decode cX9_init 40 = .ok (.putfield 24, 3) := by decide +kernel
theorem dX9_init_43 : decode cX9_init 43 = .ok (.aload_n 0, 1) := by decide +kernel
theorem dX9_init_44 : decode cX9_init 44 = .ok (.bipush 24, 2) := by decide +kernel
theorem dX9_init_46 : decode cX9_init 46 = .ok (.newarray .int, 2) := by decide +kernel
theorem dX9_init_48 : decode cX9_init 48 = .ok (.putfield 27, 3) := by decide +kernel
theorem dX9_init_51 : decode cX9_init 51 = .ok (.return_, 1) := by decide +kernel
theorem dX9_startWord_0 : decode cX9_startWord 0 = .ok (.aload_n 0, 1) := by decide +kernel
theorem dX9_startWord_1 : decode cX9_startWord 1 = .ok (.getfield 9, 3) := by decide +kernel
theorem dX9_startWord_4 : decode cX9_startWord 4 = .ok (.iload_n 1, 1) := by decide +kernel
theorem dX9_startWord_5 : decode cX9_startWord 5 = .ok (.iconst 1, 1) := by decide +kernel
theorem dX9_startWord_6 : decode cX9_startWord 6 = .ok (.iastore, 1) := by decide +kernel
theorem dX9_startWord_7 : decode cX9_startWord 7 = .ok (.aload_n 0, 1) := by decide +kernel
theorem dX9_startWord_8 : decode cX9_startWord 8 = .ok (.getfield 15, 3) := by decide +kernel
theorem dX9_startWord_11 : decode cX9_startWord 11 = .ok (.iload_n 1, 1) := by decide +kernel
theorem dX9_startWord_12 : decode cX9_startWord 12 = .ok (.iload_n 1, 1) := by decide +kernel
theorem dX9_startWord_13 : decode cX9_startWord 13 = .ok (.iastore, 1) := by decide +kernel
theorem dX9_startWord_14 : decode cX9_startWord 14 = .ok (.return_, 1) := by decide +kernel
theorem dX9_addLine_0 : decode cX9_addLine 0 = .ok (.aload_n 0, 1) := by decide +kernel
theorem dX9_addLine_1 : decode cX9_addLine 1 = .ok (.getfield 30, 3) := by decide +kernel
theorem dX9_addLine_4 : decode cX9_addLine 4 = .ok (.bipush 8, 2) := by decide +kernel
theorem dX9_addLine_6 : decode cX9_addLine 6 = .ok (.if_icmp .lt 6, 3) := by decide +kernel
theorem dX9_addLine_9 : decode cX9_addLine 9 = .ok (.bipush (-2), 2) := by decide +kernel
theorem dX9_addLine_11 : decode cX9_addLine 11 = .ok (.ireturn, 1) := by decide +kernel
theorem dX9_addLine_12 : decode cX9_addLine 12 = .ok (.aload_n 0, 1) := by decide +kernel
theorem dX9_addLine_13 : decode cX9_addLine 13 = .ok (.getfield 18, 3) := by decide +kernel
theorem dX9_addLine_16 : decode cX9_addLine 16 = .ok (.aload_n 0, 1) := by decide +kernel
theorem dX9_addLine_17 : decode cX9_addLine 17 = .ok (.getfield 30, 3) := by decide +kernel
theorem dX9_addLine_20 : decode cX9_addLine 20 = .ok (.iload_n 1, 1) := by decide +kernel
theorem dX9_addLine_21 : decode cX9_addLine 21 = .ok (.iastore, 1) := by decide +kernel
theorem dX9_addLine_22 : decode cX9_addLine 22 = .ok (.aload_n 0, 1) := by decide +kernel
theorem dX9_addLine_23 : decode cX9_addLine 23 = .ok (.getfield 21, 3) := by decide +kernel
theorem dX9_addLine_26 : decode cX9_addLine 26 = .ok (.aload_n 0, 1) := by decide +kernel
theorem dX9_addLine_27 : decode cX9_addLine 27 = .ok (.getfield 30, 3) := by decide +kernel
theorem dX9_addLine_30 : decode cX9_addLine 30 = .ok (.iload_n 2, 1) := by decide +kernel
theorem dX9_addLine_31 : decode cX9_addLine 31 = .ok (.iastore, 1) := by decide +kernel
theorem dX9_addLine_32 : decode cX9_addLine 32 = .ok (.aload_n 0, 1) := by decide +kernel
theorem dX9_addLine_33 : decode cX9_addLine 33 = .ok (.dup, 1) := by decide +kernel
theorem dX9_addLine_34 : decode cX9_addLine 34 = .ok (.getfield 30, 3) := by decide +kernel
theorem dX9_addLine_37 : decode cX9_addLine 37 = .ok (.iconst 1, 1) := by decide +kernel
theorem dX9_addLine_38 : decode cX9_addLine 38 = .ok (.iadd, 1) := by decide +kernel
theorem dX9_addLine_39 : decode cX9_addLine 39 = .ok (.putfield 30, 3) := by decide +kernel
theorem dX9_addLine_42 : decode cX9_addLine 42 = .ok (.aload_n 0, 1) := by decide +kernel
theorem dX9_addLine_43 : decode cX9_addLine 43 = .ok (.getfield 30, 3) := by decide +kernel
theorem dX9_addLine_46 : decode cX9_addLine 46 = .ok (.ireturn, 1) := by decide +kernel
theorem dX9_addToTower_0 : decode cX9_addToTower 0 = .ok (.aload_n 0, 1) := by decide +kernel
theorem dX9_addToTower_1 : decode cX9_addToTower 1 = .ok (.getfield 24, 3) := by decide +kernel
theorem dX9_addToTower_4 : decode cX9_addToTower 4 = .ok (.iload_n 1, 1) := by decide +kernel
theorem dX9_addToTower_5 : decode cX9_addToTower 5 = .ok (.iaload, 1) := by decide +kernel
theorem dX9_addToTower_6 : decode cX9_addToTower 6 = .ok (.bipush 12, 2) := by decide +kernel
theorem dX9_addToTower_8 : decode cX9_addToTower 8 = .ok (.if_icmp .lt 6, 3) := by decide +kernel
theorem dX9_addToTower_11 : decode cX9_addToTower 11 = .ok (.bipush (-2), 2) := by decide +kernel
theorem dX9_addToTower_13 : decode cX9_addToTower 13 = .ok (.ireturn, 1) := by decide +kernel
theorem dX9_addToTower_14 : decode cX9_addToTower 14 = .ok (.aload_n 0, 1) := by decide +kernel
theorem dX9_addToTower_15 : decode cX9_addToTower 15 = .ok (.getfield 27, 3) := by decide +kernel
theorem dX9_addToTower_18 : decode cX9_addToTower 18 = .ok (.iload_n 1, 1) := by decide +kernel
theorem dX9_addToTower_19 : decode cX9_addToTower 19 = .ok (.bipush 12, 2) := by decide +kernel
theorem dX9_addToTower_21 : decode cX9_addToTower 21 = .ok (.imul, 1) := by decide +kernel
theorem dX9_addToTower_22 : decode cX9_addToTower 22 = .ok (.aload_n 0, 1) := by decide +kernel
theorem dX9_addToTower_23 : decode cX9_addToTower 23 = .ok (.getfield 24, 3) := by decide +kernel
theorem dX9_addToTower_26 : decode cX9_addToTower 26 = .ok (.iload_n 1, 1) := by decide +kernel
theorem dX9_addToTower_27 : decode cX9_addToTower 27 = .ok (.iaload, 1) := by decide +kernel
theorem dX9_addToTower_28 : decode cX9_addToTower 28 = .ok (.iadd, 1) := by decide +kernel
theorem dX9_addToTower_29 : decode cX9_addToTower 29 = .ok (.iload_n 2, 1) := by decide +kernel
theorem dX9_addToTower_30 : decode cX9_addToTower 30 = .ok (.iastore, 1) := by decide +kernel
theorem dX9_addToTower_31 : decode cX9_addToTower 31 = .ok (.aload_n 0, 1) := by decide +kernel
theorem dX9_addToTower_32 : decode cX9_addToTower 32 = .ok (.getfield 24, 3) := by decide +kernel
theorem dX9_addToTower_35 : decode cX9_addToTower 35 = .ok (.iload_n 1, 1) := by decide +kernel
theorem dX9_addToTower_36 : decode cX9_addToTower 36 = .ok (.dup2, 1) := by decide +kernel
theorem dX9_addToTower_37 : decode cX9_addToTower 37 = .ok (.iaload, 1) := by decide +kernel
theorem dX9_addToTower_38 : decode cX9_addToTower 38 = .ok (.iconst 1, 1) := by decide +kernel
theorem dX9_addToTower_39 : decode cX9_addToTower 39 = .ok (.iadd, 1) := by decide +kernel
theorem dX9_addToTower_40 : decode cX9_addToTower 40 = .ok (.iastore, 1) := by decide +kernel
theorem dX9_addToTower_41 : decode cX9_addToTower 41 = .ok (.aload_n 0, 1) := by decide +kernel
theorem dX9_addToTower_42 : decode cX9_addToTower 42 = .ok (.getfield 24, 3) := by decide +kernel
theorem dX9_addToTower_45 : decode cX9_addToTower 45 = .ok (.iload_n 1, 1) := by decide +kernel
theorem dX9_addToTower_46 : decode cX9_addToTower 46 = .ok (.iaload, 1) := by decide +kernel
theorem dX9_addToTower_47 : decode cX9_addToTower 47 = .ok (.ireturn, 1) := by decide +kernel
theorem dX9_allFrom_0 : decode cX9_allFrom 0 = .ok (.iconst 0, 1) := by decide +kernel
theorem dX9_allFrom_1 : decode cX9_allFrom 1 = .ok (.istore_n 2, 1) := by decide +kernel
theorem dX9_allFrom_2 : decode cX9_allFrom 2 = .ok (.iload_n 1, 1) := by decide +kernel
theorem dX9_allFrom_3 : decode cX9_allFrom 3 = .ok (.istore_n 3, 1) := by decide +kernel
theorem dX9_allFrom_4 : decode cX9_allFrom 4 = .ok (.iconst 0, 1) := by decide +kernel
theorem dX9_allFrom_5 : decode cX9_allFrom 5 = .ok (.istore 4, 2) := by decide +kernel
theorem dX9_allFrom_7 : decode cX9_allFrom 7 = .ok (.iload 4, 2) := by decide +kernel
theorem dX9_allFrom_9 : decode cX9_allFrom 9 = .ok (.bipush 10, 2) := by decide +kernel
theorem dX9_allFrom_11 : decode cX9_allFrom 11 = .ok (.if_icmp .ge 22, 3) := by decide +kernel
theorem dX9_allFrom_14 : decode cX9_allFrom 14 = .ok (.iload_n 2, 1) := by decide +kernel
theorem dX9_allFrom_15 : decode cX9_allFrom 15 = .ok (.iconst 1, 1) := by decide +kernel
theorem dX9_allFrom_16 : decode cX9_allFrom 16 = .ok (.iload_n 3, 1) := by decide +kernel
theorem dX9_allFrom_17 : decode cX9_allFrom 17 = .ok (.ishl, 1) := by decide +kernel
theorem dX9_allFrom_18 : decode cX9_allFrom 18 = .ok (.ior, 1) := by decide +kernel
theorem dX9_allFrom_19 : decode cX9_allFrom 19 = .ok (.istore_n 2, 1) := by decide +kernel
theorem dX9_allFrom_20 : decode cX9_allFrom 20 = .ok (.aload_n 0, 1) := by decide +kernel
theorem dX9_allFrom_21 : decode cX9_allFrom 21 = .ok (.getfield 15, 3) := by decide +kernel
theorem dX9_allFrom_24 : decode cX9_allFrom 24 = .ok (.iload_n 3, 1) := by decide +kernel
theorem dX9_allFrom_25 : decode cX9_allFrom 25 = .ok (.iaload, 1) := by decide +kernel
theorem dX9_allFrom_26 : decode cX9_allFrom 26 = .ok (.istore_n 3, 1) := by decide +kernel
theorem dX9_allFrom_27 : decode cX9_allFrom 27 = .ok (.iinc 4 1, 3) := by decide +kernel
theorem dX9_allFrom_30 : decode cX9_allFrom 30 = .ok (.goto (-23), 3) := by decide +kernel
theorem dX9_allFrom_33 : decode cX9_allFrom 33 = .ok (.iload_n 2, 1) := by decide +kernel
theorem dX9_allFrom_34 : decode cX9_allFrom 34 = .ok (.ireturn, 1) := by decide +kernel
theorem dX9_firstLie_0 : decode cX9_firstLie 0 = .ok (.aload_n 0, 1) := by decide +kernel
theorem dX9_firstLie_1 : decode cX9_firstLie 1 = .ok (.getfield 24, 3) := by decide +kernel
theorem dX9_firstLie_4 : decode cX9_firstLie 4 = .ok (.iconst 0, 1) := by decide +kernel
theorem dX9_firstLie_5 : decode cX9_firstLie 5 = .ok (.iaload, 1) := by decide +kernel
theorem dX9_firstLie_6 : decode cX9_firstLie 6 = .ok (.aload_n 0, 1) := by decide +kernel
theorem dX9_firstLie_7 : decode cX9_firstLie 7 = .ok (.getfield 24, 3) := by decide +kernel
theorem dX9_firstLie_10 : decode cX9_firstLie 10 = .ok (.iconst 1, 1) := by decide +kernel
theorem dX9_firstLie_11 : decode cX9_firstLie 11 = .ok (.iaload, 1) := by decide +kernel
theorem dX9_firstLie_12 : decode cX9_firstLie 12 = .ok (.invokestatic 34, 3) := by decide +kernel
theorem dX9_firstLie_15 : decode cX9_firstLie 15 = .ok (.istore_n 1, 1) := by decide +kernel
theorem dX9_firstLie_16 : decode cX9_firstLie 16 = .ok (.iconst 0, 1) := by decide +kernel
theorem dX9_firstLie_17 : decode cX9_firstLie 17 = .ok (.istore_n 2, 1) := by decide +kernel
theorem dX9_firstLie_18 : decode cX9_firstLie 18 = .ok (.iload_n 2, 1) := by decide +kernel
theorem dX9_firstLie_19 : decode cX9_firstLie 19 = .ok (.iload_n 1, 1) := by decide +kernel
theorem dX9_firstLie_20 : decode cX9_firstLie 20 = .ok (.if_icmp .ge 29, 3) := by decide +kernel
theorem dX9_firstLie_23 : decode cX9_firstLie 23 = .ok (.aload_n 0, 1) := by decide +kernel
theorem dX9_firstLie_24 : decode cX9_firstLie 24 = .ok (.getfield 27, 3) := by decide +kernel
theorem dX9_firstLie_27 : decode cX9_firstLie 27 = .ok (.iload_n 2, 1) := by decide +kernel
theorem dX9_firstLie_28 : decode cX9_firstLie 28 = .ok (.iaload, 1) := by decide +kernel
theorem dX9_firstLie_29 : decode cX9_firstLie 29 = .ok (.aload_n 0, 1) := by decide +kernel
theorem dX9_firstLie_30 : decode cX9_firstLie 30 = .ok (.getfield 27, 3) := by decide +kernel
theorem dX9_firstLie_33 : decode cX9_firstLie 33 = .ok (.bipush 12, 2) := by decide +kernel
theorem dX9_firstLie_35 : decode cX9_firstLie 35 = .ok (.iload_n 2, 1) := by decide +kernel
theorem dX9_firstLie_36 : decode cX9_firstLie 36 = .ok (.iadd, 1) := by decide +kernel
theorem dX9_firstLie_37 : decode cX9_firstLie 37 = .ok (.iaload, 1) := by decide +kernel
theorem dX9_firstLie_38 : decode cX9_firstLie 38 = .ok (.if_icmp .eq 5, 3) := by decide +kernel
theorem dX9_firstLie_41 : decode cX9_firstLie 41 = .ok (.iload_n 2, 1) := by decide +kernel
theorem dX9_firstLie_42 : decode cX9_firstLie 42 = .ok (.ireturn, 1) := by decide +kernel
theorem dX9_firstLie_43 : decode cX9_firstLie 43 = .ok (.iinc 2 1, 3) := by decide +kernel
theorem dX9_firstLie_46 : decode cX9_firstLie 46 = .ok (.goto (-28), 3) := by decide +kernel
theorem dX9_firstLie_49 : decode cX9_firstLie 49 = .ok (.aload_n 0, 1) := by decide +kernel
theorem dX9_firstLie_50 : decode cX9_firstLie 50 = .ok (.getfield 24, 3) := by decide +kernel
theorem dX9_firstLie_53 : decode cX9_firstLie 53 = .ok (.iconst 0, 1) := by decide +kernel
theorem dX9_firstLie_54 : decode cX9_firstLie 54 = .ok (.iaload, 1) := by decide +kernel
theorem dX9_firstLie_55 : decode cX9_firstLie 55 = .ok (.aload_n 0, 1) := by decide +kernel
theorem dX9_firstLie_56 : decode cX9_firstLie 56 = .ok (.getfield 24, 3) := by decide +kernel
theorem dX9_firstLie_59 : decode cX9_firstLie 59 = .ok (.iconst 1, 1) := by decide +kernel
theorem dX9_firstLie_60 : decode cX9_firstLie 60 = .ok (.iaload, 1) := by decide +kernel
theorem dX9_firstLie_61 : decode cX9_firstLie 61 = .ok (.if_icmp .ne 7, 3) := by decide +kernel
theorem dX9_firstLie_64 : decode cX9_firstLie 64 = .ok (.iconst (-1), 1) := by decide +kernel
theorem dX9_firstLie_65 : decode cX9_firstLie 65 = .ok (.goto 4, 3) := by decide +kernel
theorem dX9_firstLie_68 : decode cX9_firstLie 68 = .ok (.iload_n 1, 1) := by decide +kernel
theorem dX9_firstLie_69 : decode cX9_firstLie 69 = .ok (.ireturn, 1) := by decide +kernel
theorem dX9_longestRun_0 : decode cX9_longestRun 0 = .ok (.iconst 0, 1) := by decide +kernel
theorem dX9_longestRun_1 : decode cX9_longestRun 1 = .ok (.istore_n 1, 1) := by decide +kernel
theorem dX9_longestRun_2 : decode cX9_longestRun 2 = .ok (.iconst 0, 1) := by decide +kernel
theorem dX9_longestRun_3 : decode cX9_longestRun 3 = .ok (.istore_n 2, 1) := by decide +kernel
theorem dX9_longestRun_4 : decode cX9_longestRun 4 = .ok (.iload_n 2, 1) := by decide +kernel
theorem dX9_longestRun_5 : decode cX9_longestRun 5 = .ok (.aload_n 0, 1) := by decide +kernel
theorem dX9_longestRun_6 : decode cX9_longestRun 6 = .ok (.getfield 24, 3) := by decide +kernel
theorem dX9_longestRun_9 : decode cX9_longestRun 9 = .ok (.iconst 0, 1) := by decide +kernel
theorem dX9_longestRun_10 : decode cX9_longestRun 10 = .ok (.iaload, 1) := by decide +kernel
theorem dX9_longestRun_11 : decode cX9_longestRun 11 = .ok (.if_icmp .ge 38, 3) := by decide +kernel
theorem dX9_longestRun_14 : decode cX9_longestRun 14 = .ok (.iconst 0, 1) := by decide +kernel
theorem dX9_longestRun_15 : decode cX9_longestRun 15 = .ok (.istore_n 3, 1) := by decide +kernel
theorem dX9_longestRun_16 : decode cX9_longestRun 16 = .ok (.iload_n 3, 1) := by decide +kernel
theorem dX9_longestRun_17 : decode cX9_longestRun 17 = .ok (.aload_n 0, 1) := by decide +kernel
theorem dX9_longestRun_18 : decode cX9_longestRun 18 = .ok (.getfield 24, 3) := by decide +kernel
theorem dX9_longestRun_21 : decode cX9_longestRun 21 = .ok (.iconst 1, 1) := by decide +kernel
theorem dX9_longestRun_22 : decode cX9_longestRun 22 = .ok (.iaload, 1) := by decide +kernel
theorem dX9_longestRun_23 : decode cX9_longestRun 23 = .ok (.if_icmp .ge 20, 3) := by decide +kernel
theorem dX9_longestRun_26 : decode cX9_longestRun 26 = .ok (.iload_n 1, 1) := by decide +kernel
theorem dX9_longestRun_27 : decode cX9_longestRun 27 = .ok (.aload_n 0, 1) := by decide +kernel
theorem dX9_longestRun_28 : decode cX9_longestRun 28 = .ok (.iload_n 2, 1) := by decide +kernel
theorem dX9_longestRun_29 : decode cX9_longestRun 29 = .ok (.iload_n 3, 1) := by decide +kernel
theorem dX9_longestRun_30 : decode cX9_longestRun 30 = .ok (.invokevirtual 40, 3) := by decide +kernel
theorem dX9_longestRun_33 : decode cX9_longestRun 33 = .ok (.invokestatic 43, 3) := by decide +kernel
theorem dX9_longestRun_36 : decode cX9_longestRun 36 = .ok (.istore_n 1, 1) := by decide +kernel
theorem dX9_longestRun_37 : decode cX9_longestRun 37 = .ok (.iinc 3 1, 3) := by decide +kernel
theorem dX9_longestRun_40 : decode cX9_longestRun 40 = .ok (.goto (-24), 3) := by decide +kernel
theorem dX9_longestRun_43 : decode cX9_longestRun 43 = .ok (.iinc 2 1, 3) := by decide +kernel
theorem dX9_longestRun_46 : decode cX9_longestRun 46 = .ok (.goto (-42), 3) := by decide +kernel
theorem dX9_longestRun_49 : decode cX9_longestRun 49 = .ok (.iload_n 1, 1) := by decide +kernel
theorem dX9_longestRun_50 : decode cX9_longestRun 50 = .ok (.ireturn, 1) := by decide +kernel
theorem dX9_runAt_0 : decode cX9_runAt 0 = .ok (.aload_n 0, 1) := by decide +kernel
theorem dX9_runAt_1 : decode cX9_runAt 1 = .ok (.getfield 24, 3) := by decide +kernel
theorem dX9_runAt_4 : decode cX9_runAt 4 = .ok (.iconst 0, 1) := by decide +kernel
theorem dX9_runAt_5 : decode cX9_runAt 5 = .ok (.iaload, 1) := by decide +kernel
theorem dX9_runAt_6 : decode cX9_runAt 6 = .ok (.iload_n 1, 1) := by decide +kernel
theorem dX9_runAt_7 : decode cX9_runAt 7 = .ok (.isub, 1) := by decide +kernel
theorem dX9_runAt_8 : decode cX9_runAt 8 = .ok (.aload_n 0, 1) := by decide +kernel
theorem dX9_runAt_9 : decode cX9_runAt 9 = .ok (.getfield 24, 3) := by decide +kernel
theorem dX9_runAt_12 : decode cX9_runAt 12 = .ok (.iconst 1, 1) := by decide +kernel
theorem dX9_runAt_13 : decode cX9_runAt 13 = .ok (.iaload, 1) := by decide +kernel
theorem dX9_runAt_14 : decode cX9_runAt 14 = .ok (.iload_n 2, 1) := by decide +kernel
theorem dX9_runAt_15 : decode cX9_runAt 15 = .ok (.isub, 1) := by decide +kernel
theorem dX9_runAt_16 : decode cX9_runAt 16 = .ok (.invokestatic 34, 3) := by decide +kernel
theorem dX9_runAt_19 : decode cX9_runAt 19 = .ok (.istore_n 3, 1) := by decide +kernel
theorem dX9_runAt_20 : decode cX9_runAt 20 = .ok (.iconst 0, 1) := by decide +kernel
theorem dX9_runAt_21 : decode cX9_runAt 21 = .ok (.istore 4, 2) := by decide +kernel
theorem dX9_runAt_23 : decode cX9_runAt 23 = .ok (.iload 4, 2) := by decide +kernel
theorem dX9_runAt_25 : decode cX9_runAt 25 = .ok (.iload_n 3, 1) := by decide +kernel
theorem dX9_runAt_26 : decode cX9_runAt 26 = .ok (.if_icmp .ge 33, 3) := by decide +kernel
theorem dX9_runAt_29 : decode cX9_runAt 29 = .ok (.aload_n 0, 1) := by decide +kernel
theorem dX9_runAt_30 : decode cX9_runAt 30 = .ok (.getfield 27, 3) := by decide +kernel
theorem dX9_runAt_33 : decode cX9_runAt 33 = .ok (.iload_n 1, 1) := by decide +kernel
theorem dX9_runAt_34 : decode cX9_runAt 34 = .ok (.iload 4, 2) := by decide +kernel
theorem dX9_runAt_36 : decode cX9_runAt 36 = .ok (.iadd, 1) := by decide +kernel
theorem dX9_runAt_37 : decode cX9_runAt 37 = .ok (.iaload, 1) := by decide +kernel
theorem dX9_runAt_38 : decode cX9_runAt 38 = .ok (.aload_n 0, 1) := by decide +kernel
theorem dX9_runAt_39 : decode cX9_runAt 39 = .ok (.getfield 27, 3) := by decide +kernel
theorem dX9_runAt_42 : decode cX9_runAt 42 = .ok (.bipush 12, 2) := by decide +kernel
theorem dX9_runAt_44 : decode cX9_runAt 44 = .ok (.iload_n 2, 1) := by decide +kernel
theorem dX9_runAt_45 : decode cX9_runAt 45 = .ok (.iadd, 1) := by decide +kernel
theorem dX9_runAt_46 : decode cX9_runAt 46 = .ok (.iload 4, 2) := by decide +kernel
theorem dX9_runAt_48 : decode cX9_runAt 48 = .ok (.iadd, 1) := by decide +kernel
theorem dX9_runAt_49 : decode cX9_runAt 49 = .ok (.iaload, 1) := by decide +kernel
theorem dX9_runAt_50 : decode cX9_runAt 50 = .ok (.if_icmp .ne 9, 3) := by decide +kernel
theorem dX9_runAt_53 : decode cX9_runAt 53 = .ok (.iinc 4 1, 3) := by decide +kernel
theorem dX9_runAt_56 : decode cX9_runAt 56 = .ok (.goto (-33), 3) := by decide +kernel
theorem dX9_runAt_59 : decode cX9_runAt 59 = .ok (.iload 4, 2) := by decide +kernel
theorem dX9_runAt_61 : decode cX9_runAt 61 = .ok (.ireturn, 1) := by decide +kernel
theorem dX9_copyFrom_0 : decode cX9_copyFrom 0 = .ok (.aload_n 1, 1) := by decide +kernel
theorem dX9_copyFrom_1 : decode cX9_copyFrom 1 = .ok (.getfield 9, 3) := by decide +kernel
theorem dX9_copyFrom_4 : decode cX9_copyFrom 4 = .ok (.iconst 0, 1) := by decide +kernel
theorem dX9_copyFrom_5 : decode cX9_copyFrom 5 = .ok (.aload_n 0, 1) := by decide +kernel
theorem dX9_copyFrom_6 : decode cX9_copyFrom 6 = .ok (.getfield 9, 3) := by decide +kernel
theorem dX9_copyFrom_9 : decode cX9_copyFrom 9 = .ok (.iconst 0, 1) := by decide +kernel
theorem dX9_copyFrom_10 : decode cX9_copyFrom 10 = .ok (.bipush 10, 2) := by decide +kernel
theorem dX9_copyFrom_12 : decode cX9_copyFrom 12 = .ok (.invokestatic 46, 3) := by decide +kernel
theorem dX9_copyFrom_15 : decode cX9_copyFrom 15 = .ok (.aload_n 1, 1) := by decide +kernel
theorem dX9_copyFrom_16 : decode cX9_copyFrom 16 = .ok (.getfield 15, 3) := by decide +kernel
theorem dX9_copyFrom_19 : decode cX9_copyFrom 19 = .ok (.iconst 0, 1) := by decide +kernel
theorem dX9_copyFrom_20 : decode cX9_copyFrom 20 = .ok (.aload_n 0, 1) := by decide +kernel
theorem dX9_copyFrom_21 : decode cX9_copyFrom 21 = .ok (.getfield 15, 3) := by decide +kernel
theorem dX9_copyFrom_24 : decode cX9_copyFrom 24 = .ok (.iconst 0, 1) := by decide +kernel
theorem dX9_copyFrom_25 : decode cX9_copyFrom 25 = .ok (.bipush 10, 2) := by decide +kernel
theorem dX9_copyFrom_27 : decode cX9_copyFrom 27 = .ok (.invokestatic 46, 3) := by decide +kernel
theorem dX9_copyFrom_30 : decode cX9_copyFrom 30 = .ok (.aload_n 0, 1) := by decide +kernel
theorem dX9_copyFrom_31 : decode cX9_copyFrom 31 = .ok (.aload_n 1, 1) := by decide +kernel
theorem dX9_copyFrom_32 : decode cX9_copyFrom 32 = .ok (.getfield 30, 3) := by decide +kernel
theorem dX9_copyFrom_35 : decode cX9_copyFrom 35 = .ok (.putfield 30, 3) := by decide +kernel
theorem dX9_copyFrom_38 : decode cX9_copyFrom 38 = .ok (.aload_n 1, 1) := by decide +kernel
theorem dX9_copyFrom_39 : decode cX9_copyFrom 39 = .ok (.getfield 18, 3) := by decide +kernel
theorem dX9_copyFrom_42 : decode cX9_copyFrom 42 = .ok (.iconst 0, 1) := by decide +kernel
theorem dX9_copyFrom_43 : decode cX9_copyFrom 43 = .ok (.aload_n 0, 1) := by decide +kernel
theorem dX9_copyFrom_44 : decode cX9_copyFrom 44 = .ok (.getfield 18, 3) := by decide +kernel
theorem dX9_copyFrom_47 : decode cX9_copyFrom 47 = .ok (.iconst 0, 1) := by decide +kernel
theorem dX9_copyFrom_48 : decode cX9_copyFrom 48 = .ok (.bipush 8, 2) := by decide +kernel
theorem dX9_copyFrom_50 : decode cX9_copyFrom 50 = .ok (.invokestatic 46, 3) := by decide +kernel
theorem dX9_copyFrom_53 : decode cX9_copyFrom 53 = .ok (.aload_n 1, 1) := by decide +kernel
theorem dX9_copyFrom_54 : decode cX9_copyFrom 54 = .ok (.getfield 21, 3) := by decide +kernel
theorem dX9_copyFrom_57 : decode cX9_copyFrom 57 = .ok (.iconst 0, 1) := by decide +kernel
theorem dX9_copyFrom_58 : decode cX9_copyFrom 58 = .ok (.aload_n 0, 1) := by decide +kernel
theorem dX9_copyFrom_59 : decode cX9_copyFrom 59 = .ok (.getfield 21, 3) := by decide +kernel
theorem dX9_copyFrom_62 : decode cX9_copyFrom 62 = .ok (.iconst 0, 1) := by decide +kernel
theorem dX9_copyFrom_63 : decode cX9_copyFrom 63 = .ok (.bipush 8, 2) := by decide +kernel
theorem dX9_copyFrom_65 : decode cX9_copyFrom 65 = .ok (.invokestatic 46, 3) := by decide +kernel
theorem dX9_copyFrom_68 : decode cX9_copyFrom 68 = .ok (.aload_n 1, 1) := by decide +kernel
theorem dX9_copyFrom_69 : decode cX9_copyFrom 69 = .ok (.getfield 24, 3) := by decide +kernel
theorem dX9_copyFrom_72 : decode cX9_copyFrom 72 = .ok (.iconst 0, 1) := by decide +kernel
theorem dX9_copyFrom_73 : decode cX9_copyFrom 73 = .ok (.aload_n 0, 1) := by decide +kernel
theorem dX9_copyFrom_74 : decode cX9_copyFrom 74 = .ok (.getfield 24, 3) := by decide +kernel
theorem dX9_copyFrom_77 : decode cX9_copyFrom 77 = .ok (.iconst 0, 1) := by decide +kernel
theorem dX9_copyFrom_78 : decode cX9_copyFrom 78 = .ok (.iconst 2, 1) := by decide +kernel
theorem dX9_copyFrom_79 : decode cX9_copyFrom 79 = .ok (.invokestatic 46, 3) := by decide +kernel
theorem dX9_copyFrom_82 : decode cX9_copyFrom 82 = .ok (.aload_n 1, 1) := by decide +kernel
theorem dX9_copyFrom_83 : decode cX9_copyFrom 83 = .ok (.getfield 27, 3) := by decide +kernel
theorem dX9_copyFrom_86 : decode cX9_copyFrom 86 = .ok (.iconst 0, 1) := by decide +kernel
theorem dX9_copyFrom_87 : decode cX9_copyFrom 87 = .ok (.aload_n 0, 1) := by decide +kernel
theorem dX9_copyFrom_88 : decode cX9_copyFrom 88 = .ok (.getfield 27, 3) := by decide +kernel
theorem dX9_copyFrom_91 : decode cX9_copyFrom 91 = .ok (.iconst 0, 1) := by decide +kernel
theorem dX9_copyFrom_92 : decode cX9_copyFrom 92 = .ok (.bipush 24, 2) := by decide +kernel
theorem dX9_copyFrom_94 : decode cX9_copyFrom 94 = .ok (.invokestatic 46, 3) := by decide +kernel
theorem dX9_copyFrom_97 : decode cX9_copyFrom 97 = .ok (.return_, 1) := by decide +kernel
theorem dX10_init_0 : decode cX10_init 0 = .ok (.aload_n 0, 1) := by decide +kernel
theorem dX10_init_1 : decode cX10_init 1 = .ok (.invokespecial 3, 3) := by decide +kernel
theorem dX10_init_4 : decode cX10_init 4 = .ok (.aload_n 0, 1) := by decide +kernel
theorem dX10_init_5 : decode cX10_init 5 = .ok (.new 9, 3) := by decide +kernel
theorem dX10_init_8 : decode cX10_init 8 = .ok (.dup, 1) := by decide +kernel
theorem dX10_init_9 : decode cX10_init 9 = .ok (.invokespecial 11, 3) := by decide +kernel
theorem dX10_init_12 : decode cX10_init 12 = .ok (.putfield 12, 3) := by decide +kernel
theorem dX10_init_15 : decode cX10_init 15 = .ok (.aload_n 0, 1) := by decide +kernel
theorem dX10_init_16 : decode cX10_init 16 = .ok (.new 18, 3) := by decide +kernel
theorem dX10_init_19 : decode cX10_init 19 = .ok (.dup, 1) := by decide +kernel
theorem dX10_init_20 : decode cX10_init 20 = .ok (.invokespecial 20, 3) := by decide +kernel
theorem dX10_init_23 : decode cX10_init 23 = .ok (.putfield 21, 3) := by decide +kernel
theorem dX10_init_26 : decode cX10_init 26 = .ok (.aload_n 0, 1) := by decide +kernel
theorem dX10_init_27 : decode cX10_init 27 = .ok (.new 25, 3) := by decide +kernel
theorem dX10_init_30 : decode cX10_init 30 = .ok (.dup, 1) := by decide +kernel
theorem dX10_init_31 : decode cX10_init 31 = .ok (.invokespecial 27, 3) := by decide +kernel
theorem dX10_init_34 : decode cX10_init 34 = .ok (.putfield 28, 3) := by decide +kernel
theorem dX10_init_37 : decode cX10_init 37 = .ok (.aload_n 0, 1) := by decide +kernel
theorem dX10_init_38 : decode cX10_init 38 = .ok (.new 32, 3) := by decide +kernel
theorem dX10_init_41 : decode cX10_init 41 = .ok (.dup, 1) := by decide +kernel
theorem dX10_init_42 : decode cX10_init 42 = .ok (.invokespecial 34, 3) := by decide +kernel
theorem dX10_init_45 : decode cX10_init 45 = .ok (.putfield 35, 3) := by decide +kernel
theorem dX10_init_48 : decode cX10_init 48 = .ok (.aload_n 0, 1) := by decide +kernel
theorem dX10_init_49 : decode cX10_init 49 = .ok (.bipush 9, 2) := by decide +kernel
theorem dX10_init_51 : decode cX10_init 51 = .ok (.putfield 39, 3) := by decide +kernel
theorem dX10_init_54 : decode cX10_init 54 = .ok (.aload_n 0, 1) := by decide +kernel
theorem dX10_init_55 : decode cX10_init 55 = .ok (.iconst (-1), 1) := by decide +kernel
theorem dX10_init_56 : decode cX10_init 56 = .ok (.putfield 43, 3) := by decide +kernel
theorem dX10_init_59 : decode cX10_init 59 = .ok (.return_, 1) := by decide +kernel
theorem dX10_hasText_0 : decode cX10_hasText 0 = .ok (.iload_n 1, 1) := by decide +kernel
theorem dX10_hasText_1 : decode cX10_hasText 1 = .ok (.ifCond .lt 15, 3) := by decide +kernel
theorem dX10_hasText_4 : decode cX10_hasText 4 = .ok (.iload_n 1, 1) := by decide +kernel
theorem dX10_hasText_5 : decode cX10_hasText 5 = .ok (.aload_n 0, 1) := by decide +kernel
theorem dX10_hasText_6 : decode cX10_hasText 6 = .ok (.getfield 46, 3) := by decide +kernel
theorem dX10_hasText_9 : decode cX10_hasText 9 = .ok (.if_icmp .ge 7, 3) := by decide +kernel
theorem dX10_hasText_12 : decode cX10_hasText 12 = .ok (.iconst 1, 1) := by decide +kernel
theorem dX10_hasText_13 : decode cX10_hasText 13 = .ok (.goto 4, 3) := by decide +kernel
theorem dX10_hasText_16 : decode cX10_hasText 16 = .ok (.iconst 0, 1) := by decide +kernel
theorem dX10_hasText_17 : decode cX10_hasText 17 = .ok (.ireturn, 1) := by decide +kernel
theorem dX10_addWord_0 : decode cX10_addWord 0 = .ok (.aload_n 0, 1) := by decide +kernel
theorem dX10_addWord_1 : decode cX10_addWord 1 = .ok (.getfield 12, 3) := by decide +kernel
theorem dX10_addWord_4 : decode cX10_addWord 4 = .ok (.iload_n 1, 1) := by decide +kernel
theorem dX10_addWord_5 : decode cX10_addWord 5 = .ok (.iload_n 2, 1) := by decide +kernel
theorem dX10_addWord_6 : decode cX10_addWord 6 = .ok (.iload_n 3, 1) := by decide +kernel
theorem dX10_addWord_7 : decode cX10_addWord 7 = .ok (.iload 4, 2) := by decide +kernel
theorem dX10_addWord_9 : decode cX10_addWord 9 = .ok (.iload 5, 2) := by decide +kernel
theorem dX10_addWord_11 : decode cX10_addWord 11 = .ok (.iload 6, 2) := by decide +kernel
theorem dX10_addWord_13 : decode cX10_addWord 13 = .ok (.invokevirtual 49, 3) := by decide +kernel
theorem dX10_addWord_16 : decode cX10_addWord 16 = .ok (.istore 7, 2) := by decide +kernel
theorem dX10_addWord_18 : decode cX10_addWord 18 = .ok (.iload 7, 2) := by decide +kernel
theorem dX10_addWord_20 : decode cX10_addWord 20 = .ok (.iconst (-1), 1) := by decide +kernel
theorem dX10_addWord_21 : decode cX10_addWord 21 = .ok (.if_icmp .eq 12, 3) := by decide +kernel
theorem dX10_addWord_24 : decode cX10_addWord 24 = .ok (.aload_n 0, 1) := by decide +kernel
theorem dX10_addWord_25 : decode cX10_addWord 25 = .ok (.getfield 35, 3) := by decide +kernel
theorem dX10_addWord_28 : decode cX10_addWord 28 = .ok (.iload 7, 2) := by decide +kernel
theorem dX10_addWord_30 : decode cX10_addWord 30 = .ok (.invokevirtual 53, 3) := by decide +kernel
theorem dX10_addWord_33 : decode cX10_addWord 33 = .ok (.iload 7, 2) := by decide +kernel
theorem dX10_addWord_35 : decode cX10_addWord 35 = .ok (.ireturn, 1) := by decide +kernel
theorem dX10_canStrike_0 : decode cX10_canStrike 0 = .ok (.aload_n 0, 1) := by decide +kernel
theorem dX10_canStrike_1 : decode cX10_canStrike 1 = .ok (.getfield 12, 3) := by decide +kernel
theorem dX10_canStrike_4 : decode cX10_canStrike 4 = .ok (.iload_n 1, 1) := by decide +kernel
theorem dX10_canStrike_5 : decode cX10_canStrike 5 = .ok (.invokevirtual 57, 3) := by decide +kernel
theorem dX10_canStrike_8 : decode cX10_canStrike 8 = .ok (.ifCond .eq 35, 3) := by decide +kernel
theorem dX10_canStrike_11 : decode cX10_canStrike 11 = .ok (.aload_n 0, 1) := by decide +kernel
theorem dX10_canStrike_12 : decode cX10_canStrike 12 = .ok (.getfield 12, 3) := by decide +kernel
theorem dX10_canStrike_15 : decode cX10_canStrike 15 = .ok (.getfield 61, 3) := by decide +kernel
theorem dX10_canStrike_18 : decode cX10_canStrike 18 = .ok (.iload_n 1, 1) := by decide +kernel
theorem dX10_canStrike_19 : decode cX10_canStrike 19 = .ok (.iaload, 1) := by decide +kernel
theorem dX10_canStrike_20 : decode cX10_canStrike 20 = .ok (.aload_n 0, 1) := by decide +kernel
theorem dX10_canStrike_21 : decode cX10_canStrike 21 = .ok (.getfield 39, 3) := by decide +kernel
theorem dX10_canStrike_24 : decode cX10_canStrike 24 = .ok (.if_icmp .gt 19, 3) := by decide +kernel
theorem dX10_canStrike_27 : decode cX10_canStrike 27 = .ok (.aload_n 0, 1) := by decide +kernel
theorem dX10_canStrike_28 : decode cX10_canStrike 28 = .ok (.getfield 21, 3) := by decide +kernel
theorem dX10_canStrike_31 : decode cX10_canStrike 31 = .ok (.getfield 65, 3) := by decide +kernel
theorem dX10_canStrike_34 : decode cX10_canStrike 34 = .ok (.bipush 24, 2) := by decide +kernel
theorem dX10_canStrike_36 : decode cX10_canStrike 36 = .ok (.if_icmp .ge 7, 3) := by decide +kernel
theorem dX10_canStrike_39 : decode cX10_canStrike 39 = .ok (.iconst 1, 1) := by decide +kernel
theorem dX10_canStrike_40 : decode cX10_canStrike 40 = .ok (.goto 4, 3) := by decide +kernel
theorem dX10_canStrike_43 : decode cX10_canStrike 43 = .ok (.iconst 0, 1) := by decide +kernel
theorem dX10_canStrike_44 : decode cX10_canStrike 44 = .ok (.ireturn, 1) := by decide +kernel
theorem dX10_canSay_0 : decode cX10_canSay 0 = .ok (.aload_n 0, 1) := by decide +kernel
theorem dX10_canSay_1 : decode cX10_canSay 1 = .ok (.getfield 12, 3) := by decide +kernel
theorem dX10_canSay_4 : decode cX10_canSay 4 = .ok (.iload_n 1, 1) := by decide +kernel
theorem dX10_canSay_5 : decode cX10_canSay 5 = .ok (.invokevirtual 68, 3) := by decide +kernel
theorem dX10_canSay_8 : decode cX10_canSay 8 = .ok (.ifCond .eq 44, 3) := by decide +kernel
theorem dX10_canSay_11 : decode cX10_canSay 11 = .ok (.aload_n 0, 1) := by decide +kernel
theorem dX10_canSay_12 : decode cX10_canSay 12 = .ok (.getfield 12, 3) := by decide +kernel
theorem dX10_canSay_15 : decode cX10_canSay 15 = .ok (.iload_n 1, 1) := by decide +kernel
theorem dX10_canSay_16 : decode cX10_canSay 16 = .ok (.invokevirtual 71, 3) := by decide +kernel
theorem dX10_canSay_19 : decode cX10_canSay 19 = .ok (.aload_n 0, 1) := by decide +kernel
theorem dX10_canSay_20 : decode cX10_canSay 20 = .ok (.getfield 39, 3) := by decide +kernel
theorem dX10_canSay_23 : decode cX10_canSay 23 = .ok (.if_icmp .gt 29, 3) := by decide +kernel
theorem dX10_canSay_26 : decode cX10_canSay 26 = .ok (.aload_n 0, 1) := by decide +kernel
theorem dX10_canSay_27 : decode cX10_canSay 27 = .ok (.getfield 21, 3) := by decide +kernel
theorem dX10_canSay_30 : decode cX10_canSay 30 = .ok (.getfield 65, 3) := by decide +kernel
theorem dX10_canSay_33 : decode cX10_canSay 33 = .ok (.aload_n 0, 1) := by decide +kernel
theorem dX10_canSay_34 : decode cX10_canSay 34 = .ok (.getfield 12, 3) := by decide +kernel
theorem dX10_canSay_37 : decode cX10_canSay 37 = .ok (.getfield 75, 3) := by decide +kernel
theorem dX10_canSay_40 : decode cX10_canSay 40 = .ok (.iload_n 1, 1) := by decide +kernel
theorem dX10_canSay_41 : decode cX10_canSay 41 = .ok (.iaload, 1) := by decide +kernel
theorem dX10_canSay_42 : decode cX10_canSay 42 = .ok (.iadd, 1) := by decide +kernel
theorem dX10_canSay_43 : decode cX10_canSay 43 = .ok (.bipush 24, 2) := by decide +kernel
theorem dX10_canSay_45 : decode cX10_canSay 45 = .ok (.if_icmp .gt 7, 3) := by decide +kernel
theorem dX10_canSay_48 : decode cX10_canSay 48 = .ok (.iconst 1, 1) := by decide +kernel
theorem dX10_canSay_49 : decode cX10_canSay 49 = .ok (.goto 4, 3) := by decide +kernel
theorem dX10_canSay_52 : decode cX10_canSay 52 = .ok (.iconst 0, 1) := by decide +kernel
theorem dX10_canSay_53 : decode cX10_canSay 53 = .ok (.ireturn, 1) := by decide +kernel
theorem dX10_keepStep_0 : decode cX10_keepStep 0 = .ok (.aload_n 0, 1) := by decide +kernel
theorem dX10_keepStep_1 : decode cX10_keepStep 1 = .ok (.getfield 28, 3) := by decide +kernel
theorem dX10_keepStep_4 : decode cX10_keepStep 4 = .ok (.aload_n 0, 1) := by decide +kernel
theorem dX10_keepStep_5 : decode cX10_keepStep 5 = .ok (.getfield 21, 3) := by decide +kernel
theorem dX10_keepStep_8 : decode cX10_keepStep 8 = .ok (.invokevirtual 78, 3) := by decide +kernel
theorem dX10_keepStep_11 : decode cX10_keepStep 11 = .ok (.return_, 1) := by decide +kernel
theorem dX10_copyFrom_0 : decode cX10_copyFrom 0 = .ok (.aload_n 0, 1) := by decide +kernel
theorem dX10_copyFrom_1 : decode cX10_copyFrom 1 = .ok (.getfield 12, 3) := by decide +kernel
theorem dX10_copyFrom_4 : decode cX10_copyFrom 4 = .ok (.aload_n 1, 1) := by decide +kernel
theorem dX10_copyFrom_5 : decode cX10_copyFrom 5 = .ok (.getfield 12, 3) := by decide +kernel
theorem dX10_copyFrom_8 : decode cX10_copyFrom 8 = .ok (.invokevirtual 82, 3) := by decide +kernel
theorem dX10_copyFrom_11 : decode cX10_copyFrom 11 = .ok (.aload_n 0, 1) := by decide +kernel
theorem dX10_copyFrom_12 : decode cX10_copyFrom 12 = .ok (.getfield 21, 3) := by decide +kernel
theorem dX10_copyFrom_15 : decode cX10_copyFrom 15 = .ok (.aload_n 1, 1) := by decide +kernel
theorem dX10_copyFrom_16 : decode cX10_copyFrom 16 = .ok (.getfield 21, 3) := by decide +kernel
theorem dX10_copyFrom_19 : decode cX10_copyFrom 19 = .ok (.invokevirtual 86, 3) := by decide +kernel
theorem dX10_copyFrom_22 : decode cX10_copyFrom 22 = .ok (.aload_n 0, 1) := by decide +kernel
theorem dX10_copyFrom_23 : decode cX10_copyFrom 23 = .ok (.getfield 28, 3) := by decide +kernel
theorem dX10_copyFrom_26 : decode cX10_copyFrom 26 = .ok (.aload_n 1, 1) := by decide +kernel
theorem dX10_copyFrom_27 : decode cX10_copyFrom 27 = .ok (.getfield 28, 3) := by decide +kernel
theorem dX10_copyFrom_30 : decode cX10_copyFrom 30 = .ok (.invokevirtual 88, 3) := by decide +kernel
theorem dX10_copyFrom_33 : decode cX10_copyFrom 33 = .ok (.aload_n 0, 1) := by decide +kernel
theorem dX10_copyFrom_34 : decode cX10_copyFrom 34 = .ok (.getfield 35, 3) := by decide +kernel
theorem dX10_copyFrom_37 : decode cX10_copyFrom 37 = .ok (.aload_n 1, 1) := by decide +kernel
theorem dX10_copyFrom_38 : decode cX10_copyFrom 38 = .ok (.getfield 35, 3) := by decide +kernel
theorem dX10_copyFrom_41 : decode cX10_copyFrom 41 = .ok (.invokevirtual 91, 3) := by decide +kernel
theorem dX10_copyFrom_44 : decode cX10_copyFrom 44 = .ok (.aload_n 0, 1) := by decide +kernel
theorem dX10_copyFrom_45 : decode cX10_copyFrom 45 = .ok (.aload_n 1, 1) := by decide +kernel
theorem dX10_copyFrom_46 : decode cX10_copyFrom 46 = .ok (.getfield 39, 3) := by decide +kernel
theorem dX10_copyFrom_49 : decode cX10_copyFrom 49 = .ok (.putfield 39, 3) := by decide +kernel
theorem dX10_copyFrom_52 : decode cX10_copyFrom 52 = .ok (.aload_n 0, 1) := by decide +kernel
theorem dX10_copyFrom_53 : decode cX10_copyFrom 53 = .ok (.aload_n 1, 1) := by decide +kernel
theorem dX10_copyFrom_54 : decode cX10_copyFrom 54 = .ok (.getfield 46, 3) := by decide +kernel
theorem dX10_copyFrom_57 : decode cX10_copyFrom 57 = .ok (.putfield 46, 3) := by decide +kernel
theorem dX10_copyFrom_60 : decode cX10_copyFrom 60 = .ok (.aload_n 0, 1) := by decide +kernel
theorem dX10_copyFrom_61 : decode cX10_copyFrom 61 = .ok (.aload_n 1, 1) := by decide +kernel
theorem dX10_copyFrom_62 : decode cX10_copyFrom 62 = .ok (.getfield 43, 3) := by decide +kernel
theorem dX10_copyFrom_65 : decode cX10_copyFrom 65 = .ok (.putfield 43, 3) := by decide +kernel
theorem dX10_copyFrom_68 : decode cX10_copyFrom 68 = .ok (.return_, 1) := by decide +kernel
