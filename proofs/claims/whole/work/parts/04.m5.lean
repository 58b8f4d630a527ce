theorem dX12_reading_65 : decode cX12_reading 65 = .ok (.iload 6, 2) := by decide +kernel
theorem dX12_reading_67 : decode cX12_reading 67 = .ok (.invokevirtual 401, 3) := by decide +kernel
theorem dX12_reading_70 : decode cX12_reading 70 = .ok (.ifCond .eq 30, 3) := by decide +kernel
theorem dX12_reading_73 : decode cX12_reading 73 = .ok (.aload_n 0, 1) := by decide +kernel
theorem dX12_reading_74 : decode cX12_reading 74 = .ok (.getfield 49, 3) := by decide +kernel
theorem dX12_reading_77 : decode cX12_reading 77 = .ok (.iload 4, 2) := by decide +kernel
theorem dX12_reading_79 : decode cX12_reading 79 = .ok (.aload_n 0, 1) := by decide +kernel
theorem dX12_reading_80 : decode cX12_reading 80 = .ok (.iload 7, 2) := by decide +kernel
theorem dX12_reading_82 : decode cX12_reading 82 = .ok (.iconst 2, 1) := by decide +kernel
theorem dX12_reading_83 : decode cX12_reading 83 = .ok (.invokevirtual 84, 3) := by decide +kernel
theorem dX12_reading_86 : decode cX12_reading 86 = .ok (.iadd, 1) := by decide +kernel
theorem dX12_reading_87 : decode cX12_reading 87 = .ok (.iload 7, 2) := by decide +kernel
theorem dX12_reading_89 : decode cX12_reading 89 = .ok (.iload 6, 2) := by decide +kernel
theorem dX12_reading_91 : decode cX12_reading 91 = .ok (.iconst 1, 1) := by decide +kernel
theorem dX12_reading_92 : decode cX12_reading 92 = .ok (.iadd, 1) := by decide +kernel
theorem dX12_reading_93 : decode cX12_reading 93 = .ok (.invokestatic 404, 3) := by decide +kernel
theorem dX12_reading_96 : decode cX12_reading 96 = .ok (.iaload, 1) := by decide +kernel
theorem dX12_reading_97 : decode cX12_reading 97 = .ok (.ifCond .ne 9, 3) := by decide +kernel
theorem dX12_reading_100 : decode cX12_reading 100 = .ok (.iinc 7 1, 3) := by decide +kernel
theorem dX12_reading_103 : decode cX12_reading 103 = .ok (.goto (-55), 3) := by decide +kernel
theorem dX12_reading_106 : decode cX12_reading 106 = .ok (.iload 6, 2) := by decide +kernel
theorem dX12_reading_108 : decode cX12_reading 108 = .ok (.iload_n 2, 1) := by decide +kernel
theorem dX12_reading_109 : decode cX12_reading 109 = .ok (.if_icmp .ne 6, 3) := by decide +kernel
theorem dX12_reading_112 : decode cX12_reading 112 = .ok (.iload 7, 2) := by decide +kernel
theorem dX12_reading_114 : decode cX12_reading 114 = .ok (.ireturn, 1) := by decide +kernel
theorem dX12_reading_115 : decode cX12_reading 115 = .ok (.iload 4, 2) := by decide +kernel
theorem dX12_reading_117 : decode cX12_reading 117 = .ok (.aload_n 0, 1) := by decide +kernel
theorem dX12_reading_118 : decode cX12_reading 118 = .ok (.iload 7, 2) := by decide +kernel
theorem dX12_reading_120 : decode cX12_reading 120 = .ok (.iconst 2, 1) := by decide +kernel
theorem dX12_reading_121 : decode cX12_reading 121 = .ok (.invokevirtual 84, 3) := by decide +kernel
theorem dX12_reading_124 : decode cX12_reading 124 = .ok (.iadd, 1) := by decide +kernel
theorem dX12_reading_125 : decode cX12_reading 125 = .ok (.istore 4, 2) := by decide +kernel
theorem dX12_reading_127 : decode cX12_reading 127 = .ok (.iload 7, 2) := by decide +kernel
theorem dX12_reading_129 : decode cX12_reading 129 = .ok (.istore 5, 2) := by decide +kernel
theorem dX12_reading_131 : decode cX12_reading 131 = .ok (.iinc 6 1, 3) := by decide +kernel
theorem dX12_reading_134 : decode cX12_reading 134 = .ok (.goto (-95), 3) := by decide +kernel
theorem dX12_reading_137 : decode cX12_reading 137 = .ok (.iload_n 2, 1) := by decide +kernel
theorem dX12_reading_138 : decode cX12_reading 138 = .ok (.iconst (-1), 1) := by decide +kernel
theorem dX12_reading_139 : decode cX12_reading 139 = .ok (.if_icmp .ne 8, 3) := by decide +kernel
theorem dX12_reading_142 : decode cX12_reading 142 = .ok (.iload 6, 2) := by decide +kernel
theorem dX12_reading_144 : decode cX12_reading 144 = .ok (.goto 5, 3) := by decide +kernel
theorem dX12_reading_147 : decode cX12_reading 147 = .ok (.bipush (-2), 2) := by decide +kernel
theorem dX12_reading_149 : decode cX12_reading 149 = .ok (.ireturn, 1) := by decide +kernel
theorem dX12_weight_0 : decode cX12_weight 0 = .ok (.aload_n 0, 1) := by decide +kernel
theorem dX12_weight_1 : decode cX12_weight 1 = .ok (.iload_n 1, 1) := by decide +kernel
theorem dX12_weight_2 : decode cX12_weight 2 = .ok (.invokevirtual 326, 3) := by decide +kernel
theorem dX12_weight_5 : decode cX12_weight 5 = .ok (.ifCond .eq 13, 3) := by decide +kernel
theorem dX12_weight_8 : decode cX12_weight 8 = .ok (.iload_n 2, 1) := by decide +kernel
theorem dX12_weight_9 : decode cX12_weight 9 = .ok (.iconst 0, 1) := by decide +kernel
theorem dX12_weight_10 : decode cX12_weight 10 = .ok (.bipush 99, 2) := by decide +kernel
theorem dX12_weight_12 : decode cX12_weight 12 = .ok (.invokestatic 80, 3) := by decide +kernel
theorem dX12_weight_15 : decode cX12_weight 15 = .ok (.ifCond .ne 5, 3) := by decide +kernel
theorem dX12_weight_18 : decode cX12_weight 18 = .ok (.iconst 0, 1) := by decide +kernel
theorem dX12_weight_19 : decode cX12_weight 19 = .ok (.ireturn, 1) := by decide +kernel
theorem dX12_weight_20 : decode cX12_weight 20 = .ok (.aload_n 0, 1) := by decide +kernel
theorem dX12_weight_21 : decode cX12_weight 21 = .ok (.getfield 7, 3) := by decide +kernel
theorem dX12_weight_24 : decode cX12_weight 24 = .ok (.bipush 34, 2) := by decide +kernel
theorem dX12_weight_26 : decode cX12_weight 26 = .ok (.bipush 9, 2) := by decide +kernel
theorem dX12_weight_28 : decode cX12_weight 28 = .ok (.iload_n 1, 1) := by decide +kernel
theorem dX12_weight_29 : decode cX12_weight 29 = .ok (.imul, 1) := by decide +kernel
theorem dX12_weight_30 : decode cX12_weight 30 = .ok (.iadd, 1) := by decide +kernel
theorem dX12_weight_31 : decode cX12_weight 31 = .ok (.bipush 7, 2) := by decide +kernel
theorem dX12_weight_33 : decode cX12_weight 33 = .ok (.iadd, 1) := by decide +kernel
theorem dX12_weight_34 : decode cX12_weight 34 = .ok (.iload_n 2, 1) := by decide +kernel
theorem dX12_weight_35 : decode cX12_weight 35 = .ok (.iastore, 1) := by decide +kernel
theorem dX12_weight_36 : decode cX12_weight 36 = .ok (.iconst 1, 1) := by decide +kernel
theorem dX12_weight_37 : decode cX12_weight 37 = .ok (.ireturn, 1) := by decide +kernel
theorem dX12_isLeft_0 : decode cX12_isLeft 0 = .ok (.iconst 0, 1) := by decide +kernel
theorem dX12_isLeft_1 : decode cX12_isLeft 1 = .ok (.istore 4, 2) := by decide +kernel
theorem dX12_isLeft_3 : decode cX12_isLeft 3 = .ok (.iconst 0, 1) := by decide +kernel
theorem dX12_isLeft_4 : decode cX12_isLeft 4 = .ok (.istore 5, 2) := by decide +kernel
theorem dX12_isLeft_6 : decode cX12_isLeft 6 = .ok (.iload 5, 2) := by decide +kernel
theorem dX12_isLeft_8 : decode cX12_isLeft 8 = .ok (.aload_n 0, 1) := by decide +kernel
theorem dX12_isLeft_9 : decode cX12_isLeft 9 = .ok (.iload_n 1, 1) := by decide +kernel
theorem dX12_isLeft_10 : decode cX12_isLeft 10 = .ok (.iconst 2, 1) := by decide +kernel
theorem dX12_isLeft_11 : decode cX12_isLeft 11 = .ok (.invokevirtual 84, 3) := by decide +kernel
theorem dX12_isLeft_14 : decode cX12_isLeft 14 = .ok (.if_icmp .ge 49, 3) := by decide +kernel
theorem dX12_isLeft_17 : decode cX12_isLeft 17 = .ok (.iload_n 2, 1) := by decide +kernel
theorem dX12_isLeft_18 : decode cX12_isLeft 18 = .ok (.iload 5, 2) := by decide +kernel
theorem dX12_isLeft_20 : decode cX12_isLeft 20 = .ok (.invokestatic 261, 3) := by decide +kernel
theorem dX12_isLeft_23 : decode cX12_isLeft 23 = .ok (.ifCond .ne 6, 3) := by decide +kernel
theorem dX12_isLeft_26 : decode cX12_isLeft 26 = .ok (.goto 31, 3) := by decide +kernel
theorem dX12_isLeft_29 : decode cX12_isLeft 29 = .ok (.iload 4, 2) := by decide +kernel
theorem dX12_isLeft_31 : decode cX12_isLeft 31 = .ok (.iload_n 3, 1) := by decide +kernel
theorem dX12_isLeft_32 : decode cX12_isLeft 32 = .ok (.if_icmp .eq 20, 3) := by decide +kernel
theorem dX12_isLeft_35 : decode cX12_isLeft 35 = .ok (.aload_n 0, 1) := by decide +kernel
theorem dX12_isLeft_36 : decode cX12_isLeft 36 = .ok (.getfield 46, 3) := by decide +kernel
theorem dX12_isLeft_39 : decode cX12_isLeft 39 = .ok (.iload 4, 2) := by decide +kernel
theorem dX12_isLeft_41 : decode cX12_isLeft 41 = .ok (.iaload, 1) := by decide +kernel
theorem dX12_isLeft_42 : decode cX12_isLeft 42 = .ok (.aload_n 0, 1) := by decide +kernel
theorem dX12_isLeft_43 : decode cX12_isLeft 43 = .ok (.iload_n 1, 1) := by decide +kernel
theorem dX12_isLeft_44 : decode cX12_isLeft 44 = .ok (.iload 5, 2) := by decide +kernel
theorem dX12_isLeft_46 : decode cX12_isLeft 46 = .ok (.invokevirtual 320, 3) := by decide +kernel
theorem dX12_isLeft_49 : decode cX12_isLeft 49 = .ok (.if_icmp .eq 5, 3) := by decide +kernel
theorem dX12_isLeft_52 : decode cX12_isLeft 52 = .ok (.iconst 0, 1) := by decide +kernel
theorem dX12_isLeft_53 : decode cX12_isLeft 53 = .ok (.ireturn, 1) := by decide +kernel
theorem dX12_isLeft_54 : decode cX12_isLeft 54 = .ok (.iinc 4 1, 3) := by decide +kernel
theorem dX12_isLeft_57 : decode cX12_isLeft 57 = .ok (.iinc 5 1, 3) := by decide +kernel
theorem dX12_isLeft_60 : decode cX12_isLeft 60 = .ok (.goto (-54), 3) := by decide +kernel
theorem dX12_isLeft_63 : decode cX12_isLeft 63 = .ok (.iload 4, 2) := by decide +kernel
theorem dX12_isLeft_65 : decode cX12_isLeft 65 = .ok (.iload_n 3, 1) := by decide +kernel
theorem dX12_isLeft_66 : decode cX12_isLeft 66 = .ok (.if_icmp .ne 7, 3) := by decide +kernel
theorem dX12_isLeft_69 : decode cX12_isLeft 69 = .ok (.iconst 1, 1) := by decide +kernel
theorem dX12_isLeft_70 : decode cX12_isLeft 70 = .ok (.goto 4, 3) := by decide +kernel
theorem dX12_isLeft_73 : decode cX12_isLeft 73 = .ok (.iconst 0, 1) := by decide +kernel
theorem dX12_isLeft_74 : decode cX12_isLeft 74 = .ok (.ireturn, 1) := by decide +kernel
theorem dX12_likely_0 : decode cX12_likely 0 = .ok (.lconst 0, 1) := by decide +kernel
theorem dX12_likely_1 : decode cX12_likely 1 = .ok (.lstore 4, 2) := by decide +kernel
theorem dX12_likely_3 : decode cX12_likely 3 = .ok (.iconst 0, 1) := by decide +kernel
theorem dX12_likely_4 : decode cX12_likely 4 = .ok (.istore 6, 2) := by decide +kernel
theorem dX12_likely_6 : decode cX12_likely 6 = .ok (.iload 6, 2) := by decide +kernel
theorem dX12_likely_8 : decode cX12_likely 8 = .ok (.iconst 1, 1) := by decide +kernel
theorem dX12_likely_9 : decode cX12_likely 9 = .ok (.aload_n 0, 1) := by decide +kernel
theorem dX12_likely_10 : decode cX12_likely 10 = .ok (.iload_n 1, 1) := by decide +kernel
theorem dX12_likely_11 : decode cX12_likely 11 = .ok (.iconst 2, 1) := by decide +kernel
theorem dX12_likely_12 : decode cX12_likely 12 = .ok (.invokevirtual 84, 3) := by decide +kernel
theorem dX12_likely_15 : decode cX12_likely 15 = .ok (.ishl, 1) := by decide +kernel
theorem dX12_likely_16 : decode cX12_likely 16 = .ok (.if_icmp .ge 97, 3) := by decide +kernel
theorem dX12_likely_19 : decode cX12_likely 19 = .ok (.aload_n 0, 1) := by decide +kernel
theorem dX12_likely_20 : decode cX12_likely 20 = .ok (.iload_n 1, 1) := by decide +kernel
theorem dX12_likely_21 : decode cX12_likely 21 = .ok (.iload 6, 2) := by decide +kernel
theorem dX12_likely_23 : decode cX12_likely 23 = .ok (.iload_n 3, 1) := by decide +kernel
theorem dX12_likely_24 : decode cX12_likely 24 = .ok (.invokevirtual 419, 3) := by decide +kernel
theorem dX12_likely_27 : decode cX12_likely 27 = .ok (.ifCond .ne 6, 3) := by decide +kernel
theorem dX12_likely_30 : decode cX12_likely 30 = .ok (.goto 77, 3) := by decide +kernel
theorem dX12_likely_33 : decode cX12_likely 33 = .ok (.aload_n 0, 1) := by decide +kernel
theorem dX12_likely_34 : decode cX12_likely 34 = .ok (.iload_n 1, 1) := by decide +kernel
theorem dX12_likely_35 : decode cX12_likely 35 = .ok (.bipush 7, 2) := by decide +kernel
theorem dX12_likely_37 : decode cX12_likely 37 = .ok (.invokevirtual 84, 3) := by decide +kernel
theorem dX12_likely_40 : decode cX12_likely 40 = .ok (.i2l, 1) := by decide +kernel
theorem dX12_likely_41 : decode cX12_likely 41 = .ok (.lstore 7, 2) := by decide +kernel
theorem dX12_likely_43 : decode cX12_likely 43 = .ok (.iconst 0, 1) := by decide +kernel
theorem dX12_likely_44 : decode cX12_likely 44 = .ok (.istore 9, 2) := by decide +kernel
theorem dX12_likely_46 : decode cX12_likely 46 = .ok (.iload 9, 2) := by decide +kernel
theorem dX12_likely_48 : decode cX12_likely 48 = .ok (.iconst 4, 1) := by decide +kernel
theorem dX12_likely_49 : decode cX12_likely 49 = .ok (.if_icmp .ge 51, 3) := by decide +kernel
theorem dX12_likely_52 : decode cX12_likely 52 = .ok (.lload 7, 2) := by decide +kernel
theorem dX12_likely_54 : decode cX12_likely 54 = .ok (.iload 9, 2) := by decide +kernel
theorem dX12_likely_56 : decode cX12_likely 56 = .ok (.aload_n 0, 1) := by decide +kernel
theorem dX12_likely_57 : decode cX12_likely 57 = .ok (.iload_n 1, 1) := by decide +kernel
theorem dX12_likely_58 : decode cX12_likely 58 = .ok (.iconst 2, 1) := by decide +kernel
theorem dX12_likely_59 : decode cX12_likely 59 = .ok (.invokevirtual 84, 3) := by decide +kernel
theorem dX12_likely_62 : decode cX12_likely 62 = .ok (.if_icmp .lt 9, 3) := by decide +kernel
theorem dX12_likely_65 : decode cX12_likely 65 = .ok (.ldc2_w 422, 3) := by decide +kernel
theorem dX12_likely_68 : decode cX12_likely 68 = .ok (.goto 23, 3) := by decide +kernel
theorem dX12_likely_71 : decode cX12_likely 71 = .ok (.iload 6, 2) := by decide +kernel
theorem dX12_likely_73 : decode cX12_likely 73 = .ok (.iload 9, 2) := by decide +kernel
theorem dX12_likely_75 : decode cX12_likely 75 = .ok (.invokestatic 261, 3) := by decide +kernel
theorem dX12_likely_78 : decode cX12_likely 78 = .ok (.ifCond .eq 11, 3) := by decide +kernel
theorem dX12_likely_81 : decode cX12_likely 81 = .ok (.bipush 10, 2) := by decide +kernel
theorem dX12_likely_83 : decode cX12_likely 83 = .ok (.iload_n 2, 1) := by decide +kernel
theorem dX12_likely_84 : decode cX12_likely 84 = .ok (.isub, 1) := by decide +kernel
theorem dX12_likely_85 : decode cX12_likely 85 = .ok (.i2l, 1) := by decide +kernel
theorem dX12_likely_86 : decode cX12_likely 86 = .ok (.goto 5, 3) := by decide +kernel
theorem dX12_likely_89 : decode cX12_likely 89 = .ok (.iload_n 2, 1) := by decide +kernel
theorem dX12_likely_90 : decode cX12_likely 90 = .ok (.i2l, 1) := by decide +kernel
theorem dX12_likely_91 : decode cX12_likely 91 = .ok (.lmul, 1) := by decide +kernel
theorem dX12_likely_92 : decode cX12_likely 92 = .ok (.lstore 7, 2) := by decide +kernel
theorem dX12_likely_94 : decode cX12_likely 94 = .ok (.iinc 9 1, 3) := by decide +kernel
theorem dX12_likely_97 : decode cX12_likely 97 = .ok (.goto (-51), 3) := by decide +kernel
theorem dX12_likely_100 : decode cX12_likely 100 = .ok (.lload 4, 2) := by decide +kernel
theorem dX12_likely_102 : decode cX12_likely 102 = .ok (.lload 7, 2) := by decide +kernel
theorem dX12_likely_104 : decode cX12_likely 104 = .ok (.ladd, 1) := by decide +kernel
theorem dX12_likely_105 : decode cX12_likely 105 = .ok (.lstore 4, 2) := by decide +kernel
theorem dX12_likely_107 : decode cX12_likely 107 = .ok (.iinc 6 1, 3) := by decide +kernel
theorem dX12_likely_110 : decode cX12_likely 110 = .ok (.goto (-104), 3) := by decide +kernel
theorem dX12_likely_113 : decode cX12_likely 113 = .ok (.lload 4, 2) := by decide +kernel
theorem dX12_likely_115 : decode cX12_likely 115 = .ok (.lreturn, 1) := by decide +kernel
theorem dX12_common_0 : decode cX12_common 0 = .ok (.lload_n 0, 1) := by decide +kernel
theorem dX12_common_1 : decode cX12_common 1 = .ok (.lstore 4, 2) := by decide +kernel
theorem dX12_common_3 : decode cX12_common 3 = .ok (.lload_n 2, 1) := by decide +kernel
theorem dX12_common_4 : decode cX12_common 4 = .ok (.lstore 6, 2) := by decide +kernel
theorem dX12_common_6 : decode cX12_common 6 = .ok (.lload 6, 2) := by decide +kernel
theorem dX12_common_8 : decode cX12_common 8 = .ok (.lconst 0, 1) := by decide +kernel
theorem dX12_common_9 : decode cX12_common 9 = .ok (.lcmp, 1) := by decide +kernel
theorem dX12_common_10 : decode cX12_common 10 = .ok (.ifCond .eq 21, 3) := by decide +kernel
theorem dX12_common_13 : decode cX12_common 13 = .ok (.lload 4, 2) := by decide +kernel
theorem dX12_common_15 : decode cX12_common 15 = .ok (.lload 6, 2) := by decide +kernel
theorem dX12_common_17 : decode cX12_common 17 = .ok (.lrem, 1) := by decide +kernel
theorem dX12_common_18 : decode cX12_common 18 = .ok (.lstore 8, 2) := by decide +kernel
theorem dX12_common_20 : decode cX12_common 20 = .ok (.lload 6, 2) := by decide +kernel
theorem dX12_common_22 : decode cX12_common 22 = .ok (.lstore 4, 2) := by decide +kernel
theorem dX12_common_24 : decode cX12_common 24 = .ok (.lload 8, 2) := by decide +kernel
theorem dX12_common_26 : decode cX12_common 26 = .ok (.lstore 6, 2) := by decide +kernel
theorem dX12_common_28 : decode cX12_common 28 = .ok (.goto (-22), 3) := by decide +kernel
theorem dX12_common_31 : decode cX12_common 31 = .ok (.lload 4, 2) := by decide +kernel
theorem dX12_common_33 : decode cX12_common 33 = .ok (.lreturn, 1) := by decide +kernel
theorem dX12_meant_0 : decode cX12_meant 0 = .ok (.aload_n 0, 1) := by decide +kernel
theorem dX12_meant_1 : decode cX12_meant 1 = .ok (.iload_n 1, 1) := by decide +kernel
theorem dX12_meant_2 : decode cX12_meant 2 = .ok (.invokevirtual 326, 3) := by decide +kernel
theorem dX12_meant_5 : decode cX12_meant 5 = .ok (.ifCond .eq 13, 3) := by decide +kernel
theorem dX12_meant_8 : decode cX12_meant 8 = .ok (.iload_n 2, 1) := by decide +kernel
theorem dX12_meant_9 : decode cX12_meant 9 = .ok (.iconst 0, 1) := by decide +kernel
theorem dX12_meant_10 : decode cX12_meant 10 = .ok (.bipush 10, 2) := by decide +kernel
theorem dX12_meant_12 : decode cX12_meant 12 = .ok (.invokestatic 80, 3) := by decide +kernel
theorem dX12_meant_15 : decode cX12_meant 15 = .ok (.ifCond .ne 7, 3) := by decide +kernel
theorem dX12_meant_18 : decode cX12_meant 18 = .ok (.ldc2_w 424, 3) := by decide +kernel
theorem dX12_meant_21 : decode cX12_meant 21 = .ok (.lreturn, 1) := by decide +kernel
theorem dX12_meant_22 : decode cX12_meant 22 = .ok (.aload_n 0, 1) := by decide +kernel
theorem dX12_meant_23 : decode cX12_meant 23 = .ok (.invokevirtual 353, 3) := by decide +kernel
theorem dX12_meant_26 : decode cX12_meant 26 = .ok (.istore 4, 2) := by decide +kernel
theorem dX12_meant_28 : decode cX12_meant 28 = .ok (.lconst 0, 1) := by decide +kernel
theorem dX12_meant_29 : decode cX12_meant 29 = .ok (.lstore 5, 2) := by decide +kernel
theorem dX12_meant_31 : decode cX12_meant 31 = .ok (.iconst 0, 1) := by decide +kernel
theorem dX12_meant_32 : decode cX12_meant 32 = .ok (.istore 7, 2) := by decide +kernel
theorem dX12_meant_34 : decode cX12_meant 34 = .ok (.iload 7, 2) := by decide +kernel
theorem dX12_meant_36 : decode cX12_meant 36 = .ok (.aload_n 0, 1) := by decide +kernel
theorem dX12_meant_37 : decode cX12_meant 37 = .ok (.getfield 7, 3) := by decide +kernel
theorem dX12_meant_40 : decode cX12_meant 40 = .ok (.iconst 1, 1) := by decide +kernel
theorem dX12_meant_41 : decode cX12_meant 41 = .ok (.iaload, 1) := by decide +kernel
theorem dX12_meant_42 : decode cX12_meant 42 = .ok (.if_icmp .ge 23, 3) := by decide +kernel
theorem dX12_meant_45 : decode cX12_meant 45 = .ok (.lload 5, 2) := by decide +kernel
theorem dX12_meant_47 : decode cX12_meant 47 = .ok (.aload_n 0, 1) := by decide +kernel
theorem dX12_meant_48 : decode cX12_meant 48 = .ok (.iload 7, 2) := by decide +kernel
theorem dX12_meant_50 : decode cX12_meant 50 = .ok (.iload_n 2, 1) := by decide +kernel
theorem dX12_meant_51 : decode cX12_meant 51 = .ok (.iload 4, 2) := by decide +kernel
theorem dX12_meant_53 : decode cX12_meant 53 = .ok (.invokevirtual 426, 3) := by decide +kernel
theorem dX12_meant_56 : decode cX12_meant 56 = .ok (.ladd, 1) := by decide +kernel
theorem dX12_meant_57 : decode cX12_meant 57 = .ok (.lstore 5, 2) := by decide +kernel
theorem dX12_meant_59 : decode cX12_meant 59 = .ok (.iinc 7 1, 3) := by decide +kernel
theorem dX12_meant_62 : decode cX12_meant 62 = .ok (.goto (-28), 3) := by decide +kernel
theorem dX12_meant_65 : decode cX12_meant 65 = .ok (.lload 5, 2) := by decide +kernel
theorem dX12_meant_67 : decode cX12_meant 67 = .ok (.lconst 0, 1) := by decide +kernel
theorem dX12_meant_68 : decode cX12_meant 68 = .ok (.lcmp, 1) := by decide +kernel
theorem dX12_meant_69 : decode cX12_meant 69 = .ok (.ifCond .ne 13, 3) := by decide +kernel
theorem dX12_meant_72 : decode cX12_meant 72 = .ok (.iload_n 3, 1) := by decide +kernel
theorem dX12_meant_73 : decode cX12_meant 73 = .ok (.ifCond .eq 7, 3) := by decide +kernel
theorem dX12_meant_76 : decode cX12_meant 76 = .ok (.lconst 1, 1) := by decide +kernel
theorem dX12_meant_77 : decode cX12_meant 77 = .ok (.goto 4, 3) := by decide +kernel
theorem dX12_meant_80 : decode cX12_meant 80 = .ok (.lconst 0, 1) := by decide +kernel
theorem dX12_meant_81 : decode cX12_meant 81 = .ok (.lreturn, 1) := by decide +kernel
theorem dX12_meant_82 : decode cX12_meant 82 = .ok (.aload_n 0, 1) := by decide +kernel
theorem dX12_meant_83 : decode cX12_meant 83 = .ok (.iload_n 1, 1) := by decide +kernel
theorem dX12_meant_84 : decode cX12_meant 84 = .ok (.iload_n 2, 1) := by decide +kernel
theorem dX12_meant_85 : decode cX12_meant 85 = .ok (.iload 4, 2) := by decide +kernel
theorem dX12_meant_87 : decode cX12_meant 87 = .ok (.invokevirtual 426, 3) := by decide +kernel
theorem dX12_meant_90 : decode cX12_meant 90 = .ok (.lstore 7, 2) := by decide +kernel
theorem dX12_meant_92 : decode cX12_meant 92 = .ok (.iload_n 3, 1) := by decide +kernel
theorem dX12_meant_93 : decode cX12_meant 93 = .ok (.ifCond .eq 8, 3) := by decide +kernel
theorem dX12_meant_96 : decode cX12_meant 96 = .ok (.lload 5, 2) := by decide +kernel
theorem dX12_meant_98 : decode cX12_meant 98 = .ok (.goto 5, 3) := by decide +kernel
theorem dX12_meant_101 : decode cX12_meant 101 = .ok (.lload 7, 2) := by decide +kernel
theorem dX12_meant_103 : decode cX12_meant 103 = .ok (.lload 7, 2) := by decide +kernel
theorem dX12_meant_105 : decode cX12_meant 105 = .ok (.lload 5, 2) := by decide +kernel
theorem dX12_meant_107 : decode cX12_meant 107 = .ok (.invokestatic 429, 3) := by decide +kernel
theorem dX12_meant_110 : decode cX12_meant 110 = .ok (.ldiv, 1) := by decide +kernel
theorem dX12_meant_111 : decode cX12_meant 111 = .ok (.lreturn, 1) := by decide +kernel
theorem dX12_areOver_0 : decode cX12_areOver 0 = .ok (.iconst 0, 1) := by decide +kernel
theorem dX12_areOver_1 : decode cX12_areOver 1 = .ok (.istore_n 3, 1) := by decide +kernel
theorem dX12_areOver_2 : decode cX12_areOver 2 = .ok (.iload_n 3, 1) := by decide +kernel
theorem dX12_areOver_3 : decode cX12_areOver 3 = .ok (.aload_n 0, 1) := by decide +kernel
theorem dX12_areOver_4 : decode cX12_areOver 4 = .ok (.iload_n 1, 1) := by decide +kernel
theorem dX12_areOver_5 : decode cX12_areOver 5 = .ok (.iconst 2, 1) := by decide +kernel
theorem dX12_areOver_6 : decode cX12_areOver 6 = .ok (.invokevirtual 84, 3) := by decide +kernel
theorem dX12_areOver_9 : decode cX12_areOver 9 = .ok (.if_icmp .ge 34, 3) := by decide +kernel
theorem dX12_areOver_12 : decode cX12_areOver 12 = .ok (.aload_n 0, 1) := by decide +kernel
theorem dX12_areOver_13 : decode cX12_areOver 13 = .ok (.aload_n 0, 1) := by decide +kernel
theorem dX12_areOver_14 : decode cX12_areOver 14 = .ok (.iload_n 1, 1) := by decide +kernel
theorem dX12_areOver_15 : decode cX12_areOver 15 = .ok (.iload_n 3, 1) := by decide +kernel
theorem dX12_areOver_16 : decode cX12_areOver 16 = .ok (.invokevirtual 320, 3) := by decide +kernel
theorem dX12_areOver_19 : decode cX12_areOver 19 = .ok (.iload_n 2, 1) := by decide +kernel
theorem dX12_areOver_20 : decode cX12_areOver 20 = .ok (.aload_n 0, 1) := by decide +kernel
theorem dX12_areOver_21 : decode cX12_areOver 21 = .ok (.getfield 7, 3) := by decide +kernel
theorem dX12_areOver_24 : decode cX12_areOver 24 = .ok (.bipush 14, 2) := by decide +kernel
theorem dX12_areOver_26 : decode cX12_areOver 26 = .ok (.iaload, 1) := by decide +kernel
theorem dX12_areOver_27 : decode cX12_areOver 27 = .ok (.iload_n 3, 1) := by decide +kernel
theorem dX12_areOver_28 : decode cX12_areOver 28 = .ok (.iadd, 1) := by decide +kernel
theorem dX12_areOver_29 : decode cX12_areOver 29 = .ok (.invokevirtual 308, 3) := by decide +kernel
theorem dX12_areOver_32 : decode cX12_areOver 32 = .ok (.ifCond .ne 5, 3) := by decide +kernel
theorem dX12_areOver_35 : decode cX12_areOver 35 = .ok (.iconst 0, 1) := by decide +kernel
theorem dX12_areOver_36 : decode cX12_areOver 36 = .ok (.ireturn, 1) := by decide +kernel
theorem dX12_areOver_37 : decode cX12_areOver 37 = .ok (.iinc 3 1, 3) := by decide +kernel
theorem dX12_areOver_40 : decode cX12_areOver 40 = .ok (.goto (-38), 3) := by decide +kernel
theorem dX12_areOver_43 : decode cX12_areOver 43 = .ok (.iconst 1, 1) := by decide +kernel
theorem dX12_areOver_44 : decode cX12_areOver 44 = .ok (.ireturn, 1) := by decide +kernel
theorem dX12_shortest_0 : decode cX12_shortest 0 = .ok (.iload_n 1, 1) := by decide +kernel
theorem dX12_shortest_1 : decode cX12_shortest 1 = .ok (.iconst 0, 1) := by decide +kernel
theorem dX12_shortest_2 : decode cX12_shortest 2 = .ok (.bipush 99, 2) := by decide +kernel
theorem dX12_shortest_4 : decode cX12_shortest 4 = .ok (.invokestatic 80, 3) := by decide +kernel
theorem dX12_shortest_7 : decode cX12_shortest 7 = .ok (.ifCond .ne 5, 3) := by decide +kernel
theorem dX12_shortest_10 : decode cX12_shortest 10 = .ok (.iconst (-1), 1) := by decide +kernel
theorem dX12_shortest_11 : decode cX12_shortest 11 = .ok (.ireturn, 1) := by decide +kernel
theorem dX12_shortest_12 : decode cX12_shortest 12 = .ok (.iconst (-1), 1) := by decide +kernel
theorem dX12_shortest_13 : decode cX12_shortest 13 = .ok (.istore_n 2, 1) := by decide +kernel
theorem dX12_shortest_14 : decode cX12_shortest 14 = .ok (.iconst 0, 1) := by decide +kernel
theorem dX12_shortest_15 : decode cX12_shortest 15 = .ok (.istore_n 3, 1) := by decide +kernel
theorem dX12_shortest_16 : decode cX12_shortest 16 = .ok (.iload_n 3, 1) := by decide +kernel
theorem dX12_shortest_17 : decode cX12_shortest 17 = .ok (.aload_n 0, 1) := by decide +kernel
theorem dX12_shortest_18 : decode cX12_shortest 18 = .ok (.getfield 7, 3) := by decide +kernel
theorem dX12_shortest_21 : decode cX12_shortest 21 = .ok (.iconst 1, 1) := by decide +kernel
theorem dX12_shortest_22 : decode cX12_shortest 22 = .ok (.iaload, 1) := by decide +kernel
theorem dX12_shortest_23 : decode cX12_shortest 23 = .ok (.if_icmp .ge 56, 3) := by decide +kernel
theorem dX12_shortest_26 : decode cX12_shortest 26 = .ok (.aload_n 0, 1) := by decide +kernel
theorem dX12_shortest_27 : decode cX12_shortest 27 = .ok (.iload_n 3, 1) := by decide +kernel
theorem dX12_shortest_28 : decode cX12_shortest 28 = .ok (.iconst 1, 1) := by decide +kernel
theorem dX12_shortest_29 : decode cX12_shortest 29 = .ok (.invokevirtual 84, 3) := by decide +kernel
theorem dX12_shortest_32 : decode cX12_shortest 32 = .ok (.iload_n 1, 1) := by decide +kernel
theorem dX12_shortest_33 : decode cX12_shortest 33 = .ok (.if_icmp .ne 40, 3) := by decide +kernel
theorem dX12_shortest_36 : decode cX12_shortest 36 = .ok (.aload_n 0, 1) := by decide +kernel
theorem dX12_shortest_37 : decode cX12_shortest 37 = .ok (.iload_n 3, 1) := by decide +kernel
theorem dX12_shortest_38 : decode cX12_shortest 38 = .ok (.aload_n 0, 1) := by decide +kernel
theorem dX12_shortest_39 : decode cX12_shortest 39 = .ok (.getfield 7, 3) := by decide +kernel
theorem dX12_shortest_42 : decode cX12_shortest 42 = .ok (.bipush 8, 2) := by decide +kernel
theorem dX12_shortest_44 : decode cX12_shortest 44 = .ok (.iaload, 1) := by decide +kernel
theorem dX12_shortest_45 : decode cX12_shortest 45 = .ok (.invokevirtual 432, 3) := by decide +kernel
theorem dX12_shortest_48 : decode cX12_shortest 48 = .ok (.ifCond .eq 25, 3) := by decide +kernel
theorem dX12_shortest_51 : decode cX12_shortest 51 = .ok (.iload_n 2, 1) := by decide +kernel
theorem dX12_shortest_52 : decode cX12_shortest 52 = .ok (.iconst (-1), 1) := by decide +kernel
theorem dX12_shortest_53 : decode cX12_shortest 53 = .ok (.if_icmp .eq 18, 3) := by decide +kernel
theorem dX12_shortest_56 : decode cX12_shortest 56 = .ok (.aload_n 0, 1) := by decide +kernel
theorem dX12_shortest_57 : decode cX12_shortest 57 = .ok (.iload_n 3, 1) := by decide +kernel
theorem dX12_shortest_58 : decode cX12_shortest 58 = .ok (.iconst 2, 1) := by decide +kernel
theorem dX12_shortest_59 : decode cX12_shortest 59 = .ok (.invokevirtual 84, 3) := by decide +kernel
theorem dX12_shortest_62 : decode cX12_shortest 62 = .ok (.aload_n 0, 1) := by decide +kernel
theorem dX12_shortest_63 : decode cX12_shortest 63 = .ok (.iload_n 2, 1) := by decide +kernel
theorem dX12_shortest_64 : decode cX12_shortest 64 = .ok (.iconst 2, 1) := by decide +kernel
theorem dX12_shortest_65 : decode cX12_shortest 65 = .ok (.invokevirtual 84, 3) := by decide +kernel
theorem dX12_shortest_68 : decode cX12_shortest 68 = .ok (.if_icmp .ge 5, 3) := by decide +kernel
theorem dX12_shortest_71 : decode cX12_shortest 71 = .ok (.iload_n 3, 1) := by decide +kernel
theorem dX12_shortest_72 : decode cX12_shortest 72 = .ok (.istore_n 2, 1) := by decide +kernel
theorem dX12_shortest_73 : decode cX12_shortest 73 = .ok (.iinc 3 1, 3) := by decide +kernel
theorem dX12_shortest_76 : decode cX12_shortest 76 = .ok (.goto (-60), 3) := by decide +kernel
theorem dX12_shortest_79 : decode cX12_shortest 79 = .ok (.iload_n 2, 1) := by decide +kernel
theorem dX12_shortest_80 : decode cX12_shortest 80 = .ok (.ireturn, 1) := by decide +kernel
theorem dX12_atWorst_0 : decode cX12_atWorst 0 = .ok (.aload_n 0, 1) := by decide +kernel
theorem dX12_atWorst_1 : decode cX12_atWorst 1 = .ok (.iload_n 1, 1) := by decide +kernel
theorem dX12_atWorst_2 : decode cX12_atWorst 2 = .ok (.invokevirtual 326, 3) := by decide +kernel
theorem dX12_atWorst_5 : decode cX12_atWorst 5 = .ok (.ifCond .ne 5, 3) := by decide +kernel
theorem dX12_atWorst_8 : decode cX12_atWorst 8 = .ok (.iconst (-1), 1) := by decide +kernel
theorem dX12_atWorst_9 : decode cX12_atWorst 9 = .ok (.ireturn, 1) := by decide +kernel
theorem dX12_atWorst_10 : decode cX12_atWorst 10 = .ok (.iconst 0, 1) := by decide +kernel
theorem dX12_atWorst_11 : decode cX12_atWorst 11 = .ok (.istore_n 2, 1) := by decide +kernel
theorem dX12_atWorst_12 : decode cX12_atWorst 12 = .ok (.iload_n 2, 1) := by decide +kernel
theorem dX12_atWorst_13 : decode cX12_atWorst 13 = .ok (.bipush 10, 2) := by decide +kernel
theorem dX12_atWorst_15 : decode cX12_atWorst 15 = .ok (.if_icmp .ge 18, 3) := by decide +kernel
theorem dX12_atWorst_18 : decode cX12_atWorst 18 = .ok (.aload_n 0, 1) := by decide +kernel
theorem dX12_atWorst_19 : decode cX12_atWorst 19 = .ok (.iload_n 1, 1) := by decide +kernel
theorem dX12_atWorst_20 : decode cX12_atWorst 20 = .ok (.iload_n 2, 1) := by decide +kernel
theorem dX12_atWorst_21 : decode cX12_atWorst 21 = .ok (.invokevirtual 432, 3) := by decide +kernel
theorem dX12_atWorst_24 : decode cX12_atWorst 24 = .ok (.ifCond .eq 9, 3) := by decide +kernel
theorem dX12_atWorst_27 : decode cX12_atWorst 27 = .ok (.iinc 2 1, 3) := by decide +kernel
theorem dX12_atWorst_30 : decode cX12_atWorst 30 = .ok (.goto (-18), 3) := by decide +kernel
theorem dX12_atWorst_33 : decode cX12_atWorst 33 = .ok (.iload_n 2, 1) := by decide +kernel
theorem dX12_atWorst_34 : decode cX12_atWorst 34 = .ok (.iconst 1, 1) := by decide +kernel
theorem dX12_atWorst_35 : decode cX12_atWorst 35 = .ok (.isub, 1) := by decide +kernel
theorem dX12_atWorst_36 : decode cX12_atWorst 36 = .ok (.ireturn, 1) := by decide +kernel
theorem dX12_layWord_0 : decode cX12_layWord 0 = .ok (.iconst 0, 1) := by decide +kernel
theorem dX12_layWord_1 : decode cX12_layWord 1 = .ok (.istore_n 3, 1) := by decide +kernel
theorem dX12_layWord_2 : decode cX12_layWord 2 = .ok (.iload_n 3, 1) := by decide +kernel
theorem dX12_layWord_3 : decode cX12_layWord 3 = .ok (.aload_n 0, 1) := by decide +kernel
theorem dX12_layWord_4 : decode cX12_layWord 4 = .ok (.iload_n 1, 1) := by decide +kernel
theorem dX12_layWord_5 : decode cX12_layWord 5 = .ok (.iconst 2, 1) := by decide +kernel
theorem dX12_layWord_6 : decode cX12_layWord 6 = .ok (.invokevirtual 84, 3) := by decide +kernel
theorem dX12_layWord_9 : decode cX12_layWord 9 = .ok (.if_icmp .ge 18, 3) := by decide +kernel
theorem dX12_layWord_12 : decode cX12_layWord 12 = .ok (.aload_n 2, 1) := by decide +kernel
theorem dX12_layWord_13 : decode cX12_layWord 13 = .ok (.iload_n 3, 1) := by decide +kernel
theorem dX12_layWord_14 : decode cX12_layWord 14 = .ok (.aload_n 0, 1) := by decide +kernel
theorem dX12_layWord_15 : decode cX12_layWord 15 = .ok (.iload_n 1, 1) := by decide +kernel
theorem dX12_layWord_16 : decode cX12_layWord 16 = .ok (.iload_n 3, 1) := by decide +kernel
theorem dX12_layWord_17 : decode cX12_layWord 17 = .ok (.invokevirtual 320, 3) := by decide +kernel
theorem dX12_layWord_20 : decode cX12_layWord 20 = .ok (.iastore, 1) := by decide +kernel
theorem dX12_layWord_21 : decode cX12_layWord 21 = .ok (.iinc 3 1, 3) := by decide +kernel
theorem dX12_layWord_24 : decode cX12_layWord 24 = .ok (.goto (-22), 3) := by decide +kernel
theorem dX12_layWord_27 : decode cX12_layWord 27 = .ok (.aload_n 0, 1) := by decide +kernel
theorem dX12_layWord_28 : decode cX12_layWord 28 = .ok (.iload_n 1, 1) := by decide +kernel
theorem dX12_layWord_29 : decode cX12_layWord 29 = .ok (.iconst 2, 1) := by decide +kernel
theorem dX12_layWord_30 : decode cX12_layWord 30 = .ok (.invokevirtual 84, 3) := by decide +kernel
theorem dX12_layWord_33 : decode cX12_layWord 33 = .ok (.ireturn, 1) := by decide +kernel
theorem dX12_farOf_0 : decode cX12_farOf 0 = .ok (.iconst 0, 1) := by decide +kernel
theorem dX12_farOf_1 : decode cX12_farOf 1 = .ok (.istore_n 3, 1) := by decide +kernel
theorem dX12_farOf_2 : decode cX12_farOf 2 = .ok (.iload_n 3, 1) := by decide +kernel
theorem dX12_farOf_3 : decode cX12_farOf 3 = .ok (.iload_n 1, 1) := by decide +kernel
theorem dX12_farOf_4 : decode cX12_farOf 4 = .ok (.if_icmp .gt 197, 3) := by decide +kernel
theorem dX12_farOf_7 : decode cX12_farOf 7 = .ok (.iconst 0, 1) := by decide +kernel
theorem dX12_farOf_8 : decode cX12_farOf 8 = .ok (.istore 4, 2) := by decide +kernel
theorem dX12_farOf_10 : decode cX12_farOf 10 = .ok (.iload 4, 2) := by decide +kernel
theorem dX12_farOf_12 : decode cX12_farOf 12 = .ok (.iload_n 2, 1) := by decide +kernel
theorem dX12_farOf_13 : decode cX12_farOf 13 = .ok (.if_icmp .gt 182, 3) := by decide +kernel
theorem dX12_farOf_16 : decode cX12_farOf 16 = .ok (.iload_n 3, 1) := by decide +kernel
theorem dX12_farOf_17 : decode cX12_farOf 17 = .ok (.ifCond .ne 8, 3) := by decide +kernel
theorem dX12_farOf_20 : decode cX12_farOf 20 = .ok (.iload 4, 2) := by decide +kernel
theorem dX12_farOf_22 : decode cX12_farOf 22 = .ok (.goto 54, 3) := by decide +kernel
theorem dX12_farOf_25 : decode cX12_farOf 25 = .ok (.iload 4, 2) := by decide +kernel
theorem dX12_farOf_27 : decode cX12_farOf 27 = .ok (.ifCond .ne 7, 3) := by decide +kernel
theorem dX12_farOf_30 : decode cX12_farOf 30 = .ok (.iload_n 3, 1) := by decide +kernel
theorem dX12_farOf_31 : decode cX12_farOf 31 = .ok (.goto 45, 3) := by decide +kernel
theorem dX12_farOf_34 : decode cX12_farOf 34 = .ok (.aload_n 0, 1) := by decide +kernel
theorem dX12_farOf_35 : decode cX12_farOf 35 = .ok (.getfield 64, 3) := by decide +kernel
theorem dX12_farOf_38 : decode cX12_farOf 38 = .ok (.bipush 25, 2) := by decide +kernel
theorem dX12_farOf_40 : decode cX12_farOf 40 = .ok (.iload_n 3, 1) := by decide +kernel
theorem dX12_farOf_41 : decode cX12_farOf 41 = .ok (.iconst 1, 1) := by decide +kernel
theorem dX12_farOf_42 : decode cX12_farOf 42 = .ok (.isub, 1) := by decide +kernel
theorem dX12_farOf_43 : decode cX12_farOf 43 = .ok (.imul, 1) := by decide +kernel
theorem dX12_farOf_44 : decode cX12_farOf 44 = .ok (.iload 4, 2) := by decide +kernel
theorem dX12_farOf_46 : decode cX12_farOf 46 = .ok (.iadd, 1) := by decide +kernel
theorem dX12_farOf_47 : decode cX12_farOf 47 = .ok (.iconst 1, 1) := by decide +kernel
theorem dX12_farOf_48 : decode cX12_farOf 48 = .ok (.isub, 1) := by decide +kernel
theorem dX12_farOf_49 : decode cX12_farOf 49 = .ok (.iaload, 1) := by decide +kernel
theorem dX12_farOf_50 : decode cX12_farOf 50 = .ok (.aload_n 0, 1) := by decide +kernel
theorem dX12_farOf_51 : decode cX12_farOf 51 = .ok (.getfield 58, 3) := by decide +kernel
theorem dX12_farOf_54 : decode cX12_farOf 54 = .ok (.iload_n 3, 1) := by decide +kernel
theorem dX12_farOf_55 : decode cX12_farOf 55 = .ok (.iconst 1, 1) := by decide +kernel
theorem dX12_farOf_56 : decode cX12_farOf 56 = .ok (.isub, 1) := by decide +kernel
theorem dX12_farOf_57 : decode cX12_farOf 57 = .ok (.iaload, 1) := by decide +kernel
theorem dX12_farOf_58 : decode cX12_farOf 58 = .ok (.aload_n 0, 1) := by decide +kernel
theorem dX12_farOf_59 : decode cX12_farOf 59 = .ok (.getfield 61, 3) := by decide +kernel
theorem dX12_farOf_62 : decode cX12_farOf 62 = .ok (.iload 4, 2) := by decide +kernel
theorem dX12_farOf_64 : decode cX12_farOf 64 = .ok (.iconst 1, 1) := by decide +kernel
theorem dX12_farOf_65 : decode cX12_farOf 65 = .ok (.isub, 1) := by decide +kernel
theorem dX12_farOf_66 : decode cX12_farOf 66 = .ok (.iaload, 1) := by decide +kernel
theorem dX12_farOf_67 : decode cX12_farOf 67 = .ok (.if_icmp .ne 7, 3) := by decide +kernel
theorem dX12_farOf_70 : decode cX12_farOf 70 = .ok (.iconst 0, 1) := by decide +kernel
theorem dX12_farOf_71 : decode cX12_farOf 71 = .ok (.goto 4, 3) := by decide +kernel
theorem dX12_farOf_74 : decode cX12_farOf 74 = .ok (.iconst 1, 1) := by decide +kernel
theorem dX12_farOf_75 : decode cX12_farOf 75 = .ok (.iadd, 1) := by decide +kernel
theorem dX12_farOf_76 : decode cX12_farOf 76 = .ok (.istore 5, 2) := by decide +kernel
theorem dX12_farOf_78 : decode cX12_farOf 78 = .ok (.iload_n 3, 1) := by decide +kernel
theorem dX12_farOf_79 : decode cX12_farOf 79 = .ok (.ifCond .le 96, 3) := by decide +kernel
theorem dX12_farOf_82 : decode cX12_farOf 82 = .ok (.iload 4, 2) := by decide +kernel
theorem dX12_farOf_84 : decode cX12_farOf 84 = .ok (.ifCond .le 91, 3) := by decide +kernel
theorem dX12_farOf_87 : decode cX12_farOf 87 = .ok (.aload_n 0, 1) := by decide +kernel
theorem dX12_farOf_88 : decode cX12_farOf 88 = .ok (.getfield 64, 3) := by decide +kernel
theorem dX12_farOf_91 : decode cX12_farOf 91 = .ok (.bipush 25, 2) := by decide +kernel
theorem dX12_farOf_93 : decode cX12_farOf 93 = .ok (.iload_n 3, 1) := by decide +kernel
theorem dX12_farOf_94 : decode cX12_farOf 94 = .ok (.iconst 1, 1) := by decide +kernel
theorem dX12_farOf_95 : decode cX12_farOf 95 = .ok (.isub, 1) := by decide +kernel
theorem dX12_farOf_96 : decode cX12_farOf 96 = .ok (.imul, 1) := by decide +kernel
theorem dX12_farOf_97 : decode cX12_farOf 97 = .ok (.iload 4, 2) := by decide +kernel
theorem dX12_farOf_99 : decode cX12_farOf 99 = .ok (.iadd, 1) := by decide +kernel
theorem dX12_farOf_100 : decode cX12_farOf 100 = .ok (.iaload, 1) := by decide +kernel
theorem dX12_farOf_101 : decode cX12_farOf 101 = .ok (.iconst 1, 1) := by decide +kernel
theorem dX12_farOf_102 : decode cX12_farOf 102 = .ok (.iadd, 1) := by decide +kernel
theorem dX12_farOf_103 : decode cX12_farOf 103 = .ok (.iload 5, 2) := by decide +kernel
theorem dX12_farOf_105 : decode cX12_farOf 105 = .ok (.if_icmp .ge 22, 3) := by decide +kernel
theorem dX12_farOf_108 : decode cX12_farOf 108 = .ok (.aload_n 0, 1) := by decide +kernel
theorem dX12_farOf_109 : decode cX12_farOf 109 = .ok (.getfield 64, 3) := by decide +kernel
theorem dX12_farOf_112 : decode cX12_farOf 112 = .ok (.bipush 25, 2) := by decide +kernel
theorem dX12_farOf_114 : decode cX12_farOf 114 = .ok (.iload_n 3, 1) := by decide +kernel
theorem dX12_farOf_115 : decode cX12_farOf 115 = .ok (.iconst 1, 1) := by decide +kernel
theorem dX12_farOf_116 : decode cX12_farOf 116 = .ok (.isub, 1) := by decide +kernel
theorem dX12_farOf_117 : decode cX12_farOf 117 = .ok (.imul, 1) := by decide +kernel
theorem dX12_farOf_118 : decode cX12_farOf 118 = .ok (.iload 4, 2) := by decide +kernel
theorem dX12_farOf_120 : decode cX12_farOf 120 = .ok (.iadd, 1) := by decide +kernel
theorem dX12_farOf_121 : decode cX12_farOf 121 = .ok (.iaload, 1) := by decide +kernel
theorem dX12_farOf_122 : decode cX12_farOf 122 = .ok (.iconst 1, 1) := by decide +kernel
theorem dX12_farOf_123 : decode cX12_farOf 123 = .ok (.iadd, 1) := by decide +kernel
theorem dX12_farOf_124 : decode cX12_farOf 124 = .ok (.goto 5, 3) := by decide +kernel
theorem dX12_farOf_127 : decode cX12_farOf 127 = .ok (.iload 5, 2) := by decide +kernel
theorem dX12_farOf_129 : decode cX12_farOf 129 = .ok (.istore 5, 2) := by decide +kernel
theorem dX12_farOf_131 : decode cX12_farOf 131 = .ok (.aload_n 0, 1) := by decide +kernel
theorem dX12_farOf_132 : decode cX12_farOf 132 = .ok (.getfield 64, 3) := by decide +kernel
theorem dX12_farOf_135 : decode cX12_farOf 135 = .ok (.bipush 25, 2) := by decide +kernel
theorem dX12_farOf_137 : decode cX12_farOf 137 = .ok (.iload_n 3, 1) := by decide +kernel
theorem dX12_farOf_138 : decode cX12_farOf 138 = .ok (.imul, 1) := by decide +kernel
theorem dX12_farOf_139 : decode cX12_farOf 139 = .ok (.iload 4, 2) := by decide +kernel
theorem dX12_farOf_141 : decode cX12_farOf 141 = .ok (.iadd, 1) := by decide +kernel
theorem dX12_farOf_142 : decode cX12_farOf 142 = .ok (.iconst 1, 1) := by decide +kernel
theorem dX12_farOf_143 : decode cX12_farOf 143 = .ok (.isub, 1) := by decide +kernel
theorem dX12_farOf_144 : decode cX12_farOf 144 = .ok (.iaload, 1) := by decide +kernel
theorem dX12_farOf_145 : decode cX12_farOf 145 = .ok (.iconst 1, 1) := by decide +kernel
theorem dX12_farOf_146 : decode cX12_farOf 146 = .ok (.iadd, 1) := by decide +kernel
theorem dX12_farOf_147 : decode cX12_farOf 147 = .ok (.iload 5, 2) := by decide +kernel
theorem dX12_farOf_149 : decode cX12_farOf 149 = .ok (.if_icmp .ge 22, 3) := by decide +kernel
theorem dX12_farOf_152 : decode cX12_farOf 152 = .ok (.aload_n 0, 1) := by decide +kernel
theorem dX12_farOf_153 : decode cX12_farOf 153 = .ok (.getfield 64, 3) := by decide +kernel
theorem dX12_farOf_156 : decode cX12_farOf 156 = .ok (.bipush 25, 2) := by decide +kernel
theorem dX12_farOf_158 : decode cX12_farOf 158 = .ok (.iload_n 3, 1) := by decide +kernel
theorem dX12_farOf_159 : decode cX12_farOf 159 = .ok (.imul, 1) := by decide +kernel
theorem dX12_farOf_160 : decode cX12_farOf 160 = .ok (.iload 4, 2) := by decide +kernel
theorem dX12_farOf_162 : decode cX12_farOf 162 = .ok (.iadd, 1) := by decide +kernel
theorem dX12_farOf_163 : decode cX12_farOf 163 = .ok (.iconst 1, 1) := by decide +kernel
theorem dX12_farOf_164 : decode cX12_farOf 164 = .ok (.isub, 1) := by decide +kernel
theorem dX12_farOf_165 : decode cX12_farOf 165 = .ok (.iaload, 1) := by decide +kernel
theorem dX12_farOf_166 : decode cX12_farOf 166 = .ok (.iconst 1, 1) := by decide +kernel
theorem dX12_farOf_167 : decode cX12_farOf 167 = .ok (.iadd, 1) := by decide +kernel
theorem dX12_farOf_168 : decode cX12_farOf 168 = .ok (.goto 5, 3) := by decide +kernel
theorem dX12_farOf_171 : decode cX12_farOf 171 = .ok (.iload 5, 2) := by decide +kernel
theorem dX12_farOf_173 : decode cX12_farOf 173 = .ok (.istore 5, 2) := by decide +kernel
theorem dX12_farOf_175 : decode cX12_farOf 175 = .ok (.aload_n 0, 1) := by decide +kernel
theorem dX12_farOf_176 : decode cX12_farOf 176 = .ok (.getfield 64, 3) := by decide +kernel
theorem dX12_farOf_179 : decode cX12_farOf 179 = .ok (.bipush 25, 2) := by decide +kernel
theorem dX12_farOf_181 : decode cX12_farOf 181 = .ok (.iload_n 3, 1) := by decide +kernel
theorem dX12_farOf_182 : decode cX12_farOf 182 = .ok (.imul, 1) := by decide +kernel
theorem dX12_farOf_183 : decode cX12_farOf 183 = .ok (.iload 4, 2) := by decide +kernel
theorem dX12_farOf_185 : decode cX12_farOf 185 = .ok (.iadd, 1) := by decide +kernel
theorem dX12_farOf_186 : decode cX12_farOf 186 = .ok (.iload 5, 2) := by decide +kernel
theorem dX12_farOf_188 : decode cX12_farOf 188 = .ok (.iastore, 1) := by decide +kernel
theorem dX12_farOf_189 : decode cX12_farOf 189 = .ok (.iinc 4 1, 3) := by decide +kernel
theorem dX12_farOf_192 : decode cX12_farOf 192 = .ok (.goto (-182), 3) := by decide +kernel
theorem dX12_farOf_195 : decode cX12_farOf 195 = .ok (.iinc 3 1, 3) := by decide +kernel
theorem dX12_farOf_198 : decode cX12_farOf 198 = .ok (.goto (-196), 3) := by decide +kernel
theorem dX12_farOf_201 : decode cX12_farOf 201 = .ok (.aload_n 0, 1) := by decide +kernel
theorem dX12_farOf_202 : decode cX12_farOf 202 = .ok (.getfield 64, 3) := by decide +kernel
theorem dX12_farOf_205 : decode cX12_farOf 205 = .ok (.bipush 25, 2) := by decide +kernel
theorem dX12_farOf_207 : decode cX12_farOf 207 = .ok (.iload_n 1, 1) := by decide +kernel
theorem dX12_farOf_208 : decode cX12_farOf 208 = .ok (.imul, 1) := by decide +kernel
theorem dX12_farOf_209 : decode cX12_farOf 209 = .ok (.iload_n 2, 1) := by decide +kernel
theorem dX12_farOf_210 : decode cX12_farOf 210 = .ok (.iadd, 1) := by decide +kernel
theorem dX12_farOf_211 : decode cX12_farOf 211 = .ok (.iaload, 1) := by decide +kernel
theorem dX12_farOf_212 : decode cX12_farOf 212 = .ok (.ireturn, 1) := by decide +kernel
theorem dX12_away_0 : decode cX12_away 0 = .ok (.aload_n 0, 1) := by decide +kernel
theorem dX12_away_1 : decode cX12_away 1 = .ok (.iload_n 1, 1) := by decide +kernel
theorem dX12_away_2 : decode cX12_away 2 = .ok (.invokevirtual 326, 3) := by decide +kernel
theorem dX12_away_5 : decode cX12_away 5 = .ok (.ifCond .eq 36, 3) := by decide +kernel
theorem dX12_away_8 : decode cX12_away 8 = .ok (.aload_n 0, 1) := by decide +kernel
theorem dX12_away_9 : decode cX12_away 9 = .ok (.iload_n 2, 1) := by decide +kernel
theorem dX12_away_10 : decode cX12_away 10 = .ok (.invokevirtual 326, 3) := by decide +kernel
theorem dX12_away_13 : decode cX12_away 13 = .ok (.ifCond .eq 28, 3) := by decide +kernel
theorem dX12_away_16 : decode cX12_away 16 = .ok (.aload_n 0, 1) := by decide +kernel
theorem dX12_away_17 : decode cX12_away 17 = .ok (.aload_n 0, 1) := by decide +kernel
theorem dX12_away_18 : decode cX12_away 18 = .ok (.iload_n 1, 1) := by decide +kernel
theorem dX12_away_19 : decode cX12_away 19 = .ok (.aload_n 0, 1) := by decide +kernel
theorem dX12_away_20 : decode cX12_away 20 = .ok (.getfield 58, 3) := by decide +kernel
theorem dX12_away_23 : decode cX12_away 23 = .ok (.invokevirtual 435, 3) := by decide +kernel
theorem dX12_away_26 : decode cX12_away 26 = .ok (.aload_n 0, 1) := by decide +kernel
theorem dX12_away_27 : decode cX12_away 27 = .ok (.iload_n 2, 1) := by decide +kernel
theorem dX12_away_28 : decode cX12_away 28 = .ok (.aload_n 0, 1) := by decide +kernel
theorem dX12_away_29 : decode cX12_away 29 = .ok (.getfield 61, 3) := by decide +kernel
theorem dX12_away_32 : decode cX12_away 32 = .ok (.invokevirtual 435, 3) := by decide +kernel
theorem dX12_away_35 : decode cX12_away 35 = .ok (.invokevirtual 439, 3) := by decide +kernel
theorem dX12_away_38 : decode cX12_away 38 = .ok (.goto 4, 3) := by decide +kernel
theorem dX12_away_41 : decode cX12_away 41 = .ok (.iconst (-1), 1) := by decide +kernel
theorem dX12_away_42 : decode cX12_away 42 = .ok (.ireturn, 1) := by decide +kernel
theorem dX12_apart_0 : decode cX12_apart 0 = .ok (.iload_n 1, 1) := by decide +kernel
theorem dX12_apart_1 : decode cX12_apart 1 = .ok (.iconst 1, 1) := by decide +kernel
theorem dX12_apart_2 : decode cX12_apart 2 = .ok (.iconst 4, 1) := by decide +kernel
theorem dX12_apart_3 : decode cX12_apart 3 = .ok (.invokestatic 80, 3) := by decide +kernel
theorem dX12_apart_6 : decode cX12_apart 6 = .ok (.ifCond .ne 5, 3) := by decide +kernel
theorem dX12_apart_9 : decode cX12_apart 9 = .ok (.iconst (-1), 1) := by decide +kernel
theorem dX12_apart_10 : decode cX12_apart 10 = .ok (.ireturn, 1) := by decide +kernel
theorem dX12_apart_11 : decode cX12_apart 11 = .ok (.iconst 0, 1) := by decide +kernel
theorem dX12_apart_12 : decode cX12_apart 12 = .ok (.istore_n 2, 1) := by decide +kernel
theorem dX12_apart_13 : decode cX12_apart 13 = .ok (.iconst 0, 1) := by decide +kernel
theorem dX12_apart_14 : decode cX12_apart 14 = .ok (.istore_n 3, 1) := by decide +kernel
theorem dX12_apart_15 : decode cX12_apart 15 = .ok (.iload_n 3, 1) := by decide +kernel
theorem dX12_apart_16 : decode cX12_apart 16 = .ok (.iconst 1, 1) := by decide +kernel
theorem dX12_apart_17 : decode cX12_apart 17 = .ok (.aload_n 0, 1) := by decide +kernel
theorem dX12_apart_18 : decode cX12_apart 18 = .ok (.getfield 7, 3) := by decide +kernel
theorem dX12_apart_21 : decode cX12_apart 21 = .ok (.iconst 1, 1) := by decide +kernel
theorem dX12_apart_22 : decode cX12_apart 22 = .ok (.iaload, 1) := by decide +kernel
theorem dX12_apart_23 : decode cX12_apart 23 = .ok (.ishl, 1) := by decide +kernel
theorem dX12_apart_24 : decode cX12_apart 24 = .ok (.if_icmp .ge 117, 3) := by decide +kernel
theorem dX12_apart_27 : decode cX12_apart 27 = .ok (.iload_n 3, 1) := by decide +kernel
theorem dX12_apart_28 : decode cX12_apart 28 = .ok (.invokestatic 442, 3) := by decide +kernel
theorem dX12_apart_31 : decode cX12_apart 31 = .ok (.iload_n 2, 1) := by decide +kernel
theorem dX12_apart_32 : decode cX12_apart 32 = .ok (.invokestatic 442, 3) := by decide +kernel
theorem dX12_apart_35 : decode cX12_apart 35 = .ok (.if_icmp .le 7, 3) := by decide +kernel
theorem dX12_apart_38 : decode cX12_apart 38 = .ok (.iconst 1, 1) := by decide +kernel
theorem dX12_apart_39 : decode cX12_apart 39 = .ok (.goto 4, 3) := by decide +kernel
theorem dX12_apart_42 : decode cX12_apart 42 = .ok (.iconst 0, 1) := by decide +kernel
theorem dX12_apart_43 : decode cX12_apart 43 = .ok (.istore 4, 2) := by decide +kernel
theorem dX12_apart_45 : decode cX12_apart 45 = .ok (.iconst 0, 1) := by decide +kernel
theorem dX12_apart_46 : decode cX12_apart 46 = .ok (.istore 5, 2) := by decide +kernel
theorem dX12_apart_48 : decode cX12_apart 48 = .ok (.iload 5, 2) := by decide +kernel
theorem dX12_apart_50 : decode cX12_apart 50 = .ok (.aload_n 0, 1) := by decide +kernel
theorem dX12_apart_51 : decode cX12_apart 51 = .ok (.getfield 7, 3) := by decide +kernel
theorem dX12_apart_54 : decode cX12_apart 54 = .ok (.iconst 1, 1) := by decide +kernel
theorem dX12_apart_55 : decode cX12_apart 55 = .ok (.iaload, 1) := by decide +kernel
theorem dX12_apart_56 : decode cX12_apart 56 = .ok (.if_icmp .ge 72, 3) := by decide +kernel
theorem dX12_apart_59 : decode cX12_apart 59 = .ok (.iload 4, 2) := by decide +kernel
theorem dX12_apart_61 : decode cX12_apart 61 = .ok (.ifCond .eq 67, 3) := by decide +kernel
theorem dX12_apart_64 : decode cX12_apart 64 = .ok (.iconst 0, 1) := by decide +kernel
theorem dX12_apart_65 : decode cX12_apart 65 = .ok (.istore 6, 2) := by decide +kernel
theorem dX12_apart_67 : decode cX12_apart 67 = .ok (.iload 6, 2) := by decide +kernel
theorem dX12_apart_69 : decode cX12_apart 69 = .ok (.iload 5, 2) := by decide +kernel
theorem dX12_apart_71 : decode cX12_apart 71 = .ok (.if_icmp .ge 51, 3) := by decide +kernel
theorem dX12_apart_74 : decode cX12_apart 74 = .ok (.iload 4, 2) := by decide +kernel
theorem dX12_apart_76 : decode cX12_apart 76 = .ok (.ifCond .eq 46, 3) := by decide +kernel
theorem dX12_apart_79 : decode cX12_apart 79 = .ok (.iload_n 3, 1) := by decide +kernel
theorem dX12_apart_80 : decode cX12_apart 80 = .ok (.iload 5, 2) := by decide +kernel
theorem dX12_apart_82 : decode cX12_apart 82 = .ok (.invokestatic 261, 3) := by decide +kernel
theorem dX12_apart_85 : decode cX12_apart 85 = .ok (.ifCond .eq 24, 3) := by decide +kernel
theorem dX12_apart_88 : decode cX12_apart 88 = .ok (.iload_n 3, 1) := by decide +kernel
theorem dX12_apart_89 : decode cX12_apart 89 = .ok (.iload 6, 2) := by decide +kernel
theorem dX12_apart_91 : decode cX12_apart 91 = .ok (.invokestatic 261, 3) := by decide +kernel
theorem dX12_apart_94 : decode cX12_apart 94 = .ok (.ifCond .eq 15, 3) := by decide +kernel
theorem dX12_apart_97 : decode cX12_apart 97 = .ok (.aload_n 0, 1) := by decide +kernel
theorem dX12_apart_98 : decode cX12_apart 98 = .ok (.iload 5, 2) := by decide +kernel
theorem dX12_apart_100 : decode cX12_apart 100 = .ok (.iload 6, 2) := by decide +kernel
theorem dX12_apart_102 : decode cX12_apart 102 = .ok (.invokevirtual 445, 3) := by decide +kernel
theorem dX12_apart_105 : decode cX12_apart 105 = .ok (.iload_n 1, 1) := by decide +kernel
theorem dX12_apart_106 : decode cX12_apart 106 = .ok (.if_icmp .lt 7, 3) := by decide +kernel
theorem dX12_apart_109 : decode cX12_apart 109 = .ok (.iconst 1, 1) := by decide +kernel
theorem dX12_apart_110 : decode cX12_apart 110 = .ok (.goto 4, 3) := by decide +kernel
theorem dX12_apart_113 : decode cX12_apart 113 = .ok (.iconst 0, 1) := by decide +kernel
theorem dX12_apart_114 : decode cX12_apart 114 = .ok (.istore 4, 2) := by decide +kernel
theorem dX12_apart_116 : decode cX12_apart 116 = .ok (.iinc 6 1, 3) := by decide +kernel
theorem dX12_apart_119 : decode cX12_apart 119 = .ok (.goto (-52), 3) := by decide +kernel
theorem dX12_apart_122 : decode cX12_apart 122 = .ok (.iinc 5 1, 3) := by decide +kernel
theorem dX12_apart_125 : decode cX12_apart 125 = .ok (.goto (-77), 3) := by decide +kernel
theorem dX12_apart_128 : decode cX12_apart 128 = .ok (.iload 4, 2) := by decide +kernel
theorem dX12_apart_130 : decode cX12_apart 130 = .ok (.ifCond .eq 5, 3) := by decide +kernel
theorem dX12_apart_133 : decode cX12_apart 133 = .ok (.iload_n 3, 1) := by decide +kernel
theorem dX12_apart_134 : decode cX12_apart 134 = .ok (.istore_n 2, 1) := by decide +kernel
theorem dX12_apart_135 : decode cX12_apart 135 = .ok (.iinc 3 1, 3) := by decide +kernel
theorem dX12_apart_138 : decode cX12_apart 138 = .ok (.goto (-123), 3) := by decide +kernel
theorem dX12_apart_141 : decode cX12_apart 141 = .ok (.iload_n 2, 1) := by decide +kernel
theorem dX12_apart_142 : decode cX12_apart 142 = .ok (.ireturn, 1) := by decide +kernel
theorem dX12_nearest_0 : decode cX12_nearest 0 = .ok (.aload_n 0, 1) := by decide +kernel
theorem dX12_nearest_1 : decode cX12_nearest 1 = .ok (.invokevirtual 353, 3) := by decide +kernel
theorem dX12_nearest_4 : decode cX12_nearest 4 = .ok (.istore_n 1, 1) := by decide +kernel
theorem dX12_nearest_5 : decode cX12_nearest 5 = .ok (.iconst 0, 1) := by decide +kernel
theorem dX12_nearest_6 : decode cX12_nearest 6 = .ok (.istore_n 2, 1) := by decide +kernel
theorem dX12_nearest_7 : decode cX12_nearest 7 = .ok (.iload_n 2, 1) := by decide +kernel
theorem dX12_nearest_8 : decode cX12_nearest 8 = .ok (.iload_n 1, 1) := by decide +kernel
theorem dX12_nearest_9 : decode cX12_nearest 9 = .ok (.if_icmp .ge 21, 3) := by decide +kernel
theorem dX12_nearest_12 : decode cX12_nearest 12 = .ok (.aload_n 0, 1) := by decide +kernel
theorem dX12_nearest_13 : decode cX12_nearest 13 = .ok (.getfield 61, 3) := by decide +kernel
theorem dX12_nearest_16 : decode cX12_nearest 16 = .ok (.iload_n 2, 1) := by decide +kernel
theorem dX12_nearest_17 : decode cX12_nearest 17 = .ok (.aload_n 0, 1) := by decide +kernel
theorem dX12_nearest_18 : decode cX12_nearest 18 = .ok (.getfield 46, 3) := by decide +kernel
theorem dX12_nearest_21 : decode cX12_nearest 21 = .ok (.iload_n 2, 1) := by decide +kernel
theorem dX12_nearest_22 : decode cX12_nearest 22 = .ok (.iaload, 1) := by decide +kernel
theorem dX12_nearest_23 : decode cX12_nearest 23 = .ok (.iastore, 1) := by decide +kernel
theorem dX12_nearest_24 : decode cX12_nearest 24 = .ok (.iinc 2 1, 3) := by decide +kernel
theorem dX12_nearest_27 : decode cX12_nearest 27 = .ok (.goto (-20), 3) := by decide +kernel
theorem dX12_nearest_30 : decode cX12_nearest 30 = .ok (.ldc_w 448, 3) := by decide +kernel
theorem dX12_nearest_33 : decode cX12_nearest 33 = .ok (.istore_n 2, 1) := by decide +kernel
theorem dX12_nearest_34 : decode cX12_nearest 34 = .ok (.iconst 0, 1) := by decide +kernel
theorem dX12_nearest_35 : decode cX12_nearest 35 = .ok (.istore_n 3, 1) := by decide +kernel
theorem dX12_nearest_36 : decode cX12_nearest 36 = .ok (.iconst 0, 1) := by decide +kernel
theorem dX12_nearest_37 : decode cX12_nearest 37 = .ok (.istore 4, 2) := by decide +kernel
theorem dX12_nearest_39 : decode cX12_nearest 39 = .ok (.iload 4, 2) := by decide +kernel
theorem dX12_nearest_41 : decode cX12_nearest 41 = .ok (.aload_n 0, 1) := by decide +kernel
theorem dX12_nearest_42 : decode cX12_nearest 42 = .ok (.getfield 7, 3) := by decide +kernel
theorem dX12_nearest_45 : decode cX12_nearest 45 = .ok (.iconst 1, 1) := by decide +kernel
theorem dX12_nearest_46 : decode cX12_nearest 46 = .ok (.iaload, 1) := by decide +kernel
theorem dX12_nearest_47 : decode cX12_nearest 47 = .ok (.if_icmp .ge 64, 3) := by decide +kernel
theorem dX12_nearest_50 : decode cX12_nearest 50 = .ok (.aload_n 0, 1) := by decide +kernel
theorem dX12_nearest_51 : decode cX12_nearest 51 = .ok (.aload_n 0, 1) := by decide +kernel
theorem dX12_nearest_52 : decode cX12_nearest 52 = .ok (.iload 4, 2) := by decide +kernel
theorem dX12_nearest_54 : decode cX12_nearest 54 = .ok (.aload_n 0, 1) := by decide +kernel
theorem dX12_nearest_55 : decode cX12_nearest 55 = .ok (.getfield 58, 3) := by decide +kernel
theorem dX12_nearest_58 : decode cX12_nearest 58 = .ok (.invokevirtual 435, 3) := by decide +kernel
theorem dX12_nearest_61 : decode cX12_nearest 61 = .ok (.iload_n 1, 1) := by decide +kernel
theorem dX12_nearest_62 : decode cX12_nearest 62 = .ok (.invokevirtual 439, 3) := by decide +kernel
theorem dX12_nearest_65 : decode cX12_nearest 65 = .ok (.istore 5, 2) := by decide +kernel
theorem dX12_nearest_67 : decode cX12_nearest 67 = .ok (.iload 5, 2) := by decide +kernel
theorem dX12_nearest_69 : decode cX12_nearest 69 = .ok (.iload_n 2, 1) := by decide +kernel
theorem dX12_nearest_70 : decode cX12_nearest 70 = .ok (.if_icmp .ge 5, 3) := by decide +kernel
theorem dX12_nearest_73 : decode cX12_nearest 73 = .ok (.iconst 0, 1) := by decide +kernel
theorem dX12_nearest_74 : decode cX12_nearest 74 = .ok (.istore_n 3, 1) := by decide +kernel
theorem dX12_nearest_75 : decode cX12_nearest 75 = .ok (.iload 5, 2) := by decide +kernel
theorem dX12_nearest_77 : decode cX12_nearest 77 = .ok (.iload_n 2, 1) := by decide +kernel
theorem dX12_nearest_78 : decode cX12_nearest 78 = .ok (.if_icmp .ge 8, 3) := by decide +kernel
theorem dX12_nearest_81 : decode cX12_nearest 81 = .ok (.iload 5, 2) := by decide +kernel
theorem dX12_nearest_83 : decode cX12_nearest 83 = .ok (.goto 4, 3) := by decide +kernel
theorem dX12_nearest_86 : decode cX12_nearest 86 = .ok (.iload_n 2, 1) := by decide +kernel
theorem dX12_nearest_87 : decode cX12_nearest 87 = .ok (.istore_n 2, 1) := by decide +kernel
theorem dX12_nearest_88 : decode cX12_nearest 88 = .ok (.iload_n 3, 1) := by decide +kernel
theorem dX12_nearest_89 : decode cX12_nearest 89 = .ok (.iload 5, 2) := by decide +kernel
theorem dX12_nearest_91 : decode cX12_nearest 91 = .ok (.iload_n 2, 1) := by decide +kernel
theorem dX12_nearest_92 : decode cX12_nearest 92 = .ok (.if_icmp .ne 10, 3) := by decide +kernel
theorem dX12_nearest_95 : decode cX12_nearest 95 = .ok (.iconst 1, 1) := by decide +kernel
theorem dX12_nearest_96 : decode cX12_nearest 96 = .ok (.iload 4, 2) := by decide +kernel
theorem dX12_nearest_98 : decode cX12_nearest 98 = .ok (.ishl, 1) := by decide +kernel
theorem dX12_nearest_99 : decode cX12_nearest 99 = .ok (.goto 4, 3) := by decide +kernel
theorem dX12_nearest_102 : decode cX12_nearest 102 = .ok (.iconst 0, 1) := by decide +kernel
theorem dX12_nearest_103 : decode cX12_nearest 103 = .ok (.ior, 1) := by decide +kernel
theorem dX12_nearest_104 : decode cX12_nearest 104 = .ok (.istore_n 3, 1) := by decide +kernel
theorem dX12_nearest_105 : decode cX12_nearest 105 = .ok (.iinc 4 1, 3) := by decide +kernel
theorem dX12_nearest_108 : decode cX12_nearest 108 = .ok (.goto (-69), 3) := by decide +kernel
theorem dX12_nearest_111 : decode cX12_nearest 111 = .ok (.iload_n 3, 1) := by decide +kernel
theorem dX12_nearest_112 : decode cX12_nearest 112 = .ok (.ireturn, 1) := by decide +kernel
theorem dX12_hears_0 : decode cX12_hears 0 = .ok (.aload_n 0, 1) := by decide +kernel
theorem dX12_hears_1 : decode cX12_hears 1 = .ok (.iload_n 1, 1) := by decide +kernel
theorem dX12_hears_2 : decode cX12_hears 2 = .ok (.invokevirtual 326, 3) := by decide +kernel
theorem dX12_hears_5 : decode cX12_hears 5 = .ok (.ifCond .eq 11, 3) := by decide +kernel
theorem dX12_hears_8 : decode cX12_hears 8 = .ok (.aload_n 0, 1) := by decide +kernel
theorem dX12_hears_9 : decode cX12_hears 9 = .ok (.iload_n 2, 1) := by decide +kernel
theorem dX12_hears_10 : decode cX12_hears 10 = .ok (.invokevirtual 326, 3) := by decide +kernel
theorem dX12_hears_13 : decode cX12_hears 13 = .ok (.ifCond .ne 5, 3) := by decide +kernel
theorem dX12_hears_16 : decode cX12_hears 16 = .ok (.iconst 0, 1) := by decide +kernel
theorem dX12_hears_17 : decode cX12_hears 17 = .ok (.ireturn, 1) := by decide +kernel
theorem dX12_hears_18 : decode cX12_hears 18 = .ok (.aload_n 0, 1) := by decide +kernel
theorem dX12_hears_19 : decode cX12_hears 19 = .ok (.getfield 7, 3) := by decide +kernel
theorem dX12_hears_22 : decode cX12_hears 22 = .ok (.bipush 34, 2) := by decide +kernel
theorem dX12_hears_24 : decode cX12_hears 24 = .ok (.bipush 9, 2) := by decide +kernel
theorem dX12_hears_26 : decode cX12_hears 26 = .ok (.iload_n 1, 1) := by decide +kernel
theorem dX12_hears_27 : decode cX12_hears 27 = .ok (.imul, 1) := by decide +kernel
theorem dX12_hears_28 : decode cX12_hears 28 = .ok (.iadd, 1) := by decide +kernel
theorem dX12_hears_29 : decode cX12_hears 29 = .ok (.bipush 8, 2) := by decide +kernel
theorem dX12_hears_31 : decode cX12_hears 31 = .ok (.iadd, 1) := by decide +kernel
theorem dX12_hears_32 : decode cX12_hears 32 = .ok (.iload_n 2, 1) := by decide +kernel
theorem dX12_hears_33 : decode cX12_hears 33 = .ok (.iastore, 1) := by decide +kernel
theorem dX12_hears_34 : decode cX12_hears 34 = .ok (.iconst 1, 1) := by decide +kernel
theorem dX12_hears_35 : decode cX12_hears 35 = .ok (.ireturn, 1) := by decide +kernel
theorem dX12_settles_0 : decode cX12_settles 0 = .ok (.aload_n 0, 1) := by decide +kernel
theorem dX12_settles_1 : decode cX12_settles 1 = .ok (.iload_n 1, 1) := by decide +kernel
theorem dX12_settles_2 : decode cX12_settles 2 = .ok (.invokevirtual 326, 3) := by decide +kernel
theorem dX12_settles_5 : decode cX12_settles 5 = .ok (.ifCond .eq 12, 3) := by decide +kernel
theorem dX12_settles_8 : decode cX12_settles 8 = .ok (.iload_n 2, 1) := by decide +kernel
theorem dX12_settles_9 : decode cX12_settles 9 = .ok (.iconst 0, 1) := by decide +kernel
theorem dX12_settles_10 : decode cX12_settles 10 = .ok (.iconst 2, 1) := by decide +kernel
theorem dX12_settles_11 : decode cX12_settles 11 = .ok (.invokestatic 80, 3) := by decide +kernel
theorem dX12_settles_14 : decode cX12_settles 14 = .ok (.ifCond .ne 5, 3) := by decide +kernel
theorem dX12_settles_17 : decode cX12_settles 17 = .ok (.iconst (-1), 1) := by decide +kernel
theorem dX12_settles_18 : decode cX12_settles 18 = .ok (.ireturn, 1) := by decide +kernel
theorem dX12_settles_19 : decode cX12_settles 19 = .ok (.iconst 0, 1) := by decide +kernel
theorem dX12_settles_20 : decode cX12_settles 20 = .ok (.istore_n 3, 1) := by decide +kernel
theorem dX12_settles_21 : decode cX12_settles 21 = .ok (.iload_n 3, 1) := by decide +kernel
theorem dX12_settles_22 : decode cX12_settles 22 = .ok (.bipush 10, 2) := by decide +kernel
theorem dX12_settles_24 : decode cX12_settles 24 = .ok (.if_icmp .ge 16, 3) := by decide +kernel
theorem dX12_settles_27 : decode cX12_settles 27 = .ok (.aload_n 0, 1) := by decide +kernel
theorem dX12_settles_28 : decode cX12_settles 28 = .ok (.getfield 67, 3) := by decide +kernel
theorem dX12_settles_31 : decode cX12_settles 31 = .ok (.iload_n 3, 1) := by decide +kernel
theorem dX12_settles_32 : decode cX12_settles 32 = .ok (.iconst (-1), 1) := by decide +kernel
theorem dX12_settles_33 : decode cX12_settles 33 = .ok (.iastore, 1) := by decide +kernel
theorem dX12_settles_34 : decode cX12_settles 34 = .ok (.iinc 3 1, 3) := by decide +kernel
theorem dX12_settles_37 : decode cX12_settles 37 = .ok (.goto (-16), 3) := by decide +kernel
theorem dX12_settles_40 : decode cX12_settles 40 = .ok (.iconst 0, 1) := by decide +kernel
theorem dX12_settles_41 : decode cX12_settles 41 = .ok (.istore_n 3, 1) := by decide +kernel
theorem dX12_settles_42 : decode cX12_settles 42 = .ok (.iload_n 1, 1) := by decide +kernel
theorem dX12_settles_43 : decode cX12_settles 43 = .ok (.istore 4, 2) := by decide +kernel
theorem dX12_settles_45 : decode cX12_settles 45 = .ok (.aload_n 0, 1) := by decide +kernel
theorem dX12_settles_46 : decode cX12_settles 46 = .ok (.getfield 67, 3) := by decide +kernel
theorem dX12_settles_49 : decode cX12_settles 49 = .ok (.iload 4, 2) := by decide +kernel
theorem dX12_settles_51 : decode cX12_settles 51 = .ok (.iaload, 1) := by decide +kernel
theorem dX12_settles_52 : decode cX12_settles 52 = .ok (.iconst (-1), 1) := by decide +kernel
theorem dX12_settles_53 : decode cX12_settles 53 = .ok (.if_icmp .ne 27, 3) := by decide +kernel
theorem dX12_settles_56 : decode cX12_settles 56 = .ok (.aload_n 0, 1) := by decide +kernel
theorem dX12_settles_57 : decode cX12_settles 57 = .ok (.getfield 67, 3) := by decide +kernel
theorem dX12_settles_60 : decode cX12_settles 60 = .ok (.iload 4, 2) := by decide +kernel
theorem dX12_settles_62 : decode cX12_settles 62 = .ok (.iload_n 3, 1) := by decide +kernel
theorem dX12_settles_63 : decode cX12_settles 63 = .ok (.iastore, 1) := by decide +kernel
theorem dX12_settles_64 : decode cX12_settles 64 = .ok (.iinc 3 1, 3) := by decide +kernel
theorem dX12_settles_67 : decode cX12_settles 67 = .ok (.aload_n 0, 1) := by decide +kernel
theorem dX12_settles_68 : decode cX12_settles 68 = .ok (.iload 4, 2) := by decide +kernel
theorem dX12_settles_70 : decode cX12_settles 70 = .ok (.bipush 8, 2) := by decide +kernel
theorem dX12_settles_72 : decode cX12_settles 72 = .ok (.invokevirtual 84, 3) := by decide +kernel
theorem dX12_settles_75 : decode cX12_settles 75 = .ok (.istore 4, 2) := by decide +kernel
theorem dX12_settles_77 : decode cX12_settles 77 = .ok (.goto (-32), 3) := by decide +kernel
theorem dX12_settles_80 : decode cX12_settles 80 = .ok (.iload_n 2, 1) := by decide +kernel
theorem dX12_settles_81 : decode cX12_settles 81 = .ok (.iconst 2, 1) := by decide +kernel
theorem dX12_settles_82 : decode cX12_settles 82 = .ok (.if_icmp .ge 21, 3) := by decide +kernel
theorem dX12_settles_85 : decode cX12_settles 85 = .ok (.iload_n 2, 1) := by decide +kernel
theorem dX12_settles_86 : decode cX12_settles 86 = .ok (.ifCond .ne 7, 3) := by decide +kernel
theorem dX12_settles_89 : decode cX12_settles 89 = .ok (.iload_n 3, 1) := by decide +kernel
theorem dX12_settles_90 : decode cX12_settles 90 = .ok (.goto 12, 3) := by decide +kernel
theorem dX12_settles_93 : decode cX12_settles 93 = .ok (.iload_n 3, 1) := by decide +kernel
theorem dX12_settles_94 : decode cX12_settles 94 = .ok (.aload_n 0, 1) := by decide +kernel
theorem dX12_settles_95 : decode cX12_settles 95 = .ok (.getfield 67, 3) := by decide +kernel
theorem dX12_settles_98 : decode cX12_settles 98 = .ok (.iload 4, 2) := by decide +kernel
theorem dX12_settles_100 : decode cX12_settles 100 = .ok (.iaload, 1) := by decide +kernel
theorem dX12_settles_101 : decode cX12_settles 101 = .ok (.isub, 1) := by decide +kernel
theorem dX12_settles_102 : decode cX12_settles 102 = .ok (.ireturn, 1) := by decide +kernel
theorem dX12_settles_103 : decode cX12_settles 103 = .ok (.iconst 0, 1) := by decide +kernel
theorem dX12_settles_104 : decode cX12_settles 104 = .ok (.istore 5, 2) := by decide +kernel
theorem dX12_settles_106 : decode cX12_settles 106 = .ok (.aload_n 0, 1) := by decide +kernel
theorem dX12_settles_107 : decode cX12_settles 107 = .ok (.getfield 67, 3) := by decide +kernel
theorem dX12_settles_110 : decode cX12_settles 110 = .ok (.iload 5, 2) := by decide +kernel
theorem dX12_settles_112 : decode cX12_settles 112 = .ok (.iaload, 1) := by decide +kernel
theorem dX12_settles_113 : decode cX12_settles 113 = .ok (.aload_n 0, 1) := by decide +kernel
theorem dX12_settles_114 : decode cX12_settles 114 = .ok (.getfield 67, 3) := by decide +kernel
theorem dX12_settles_117 : decode cX12_settles 117 = .ok (.iload 4, 2) := by decide +kernel
theorem dX12_settles_119 : decode cX12_settles 119 = .ok (.iaload, 1) := by decide +kernel
theorem dX12_settles_120 : decode cX12_settles 120 = .ok (.if_icmp .ge 9, 3) := by decide +kernel
theorem dX12_settles_123 : decode cX12_settles 123 = .ok (.iinc 5 1, 3) := by decide +kernel
theorem dX12_settles_126 : decode cX12_settles 126 = .ok (.goto (-20), 3) := by decide +kernel
theorem dX12_settles_129 : decode cX12_settles 129 = .ok (.iload 5, 2) := by decide +kernel
theorem dX12_settles_131 : decode cX12_settles 131 = .ok (.ireturn, 1) := by decide +kernel
theorem dX12_line_0 : decode cX12_line 0 = .ok (.iload_n 1, 1) := by decide +kernel
theorem dX12_line_1 : decode cX12_line 1 = .ok (.iconst (-1), 1) := by decide +kernel
theorem dX12_line_2 : decode cX12_line 2 = .ok (.if_icmp .ne 12, 3) := by decide +kernel
theorem dX12_line_5 : decode cX12_line 5 = .ok (.aload_n 0, 1) := by decide +kernel
theorem dX12_line_6 : decode cX12_line 6 = .ok (.getfield 7, 3) := by decide +kernel
theorem dX12_line_9 : decode cX12_line 9 = .ok (.iconst 5, 1) := by decide +kernel
theorem dX12_line_10 : decode cX12_line 10 = .ok (.iconst 0, 1) := by decide +kernel
theorem dX12_line_11 : decode cX12_line 11 = .ok (.iastore, 1) := by decide +kernel
theorem dX12_line_12 : decode cX12_line 12 = .ok (.iconst 0, 1) := by decide +kernel
theorem dX12_line_13 : decode cX12_line 13 = .ok (.ireturn, 1) := by decide +kernel
theorem dX12_line_14 : decode cX12_line 14 = .ok (.aload_n 0, 1) := by decide +kernel
theorem dX12_line_15 : decode cX12_line 15 = .ok (.iload_n 1, 1) := by decide +kernel
theorem dX12_line_16 : decode cX12_line 16 = .ok (.invokevirtual 326, 3) := by decide +kernel
theorem dX12_line_19 : decode cX12_line 19 = .ok (.ifCond .eq 22, 3) := by decide +kernel
theorem dX12_line_22 : decode cX12_line 22 = .ok (.aload_n 0, 1) := by decide +kernel
theorem dX12_line_23 : decode cX12_line 23 = .ok (.iload_n 2, 1) := by decide +kernel
theorem dX12_line_24 : decode cX12_line 24 = .ok (.invokevirtual 326, 3) := by decide +kernel
theorem dX12_line_27 : decode cX12_line 27 = .ok (.ifCond .eq 14, 3) := by decide +kernel
theorem dX12_line_30 : decode cX12_line 30 = .ok (.aload_n 0, 1) := by decide +kernel
theorem dX12_line_31 : decode cX12_line 31 = .ok (.getfield 7, 3) := by decide +kernel
theorem dX12_line_34 : decode cX12_line 34 = .ok (.iconst 5, 1) := by decide +kernel
theorem dX12_line_35 : decode cX12_line 35 = .ok (.iaload, 1) := by decide +kernel
theorem dX12_line_36 : decode cX12_line 36 = .ok (.bipush 8, 2) := by decide +kernel
theorem dX12_line_38 : decode cX12_line 38 = .ok (.if_icmp .ne 6, 3) := by decide +kernel
theorem dX12_line_41 : decode cX12_line 41 = .ok (.bipush (-2), 2) := by decide +kernel
theorem dX12_line_43 : decode cX12_line 43 = .ok (.ireturn, 1) := by decide +kernel
theorem dX12_line_44 : decode cX12_line 44 = .ok (.aload_n 0, 1) := by decide +kernel
theorem dX12_line_45 : decode cX12_line 45 = .ok (.getfield 7, 3) := by decide +kernel
theorem dX12_line_48 : decode cX12_line 48 = .ok (.bipush 124, 2) := by decide +kernel
theorem dX12_line_50 : decode cX12_line 50 = .ok (.iconst 2, 1) := by decide +kernel
theorem dX12_line_51 : decode cX12_line 51 = .ok (.aload_n 0, 1) := by decide +kernel
theorem dX12_line_52 : decode cX12_line 52 = .ok (.getfield 7, 3) := by decide +kernel
theorem dX12_line_55 : decode cX12_line 55 = .ok (.iconst 5, 1) := by decide +kernel
theorem dX12_line_56 : decode cX12_line 56 = .ok (.iaload, 1) := by decide +kernel
theorem dX12_line_57 : decode cX12_line 57 = .ok (.imul, 1) := by decide +kernel
theorem dX12_line_58 : decode cX12_line 58 = .ok (.iadd, 1) := by decide +kernel
theorem dX12_line_59 : decode cX12_line 59 = .ok (.iload_n 1, 1) := by decide +kernel
theorem dX12_line_60 : decode cX12_line 60 = .ok (.iastore, 1) := by decide +kernel
theorem dX12_line_61 : decode cX12_line 61 = .ok (.aload_n 0, 1) := by decide +kernel
theorem dX12_line_62 : decode cX12_line 62 = .ok (.getfield 7, 3) := by decide +kernel
theorem dX12_line_65 : decode cX12_line 65 = .ok (.bipush 124, 2) := by decide +kernel
theorem dX12_line_67 : decode cX12_line 67 = .ok (.iconst 2, 1) := by decide +kernel
theorem dX12_line_68 : decode cX12_line 68 = .ok (.aload_n 0, 1) := by decide +kernel
theorem dX12_line_69 : decode cX12_line 69 = .ok (.getfield 7, 3) := by decide +kernel
theorem dX12_line_72 : decode cX12_line 72 = .ok (.iconst 5, 1) := by decide +kernel
theorem dX12_line_73 : decode cX12_line 73 = .ok (.iaload, 1) := by decide +kernel
theorem dX12_line_74 : decode cX12_line 74 = .ok (.imul, 1) := by decide +kernel
