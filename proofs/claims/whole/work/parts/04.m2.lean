theorem dX12_worded_9 : decode cX12_worded 9 = .ok (.ireturn, 1) := by decide +kernel
theorem dX12_worded_10 : decode cX12_worded 10 = .ok (.aload_n 0, 1) := by decide +kernel
theorem dX12_worded_11 : decode cX12_worded 11 = .ok (.invokevirtual 187, 3) := by decide +kernel
theorem dX12_worded_14 : decode cX12_worded 14 = .ok (.aload_n 0, 1) := by decide +kernel
theorem dX12_worded_15 : decode cX12_worded 15 = .ok (.iload_n 3, 1) := by decide +kernel
theorem dX12_worded_16 : decode cX12_worded 16 = .ok (.iload 4, 2) := by decide +kernel
theorem dX12_worded_18 : decode cX12_worded 18 = .ok (.iload 5, 2) := by decide +kernel
theorem dX12_worded_20 : decode cX12_worded 20 = .ok (.invokevirtual 228, 3) := by decide +kernel
theorem dX12_worded_23 : decode cX12_worded 23 = .ok (.ireturn, 1) := by decide +kernel
theorem dX12_lawClause_0 : decode cX12_lawClause 0 = .ok (.aload_n 0, 1) := by decide +kernel
theorem dX12_lawClause_1 : decode cX12_lawClause 1 = .ok (.getfield 16, 3) := by decide +kernel
theorem dX12_lawClause_4 : decode cX12_lawClause 4 = .ok (.iload_n 1, 1) := by decide +kernel
theorem dX12_lawClause_5 : decode cX12_lawClause 5 = .ok (.iconst 1, 1) := by decide +kernel
theorem dX12_lawClause_6 : decode cX12_lawClause 6 = .ok (.iadd, 1) := by decide +kernel
theorem dX12_lawClause_7 : decode cX12_lawClause 7 = .ok (.aload_n 0, 1) := by decide +kernel
theorem dX12_lawClause_8 : decode cX12_lawClause 8 = .ok (.getfield 154, 3) := by decide +kernel
theorem dX12_lawClause_11 : decode cX12_lawClause 11 = .ok (.iastore, 1) := by decide +kernel
theorem dX12_lawClause_12 : decode cX12_lawClause 12 = .ok (.aload_n 0, 1) := by decide +kernel
theorem dX12_lawClause_13 : decode cX12_lawClause 13 = .ok (.invokevirtual 232, 3) := by decide +kernel
theorem dX12_lawClause_16 : decode cX12_lawClause 16 = .ok (.istore_n 2, 1) := by decide +kernel
theorem dX12_lawClause_17 : decode cX12_lawClause 17 = .ok (.aload_n 0, 1) := by decide +kernel
theorem dX12_lawClause_18 : decode cX12_lawClause 18 = .ok (.getfield 16, 3) := by decide +kernel
theorem dX12_lawClause_21 : decode cX12_lawClause 21 = .ok (.iload_n 1, 1) := by decide +kernel
theorem dX12_lawClause_22 : decode cX12_lawClause 22 = .ok (.iconst 2, 1) := by decide +kernel
theorem dX12_lawClause_23 : decode cX12_lawClause 23 = .ok (.iadd, 1) := by decide +kernel
theorem dX12_lawClause_24 : decode cX12_lawClause 24 = .ok (.aload_n 0, 1) := by decide +kernel
theorem dX12_lawClause_25 : decode cX12_lawClause 25 = .ok (.getfield 154, 3) := by decide +kernel
theorem dX12_lawClause_28 : decode cX12_lawClause 28 = .ok (.iastore, 1) := by decide +kernel
theorem dX12_lawClause_29 : decode cX12_lawClause 29 = .ok (.iload_n 2, 1) := by decide +kernel
theorem dX12_lawClause_30 : decode cX12_lawClause 30 = .ok (.ireturn, 1) := by decide +kernel
theorem dX12_bellClause_0 : decode cX12_bellClause 0 = .ok (.aload_n 0, 1) := by decide +kernel
theorem dX12_bellClause_1 : decode cX12_bellClause 1 = .ok (.iload_n 1, 1) := by decide +kernel
theorem dX12_bellClause_2 : decode cX12_bellClause 2 = .ok (.iconst 1, 1) := by decide +kernel
theorem dX12_bellClause_3 : decode cX12_bellClause 3 = .ok (.iadd, 1) := by decide +kernel
theorem dX12_bellClause_4 : decode cX12_bellClause 4 = .ok (.iconst 1, 1) := by decide +kernel
theorem dX12_bellClause_5 : decode cX12_bellClause 5 = .ok (.bipush 9, 2) := by decide +kernel
theorem dX12_bellClause_7 : decode cX12_bellClause 7 = .ok (.invokevirtual 228, 3) := by decide +kernel
theorem dX12_bellClause_10 : decode cX12_bellClause 10 = .ok (.istore_n 2, 1) := by decide +kernel
theorem dX12_bellClause_11 : decode cX12_bellClause 11 = .ok (.iload_n 2, 1) := by decide +kernel
theorem dX12_bellClause_12 : decode cX12_bellClause 12 = .ok (.ifCond .ne 27, 3) := by decide +kernel
theorem dX12_bellClause_15 : decode cX12_bellClause 15 = .ok (.aload_n 0, 1) := by decide +kernel
theorem dX12_bellClause_16 : decode cX12_bellClause 16 = .ok (.bipush 112, 2) := by decide +kernel
theorem dX12_bellClause_18 : decode cX12_bellClause 18 = .ok (.bipush 105, 2) := by decide +kernel
theorem dX12_bellClause_20 : decode cX12_bellClause 20 = .ok (.bipush 116, 2) := by decide +kernel
theorem dX12_bellClause_22 : decode cX12_bellClause 22 = .ok (.bipush 99, 2) := by decide +kernel
theorem dX12_bellClause_24 : decode cX12_bellClause 24 = .ok (.bipush 104, 2) := by decide +kernel
theorem dX12_bellClause_26 : decode cX12_bellClause 26 = .ok (.invokestatic 147, 3) := by decide +kernel
theorem dX12_bellClause_29 : decode cX12_bellClause 29 = .ok (.iload_n 1, 1) := by decide +kernel
theorem dX12_bellClause_30 : decode cX12_bellClause 30 = .ok (.iconst 2, 1) := by decide +kernel
theorem dX12_bellClause_31 : decode cX12_bellClause 31 = .ok (.iadd, 1) := by decide +kernel
theorem dX12_bellClause_32 : decode cX12_bellClause 32 = .ok (.iconst 0, 1) := by decide +kernel
theorem dX12_bellClause_33 : decode cX12_bellClause 33 = .ok (.bipush 9, 2) := by decide +kernel
theorem dX12_bellClause_35 : decode cX12_bellClause 35 = .ok (.invokevirtual 235, 3) := by decide +kernel
theorem dX12_bellClause_38 : decode cX12_bellClause 38 = .ok (.istore_n 2, 1) := by decide +kernel
theorem dX12_bellClause_39 : decode cX12_bellClause 39 = .ok (.iload_n 2, 1) := by decide +kernel
theorem dX12_bellClause_40 : decode cX12_bellClause 40 = .ok (.ifCond .eq 7, 3) := by decide +kernel
theorem dX12_bellClause_43 : decode cX12_bellClause 43 = .ok (.iload_n 2, 1) := by decide +kernel
theorem dX12_bellClause_44 : decode cX12_bellClause 44 = .ok (.goto 22, 3) := by decide +kernel
theorem dX12_bellClause_47 : decode cX12_bellClause 47 = .ok (.aload_n 0, 1) := by decide +kernel
theorem dX12_bellClause_48 : decode cX12_bellClause 48 = .ok (.bipush 109, 2) := by decide +kernel
theorem dX12_bellClause_50 : decode cX12_bellClause 50 = .ok (.bipush 101, 2) := by decide +kernel
theorem dX12_bellClause_52 : decode cX12_bellClause 52 = .ok (.bipush 110, 2) := by decide +kernel
theorem dX12_bellClause_54 : decode cX12_bellClause 54 = .ok (.invokestatic 139, 3) := by decide +kernel
theorem dX12_bellClause_57 : decode cX12_bellClause 57 = .ok (.iload_n 1, 1) := by decide +kernel
theorem dX12_bellClause_58 : decode cX12_bellClause 58 = .ok (.iconst 3, 1) := by decide +kernel
theorem dX12_bellClause_59 : decode cX12_bellClause 59 = .ok (.iadd, 1) := by decide +kernel
theorem dX12_bellClause_60 : decode cX12_bellClause 60 = .ok (.iconst 1, 1) := by decide +kernel
theorem dX12_bellClause_61 : decode cX12_bellClause 61 = .ok (.bipush 9, 2) := by decide +kernel
theorem dX12_bellClause_63 : decode cX12_bellClause 63 = .ok (.invokevirtual 235, 3) := by decide +kernel
theorem dX12_bellClause_66 : decode cX12_bellClause 66 = .ok (.ireturn, 1) := by decide +kernel
theorem dX12_wordClause_0 : decode cX12_wordClause 0 = .ok (.aload_n 0, 1) := by decide +kernel
theorem dX12_wordClause_1 : decode cX12_wordClause 1 = .ok (.iload_n 1, 1) := by decide +kernel
theorem dX12_wordClause_2 : decode cX12_wordClause 2 = .ok (.iconst 1, 1) := by decide +kernel
theorem dX12_wordClause_3 : decode cX12_wordClause 3 = .ok (.iadd, 1) := by decide +kernel
theorem dX12_wordClause_4 : decode cX12_wordClause 4 = .ok (.iconst 0, 1) := by decide +kernel
theorem dX12_wordClause_5 : decode cX12_wordClause 5 = .ok (.iconst 3, 1) := by decide +kernel
theorem dX12_wordClause_6 : decode cX12_wordClause 6 = .ok (.invokevirtual 228, 3) := by decide +kernel
theorem dX12_wordClause_9 : decode cX12_wordClause 9 = .ok (.istore_n 2, 1) := by decide +kernel
theorem dX12_wordClause_10 : decode cX12_wordClause 10 = .ok (.iload_n 2, 1) := by decide +kernel
theorem dX12_wordClause_11 : decode cX12_wordClause 11 = .ok (.ifCond .ne 27, 3) := by decide +kernel
theorem dX12_wordClause_14 : decode cX12_wordClause 14 = .ok (.aload_n 0, 1) := by decide +kernel
theorem dX12_wordClause_15 : decode cX12_wordClause 15 = .ok (.bipush 109, 2) := by decide +kernel
theorem dX12_wordClause_17 : decode cX12_wordClause 17 = .ok (.bipush 101, 2) := by decide +kernel
theorem dX12_wordClause_19 : decode cX12_wordClause 19 = .ok (.bipush 97, 2) := by decide +kernel
theorem dX12_wordClause_21 : decode cX12_wordClause 21 = .ok (.bipush 110, 2) := by decide +kernel
theorem dX12_wordClause_23 : decode cX12_wordClause 23 = .ok (.bipush 115, 2) := by decide +kernel
theorem dX12_wordClause_25 : decode cX12_wordClause 25 = .ok (.invokestatic 147, 3) := by decide +kernel
theorem dX12_wordClause_28 : decode cX12_wordClause 28 = .ok (.iload_n 1, 1) := by decide +kernel
theorem dX12_wordClause_29 : decode cX12_wordClause 29 = .ok (.iconst 2, 1) := by decide +kernel
theorem dX12_wordClause_30 : decode cX12_wordClause 30 = .ok (.iadd, 1) := by decide +kernel
theorem dX12_wordClause_31 : decode cX12_wordClause 31 = .ok (.iconst 0, 1) := by decide +kernel
theorem dX12_wordClause_32 : decode cX12_wordClause 32 = .ok (.bipush 99, 2) := by decide +kernel
theorem dX12_wordClause_34 : decode cX12_wordClause 34 = .ok (.invokevirtual 235, 3) := by decide +kernel
theorem dX12_wordClause_37 : decode cX12_wordClause 37 = .ok (.istore_n 2, 1) := by decide +kernel
theorem dX12_wordClause_38 : decode cX12_wordClause 38 = .ok (.iload_n 2, 1) := by decide +kernel
theorem dX12_wordClause_39 : decode cX12_wordClause 39 = .ok (.ifCond .eq 5, 3) := by decide +kernel
theorem dX12_wordClause_42 : decode cX12_wordClause 42 = .ok (.iload_n 2, 1) := by decide +kernel
theorem dX12_wordClause_43 : decode cX12_wordClause 43 = .ok (.ireturn, 1) := by decide +kernel
theorem dX12_wordClause_44 : decode cX12_wordClause 44 = .ok (.aload_n 0, 1) := by decide +kernel
theorem dX12_wordClause_45 : decode cX12_wordClause 45 = .ok (.getfield 113, 3) := by decide +kernel
theorem dX12_wordClause_48 : decode cX12_wordClause 48 = .ok (.bipush 58, 2) := by decide +kernel
theorem dX12_wordClause_50 : decode cX12_wordClause 50 = .ok (.if_icmp .eq 5, 3) := by decide +kernel
theorem dX12_wordClause_53 : decode cX12_wordClause 53 = .ok (.iconst 1, 1) := by decide +kernel
theorem dX12_wordClause_54 : decode cX12_wordClause 54 = .ok (.ireturn, 1) := by decide +kernel
theorem dX12_wordClause_55 : decode cX12_wordClause 55 = .ok (.aload_n 0, 1) := by decide +kernel
theorem dX12_wordClause_56 : decode cX12_wordClause 56 = .ok (.invokevirtual 187, 3) := by decide +kernel
theorem dX12_wordClause_59 : decode cX12_wordClause 59 = .ok (.iconst 0, 1) := by decide +kernel
theorem dX12_wordClause_60 : decode cX12_wordClause 60 = .ok (.istore_n 3, 1) := by decide +kernel
theorem dX12_wordClause_61 : decode cX12_wordClause 61 = .ok (.iload_n 3, 1) := by decide +kernel
theorem dX12_wordClause_62 : decode cX12_wordClause 62 = .ok (.iconst 4, 1) := by decide +kernel
theorem dX12_wordClause_63 : decode cX12_wordClause 63 = .ok (.if_icmp .ge 20, 3) := by decide +kernel
theorem dX12_wordClause_66 : decode cX12_wordClause 66 = .ok (.aload_n 0, 1) := by decide +kernel
theorem dX12_wordClause_67 : decode cX12_wordClause 67 = .ok (.getfield 16, 3) := by decide +kernel
theorem dX12_wordClause_70 : decode cX12_wordClause 70 = .ok (.iload_n 1, 1) := by decide +kernel
theorem dX12_wordClause_71 : decode cX12_wordClause 71 = .ok (.iconst 3, 1) := by decide +kernel
theorem dX12_wordClause_72 : decode cX12_wordClause 72 = .ok (.iadd, 1) := by decide +kernel
theorem dX12_wordClause_73 : decode cX12_wordClause 73 = .ok (.iload_n 3, 1) := by decide +kernel
theorem dX12_wordClause_74 : decode cX12_wordClause 74 = .ok (.iadd, 1) := by decide +kernel
theorem dX12_wordClause_75 : decode cX12_wordClause 75 = .ok (.iconst (-1), 1) := by decide +kernel
theorem dX12_wordClause_76 : decode cX12_wordClause 76 = .ok (.iastore, 1) := by decide +kernel
theorem dX12_wordClause_77 : decode cX12_wordClause 77 = .ok (.iinc 3 1, 3) := by decide +kernel
theorem dX12_wordClause_80 : decode cX12_wordClause 80 = .ok (.goto (-19), 3) := by decide +kernel
theorem dX12_wordClause_83 : decode cX12_wordClause 83 = .ok (.iconst 0, 1) := by decide +kernel
theorem dX12_wordClause_84 : decode cX12_wordClause 84 = .ok (.istore_n 3, 1) := by decide +kernel
theorem dX12_wordClause_85 : decode cX12_wordClause 85 = .ok (.iload_n 3, 1) := by decide +kernel
theorem dX12_wordClause_86 : decode cX12_wordClause 86 = .ok (.ifCond .eq 11, 3) := by decide +kernel
theorem dX12_wordClause_89 : decode cX12_wordClause 89 = .ok (.aload_n 0, 1) := by decide +kernel
theorem dX12_wordClause_90 : decode cX12_wordClause 90 = .ok (.getfield 113, 3) := by decide +kernel
theorem dX12_wordClause_93 : decode cX12_wordClause 93 = .ok (.iconst 1, 1) := by decide +kernel
theorem dX12_wordClause_94 : decode cX12_wordClause 94 = .ok (.if_icmp .ne 47, 3) := by decide +kernel
theorem dX12_wordClause_97 : decode cX12_wordClause 97 = .ok (.iload_n 3, 1) := by decide +kernel
theorem dX12_wordClause_98 : decode cX12_wordClause 98 = .ok (.iconst 4, 1) := by decide +kernel
theorem dX12_wordClause_99 : decode cX12_wordClause 99 = .ok (.if_icmp .ne 18, 3) := by decide +kernel
theorem dX12_wordClause_102 : decode cX12_wordClause 102 = .ok (.aload_n 0, 1) := by decide +kernel
theorem dX12_wordClause_103 : decode cX12_wordClause 103 = .ok (.getfield 119, 3) := by decide +kernel
theorem dX12_wordClause_106 : decode cX12_wordClause 106 = .ok (.iconst 5, 1) := by decide +kernel
theorem dX12_wordClause_107 : decode cX12_wordClause 107 = .ok (.if_icmp .le 7, 3) := by decide +kernel
theorem dX12_wordClause_110 : decode cX12_wordClause 110 = .ok (.iconst 2, 1) := by decide +kernel
theorem dX12_wordClause_111 : decode cX12_wordClause 111 = .ok (.goto 5, 3) := by decide +kernel
theorem dX12_wordClause_114 : decode cX12_wordClause 114 = .ok (.bipush 7, 2) := by decide +kernel
theorem dX12_wordClause_116 : decode cX12_wordClause 116 = .ok (.ireturn, 1) := by decide +kernel
theorem dX12_wordClause_117 : decode cX12_wordClause 117 = .ok (.aload_n 0, 1) := by decide +kernel
theorem dX12_wordClause_118 : decode cX12_wordClause 118 = .ok (.iload_n 1, 1) := by decide +kernel
theorem dX12_wordClause_119 : decode cX12_wordClause 119 = .ok (.iconst 3, 1) := by decide +kernel
theorem dX12_wordClause_120 : decode cX12_wordClause 120 = .ok (.iadd, 1) := by decide +kernel
theorem dX12_wordClause_121 : decode cX12_wordClause 121 = .ok (.iload_n 3, 1) := by decide +kernel
theorem dX12_wordClause_122 : decode cX12_wordClause 122 = .ok (.iadd, 1) := by decide +kernel
theorem dX12_wordClause_123 : decode cX12_wordClause 123 = .ok (.iconst 0, 1) := by decide +kernel
theorem dX12_wordClause_124 : decode cX12_wordClause 124 = .ok (.iconst 5, 1) := by decide +kernel
theorem dX12_wordClause_125 : decode cX12_wordClause 125 = .ok (.invokevirtual 228, 3) := by decide +kernel
theorem dX12_wordClause_128 : decode cX12_wordClause 128 = .ok (.istore_n 2, 1) := by decide +kernel
theorem dX12_wordClause_129 : decode cX12_wordClause 129 = .ok (.iload_n 2, 1) := by decide +kernel
theorem dX12_wordClause_130 : decode cX12_wordClause 130 = .ok (.ifCond .eq 5, 3) := by decide +kernel
theorem dX12_wordClause_133 : decode cX12_wordClause 133 = .ok (.iload_n 2, 1) := by decide +kernel
theorem dX12_wordClause_134 : decode cX12_wordClause 134 = .ok (.ireturn, 1) := by decide +kernel
theorem dX12_wordClause_135 : decode cX12_wordClause 135 = .ok (.iinc 3 1, 3) := by decide +kernel
theorem dX12_wordClause_138 : decode cX12_wordClause 138 = .ok (.goto (-53), 3) := by decide +kernel
theorem dX12_wordClause_141 : decode cX12_wordClause 141 = .ok (.iconst 0, 1) := by decide +kernel
theorem dX12_wordClause_142 : decode cX12_wordClause 142 = .ok (.ireturn, 1) := by decide +kernel
theorem dX12_body_0 : decode cX12_body 0 = .ok (.iload_n 1, 1) := by decide +kernel
theorem dX12_body_1 : decode cX12_body 1 = .ok (.tableswitch 82 3 10 #[47, 53, 59, 82, 82, 82, 69, 80], 47) := by decide +kernel
theorem dX12_body_48 : decode cX12_body 48 = .ok (.aload_n 0, 1) := by decide +kernel
theorem dX12_body_49 : decode cX12_body 49 = .ok (.iload_n 2, 1) := by decide +kernel
theorem dX12_body_50 : decode cX12_body 50 = .ok (.invokevirtual 239, 3) := by decide +kernel
theorem dX12_body_53 : decode cX12_body 53 = .ok (.ireturn, 1) := by decide +kernel
theorem dX12_body_54 : decode cX12_body 54 = .ok (.aload_n 0, 1) := by decide +kernel
theorem dX12_body_55 : decode cX12_body 55 = .ok (.iload_n 2, 1) := by decide +kernel
theorem dX12_body_56 : decode cX12_body 56 = .ok (.invokevirtual 242, 3) := by decide +kernel
theorem dX12_body_59 : decode cX12_body 59 = .ok (.ireturn, 1) := by decide +kernel
theorem dX12_body_60 : decode cX12_body 60 = .ok (.aload_n 0, 1) := by decide +kernel
theorem dX12_body_61 : decode cX12_body 61 = .ok (.iload_n 2, 1) := by decide +kernel
theorem dX12_body_62 : decode cX12_body 62 = .ok (.iconst 1, 1) := by decide +kernel
theorem dX12_body_63 : decode cX12_body 63 = .ok (.iadd, 1) := by decide +kernel
theorem dX12_body_64 : decode cX12_body 64 = .ok (.iconst 0, 1) := by decide +kernel
theorem dX12_body_65 : decode cX12_body 65 = .ok (.iconst 5, 1) := by decide +kernel
theorem dX12_body_66 : decode cX12_body 66 = .ok (.invokevirtual 228, 3) := by decide +kernel
theorem dX12_body_69 : decode cX12_body 69 = .ok (.ireturn, 1) := by decide +kernel
theorem dX12_body_70 : decode cX12_body 70 = .ok (.aload_n 0, 1) := by decide +kernel
theorem dX12_body_71 : decode cX12_body 71 = .ok (.iload_n 2, 1) := by decide +kernel
theorem dX12_body_72 : decode cX12_body 72 = .ok (.iconst 1, 1) := by decide +kernel
theorem dX12_body_73 : decode cX12_body 73 = .ok (.iadd, 1) := by decide +kernel
theorem dX12_body_74 : decode cX12_body 74 = .ok (.iconst 1, 1) := by decide +kernel
theorem dX12_body_75 : decode cX12_body 75 = .ok (.bipush 60, 2) := by decide +kernel
theorem dX12_body_77 : decode cX12_body 77 = .ok (.invokevirtual 228, 3) := by decide +kernel
theorem dX12_body_80 : decode cX12_body 80 = .ok (.ireturn, 1) := by decide +kernel
theorem dX12_body_81 : decode cX12_body 81 = .ok (.iconst 0, 1) := by decide +kernel
theorem dX12_body_82 : decode cX12_body 82 = .ok (.ireturn, 1) := by decide +kernel
theorem dX12_body_83 : decode cX12_body 83 = .ok (.iload_n 1, 1) := by decide +kernel
theorem dX12_body_84 : decode cX12_body 84 = .ok (.iconst 2, 1) := by decide +kernel
theorem dX12_body_85 : decode cX12_body 85 = .ok (.if_icmp .gt 11, 3) := by decide +kernel
theorem dX12_body_88 : decode cX12_body 88 = .ok (.aload_n 0, 1) := by decide +kernel
theorem dX12_body_89 : decode cX12_body 89 = .ok (.iload_n 2, 1) := by decide +kernel
theorem dX12_body_90 : decode cX12_body 90 = .ok (.invokevirtual 245, 3) := by decide +kernel
theorem dX12_body_93 : decode cX12_body 93 = .ok (.goto 13, 3) := by decide +kernel
theorem dX12_body_96 : decode cX12_body 96 = .ok (.aload_n 0, 1) := by decide +kernel
theorem dX12_body_97 : decode cX12_body 97 = .ok (.iload_n 2, 1) := by decide +kernel
theorem dX12_body_98 : decode cX12_body 98 = .ok (.iconst 1, 1) := by decide +kernel
theorem dX12_body_99 : decode cX12_body 99 = .ok (.iadd, 1) := by decide +kernel
theorem dX12_body_100 : decode cX12_body 100 = .ok (.iconst 0, 1) := by decide +kernel
theorem dX12_body_101 : decode cX12_body 101 = .ok (.bipush 9, 2) := by decide +kernel
theorem dX12_body_103 : decode cX12_body 103 = .ok (.invokevirtual 228, 3) := by decide +kernel
theorem dX12_body_106 : decode cX12_body 106 = .ok (.ireturn, 1) := by decide +kernel
theorem dX12_sortOf_0 : decode cX12_sortOf 0 = .ok (.aload_n 0, 1) := by decide +kernel
theorem dX12_sortOf_1 : decode cX12_sortOf 1 = .ok (.bipush 111, 2) := by decide +kernel
theorem dX12_sortOf_3 : decode cX12_sortOf 3 = .ok (.bipush 118, 2) := by decide +kernel
theorem dX12_sortOf_5 : decode cX12_sortOf 5 = .ok (.bipush 101, 2) := by decide +kernel
theorem dX12_sortOf_7 : decode cX12_sortOf 7 = .ok (.bipush 114, 2) := by decide +kernel
theorem dX12_sortOf_9 : decode cX12_sortOf 9 = .ok (.invokestatic 143, 3) := by decide +kernel
theorem dX12_sortOf_12 : decode cX12_sortOf 12 = .ok (.invokevirtual 206, 3) := by decide +kernel
theorem dX12_sortOf_15 : decode cX12_sortOf 15 = .ok (.ifCond .eq 5, 3) := by decide +kernel
theorem dX12_sortOf_18 : decode cX12_sortOf 18 = .ok (.iconst 0, 1) := by decide +kernel
theorem dX12_sortOf_19 : decode cX12_sortOf 19 = .ok (.ireturn, 1) := by decide +kernel
theorem dX12_sortOf_20 : decode cX12_sortOf 20 = .ok (.aload_n 0, 1) := by decide +kernel
theorem dX12_sortOf_21 : decode cX12_sortOf 21 = .ok (.invokevirtual 248, 3) := by decide +kernel
theorem dX12_sortOf_24 : decode cX12_sortOf 24 = .ok (.ifCond .eq 5, 3) := by decide +kernel
theorem dX12_sortOf_27 : decode cX12_sortOf 27 = .ok (.iconst 1, 1) := by decide +kernel
theorem dX12_sortOf_28 : decode cX12_sortOf 28 = .ok (.ireturn, 1) := by decide +kernel
theorem dX12_sortOf_29 : decode cX12_sortOf 29 = .ok (.aload_n 0, 1) := by decide +kernel
theorem dX12_sortOf_30 : decode cX12_sortOf 30 = .ok (.bipush 98, 2) := by decide +kernel
theorem dX12_sortOf_32 : decode cX12_sortOf 32 = .ok (.bipush 101, 2) := by decide +kernel
theorem dX12_sortOf_34 : decode cX12_sortOf 34 = .ok (.bipush 103, 2) := by decide +kernel
theorem dX12_sortOf_36 : decode cX12_sortOf 36 = .ok (.bipush 105, 2) := by decide +kernel
theorem dX12_sortOf_38 : decode cX12_sortOf 38 = .ok (.bipush 110, 2) := by decide +kernel
theorem dX12_sortOf_40 : decode cX12_sortOf 40 = .ok (.bipush 115, 2) := by decide +kernel
theorem dX12_sortOf_42 : decode cX12_sortOf 42 = .ok (.invokestatic 251, 3) := by decide +kernel
theorem dX12_sortOf_45 : decode cX12_sortOf 45 = .ok (.invokevirtual 206, 3) := by decide +kernel
theorem dX12_sortOf_48 : decode cX12_sortOf 48 = .ok (.ifCond .eq 5, 3) := by decide +kernel
theorem dX12_sortOf_51 : decode cX12_sortOf 51 = .ok (.iconst 2, 1) := by decide +kernel
theorem dX12_sortOf_52 : decode cX12_sortOf 52 = .ok (.ireturn, 1) := by decide +kernel
theorem dX12_sortOf_53 : decode cX12_sortOf 53 = .ok (.aload_n 0, 1) := by decide +kernel
theorem dX12_sortOf_54 : decode cX12_sortOf 54 = .ok (.bipush 98, 2) := by decide +kernel
theorem dX12_sortOf_56 : decode cX12_sortOf 56 = .ok (.bipush 101, 2) := by decide +kernel
theorem dX12_sortOf_58 : decode cX12_sortOf 58 = .ok (.bipush 108, 2) := by decide +kernel
theorem dX12_sortOf_60 : decode cX12_sortOf 60 = .ok (.bipush 108, 2) := by decide +kernel
theorem dX12_sortOf_62 : decode cX12_sortOf 62 = .ok (.invokestatic 143, 3) := by decide +kernel
theorem dX12_sortOf_65 : decode cX12_sortOf 65 = .ok (.invokevirtual 206, 3) := by decide +kernel
theorem dX12_sortOf_68 : decode cX12_sortOf 68 = .ok (.ifCond .eq 5, 3) := by decide +kernel
theorem dX12_sortOf_71 : decode cX12_sortOf 71 = .ok (.iconst 3, 1) := by decide +kernel
theorem dX12_sortOf_72 : decode cX12_sortOf 72 = .ok (.ireturn, 1) := by decide +kernel
theorem dX12_sortOf_73 : decode cX12_sortOf 73 = .ok (.aload_n 0, 1) := by decide +kernel
theorem dX12_sortOf_74 : decode cX12_sortOf 74 = .ok (.bipush 119, 2) := by decide +kernel
theorem dX12_sortOf_76 : decode cX12_sortOf 76 = .ok (.bipush 111, 2) := by decide +kernel
theorem dX12_sortOf_78 : decode cX12_sortOf 78 = .ok (.bipush 114, 2) := by decide +kernel
theorem dX12_sortOf_80 : decode cX12_sortOf 80 = .ok (.bipush 100, 2) := by decide +kernel
theorem dX12_sortOf_82 : decode cX12_sortOf 82 = .ok (.invokestatic 143, 3) := by decide +kernel
theorem dX12_sortOf_85 : decode cX12_sortOf 85 = .ok (.invokevirtual 206, 3) := by decide +kernel
theorem dX12_sortOf_88 : decode cX12_sortOf 88 = .ok (.ifCond .eq 5, 3) := by decide +kernel
theorem dX12_sortOf_91 : decode cX12_sortOf 91 = .ok (.iconst 4, 1) := by decide +kernel
theorem dX12_sortOf_92 : decode cX12_sortOf 92 = .ok (.ireturn, 1) := by decide +kernel
theorem dX12_sortOf_93 : decode cX12_sortOf 93 = .ok (.aload_n 0, 1) := by decide +kernel
theorem dX12_sortOf_94 : decode cX12_sortOf 94 = .ok (.bipush 114, 2) := by decide +kernel
theorem dX12_sortOf_96 : decode cX12_sortOf 96 = .ok (.bipush 105, 2) := by decide +kernel
theorem dX12_sortOf_98 : decode cX12_sortOf 98 = .ok (.bipush 110, 2) := by decide +kernel
theorem dX12_sortOf_100 : decode cX12_sortOf 100 = .ok (.bipush 103, 2) := by decide +kernel
theorem dX12_sortOf_102 : decode cX12_sortOf 102 = .ok (.invokestatic 143, 3) := by decide +kernel
theorem dX12_sortOf_105 : decode cX12_sortOf 105 = .ok (.invokevirtual 206, 3) := by decide +kernel
theorem dX12_sortOf_108 : decode cX12_sortOf 108 = .ok (.ifCond .eq 5, 3) := by decide +kernel
theorem dX12_sortOf_111 : decode cX12_sortOf 111 = .ok (.iconst 5, 1) := by decide +kernel
theorem dX12_sortOf_112 : decode cX12_sortOf 112 = .ok (.ireturn, 1) := by decide +kernel
theorem dX12_sortOf_113 : decode cX12_sortOf 113 = .ok (.aload_n 0, 1) := by decide +kernel
theorem dX12_sortOf_114 : decode cX12_sortOf 114 = .ok (.bipush 115, 2) := by decide +kernel
theorem dX12_sortOf_116 : decode cX12_sortOf 116 = .ok (.bipush 112, 2) := by decide +kernel
theorem dX12_sortOf_118 : decode cX12_sortOf 118 = .ok (.bipush 101, 2) := by decide +kernel
theorem dX12_sortOf_120 : decode cX12_sortOf 120 = .ok (.bipush 97, 2) := by decide +kernel
theorem dX12_sortOf_122 : decode cX12_sortOf 122 = .ok (.bipush 107, 2) := by decide +kernel
theorem dX12_sortOf_124 : decode cX12_sortOf 124 = .ok (.invokestatic 147, 3) := by decide +kernel
theorem dX12_sortOf_127 : decode cX12_sortOf 127 = .ok (.invokevirtual 206, 3) := by decide +kernel
theorem dX12_sortOf_130 : decode cX12_sortOf 130 = .ok (.ifCond .eq 6, 3) := by decide +kernel
theorem dX12_sortOf_133 : decode cX12_sortOf 133 = .ok (.bipush 6, 2) := by decide +kernel
theorem dX12_sortOf_135 : decode cX12_sortOf 135 = .ok (.ireturn, 1) := by decide +kernel
theorem dX12_sortOf_136 : decode cX12_sortOf 136 = .ok (.aload_n 0, 1) := by decide +kernel
theorem dX12_sortOf_137 : decode cX12_sortOf 137 = .ok (.bipush 119, 2) := by decide +kernel
theorem dX12_sortOf_139 : decode cX12_sortOf 139 = .ok (.bipush 105, 2) := by decide +kernel
theorem dX12_sortOf_141 : decode cX12_sortOf 141 = .ok (.bipush 110, 2) := by decide +kernel
theorem dX12_sortOf_143 : decode cX12_sortOf 143 = .ok (.bipush 100, 2) := by decide +kernel
theorem dX12_sortOf_145 : decode cX12_sortOf 145 = .ok (.invokestatic 143, 3) := by decide +kernel
theorem dX12_sortOf_148 : decode cX12_sortOf 148 = .ok (.invokevirtual 206, 3) := by decide +kernel
theorem dX12_sortOf_151 : decode cX12_sortOf 151 = .ok (.ifCond .eq 6, 3) := by decide +kernel
theorem dX12_sortOf_154 : decode cX12_sortOf 154 = .ok (.bipush 7, 2) := by decide +kernel
theorem dX12_sortOf_156 : decode cX12_sortOf 156 = .ok (.ireturn, 1) := by decide +kernel
theorem dX12_sortOf_157 : decode cX12_sortOf 157 = .ok (.aload_n 0, 1) := by decide +kernel
theorem dX12_sortOf_158 : decode cX12_sortOf 158 = .ok (.bipush 102, 2) := by decide +kernel
theorem dX12_sortOf_160 : decode cX12_sortOf 160 = .ok (.bipush 114, 2) := by decide +kernel
theorem dX12_sortOf_162 : decode cX12_sortOf 162 = .ok (.bipush 111, 2) := by decide +kernel
theorem dX12_sortOf_164 : decode cX12_sortOf 164 = .ok (.bipush 115, 2) := by decide +kernel
theorem dX12_sortOf_166 : decode cX12_sortOf 166 = .ok (.bipush 116, 2) := by decide +kernel
theorem dX12_sortOf_168 : decode cX12_sortOf 168 = .ok (.invokestatic 147, 3) := by decide +kernel
theorem dX12_sortOf_171 : decode cX12_sortOf 171 = .ok (.invokevirtual 206, 3) := by decide +kernel
theorem dX12_sortOf_174 : decode cX12_sortOf 174 = .ok (.ifCond .eq 6, 3) := by decide +kernel
theorem dX12_sortOf_177 : decode cX12_sortOf 177 = .ok (.bipush 8, 2) := by decide +kernel
theorem dX12_sortOf_179 : decode cX12_sortOf 179 = .ok (.ireturn, 1) := by decide +kernel
theorem dX12_sortOf_180 : decode cX12_sortOf 180 = .ok (.aload_n 0, 1) := by decide +kernel
theorem dX12_sortOf_181 : decode cX12_sortOf 181 = .ok (.bipush 104, 2) := by decide +kernel
theorem dX12_sortOf_183 : decode cX12_sortOf 183 = .ok (.bipush 111, 2) := by decide +kernel
theorem dX12_sortOf_185 : decode cX12_sortOf 185 = .ok (.bipush 117, 2) := by decide +kernel
theorem dX12_sortOf_187 : decode cX12_sortOf 187 = .ok (.bipush 114, 2) := by decide +kernel
theorem dX12_sortOf_189 : decode cX12_sortOf 189 = .ok (.invokestatic 143, 3) := by decide +kernel
theorem dX12_sortOf_192 : decode cX12_sortOf 192 = .ok (.invokevirtual 206, 3) := by decide +kernel
theorem dX12_sortOf_195 : decode cX12_sortOf 195 = .ok (.ifCond .eq 8, 3) := by decide +kernel
theorem dX12_sortOf_198 : decode cX12_sortOf 198 = .ok (.bipush 9, 2) := by decide +kernel
theorem dX12_sortOf_200 : decode cX12_sortOf 200 = .ok (.goto 31, 3) := by decide +kernel
theorem dX12_sortOf_203 : decode cX12_sortOf 203 = .ok (.aload_n 0, 1) := by decide +kernel
theorem dX12_sortOf_204 : decode cX12_sortOf 204 = .ok (.bipush 115, 2) := by decide +kernel
theorem dX12_sortOf_206 : decode cX12_sortOf 206 = .ok (.bipush 117, 2) := by decide +kernel
theorem dX12_sortOf_208 : decode cX12_sortOf 208 = .ok (.bipush 110, 2) := by decide +kernel
theorem dX12_sortOf_210 : decode cX12_sortOf 210 = .ok (.bipush 100, 2) := by decide +kernel
theorem dX12_sortOf_212 : decode cX12_sortOf 212 = .ok (.bipush 97, 2) := by decide +kernel
theorem dX12_sortOf_214 : decode cX12_sortOf 214 = .ok (.bipush 121, 2) := by decide +kernel
theorem dX12_sortOf_216 : decode cX12_sortOf 216 = .ok (.invokestatic 251, 3) := by decide +kernel
theorem dX12_sortOf_219 : decode cX12_sortOf 219 = .ok (.invokevirtual 206, 3) := by decide +kernel
theorem dX12_sortOf_222 : decode cX12_sortOf 222 = .ok (.ifCond .eq 8, 3) := by decide +kernel
theorem dX12_sortOf_225 : decode cX12_sortOf 225 = .ok (.bipush 10, 2) := by decide +kernel
theorem dX12_sortOf_227 : decode cX12_sortOf 227 = .ok (.goto 4, 3) := by decide +kernel
theorem dX12_sortOf_230 : decode cX12_sortOf 230 = .ok (.iconst (-1), 1) := by decide +kernel
theorem dX12_sortOf_231 : decode cX12_sortOf 231 = .ok (.ireturn, 1) := by decide +kernel
theorem dX12_clause_0 : decode cX12_clause 0 = .ok (.aload_n 0, 1) := by decide +kernel
theorem dX12_clause_1 : decode cX12_clause 1 = .ok (.invokevirtual 255, 3) := by decide +kernel
theorem dX12_clause_4 : decode cX12_clause 4 = .ok (.istore_n 1, 1) := by decide +kernel
theorem dX12_clause_5 : decode cX12_clause 5 = .ok (.iload_n 1, 1) := by decide +kernel
theorem dX12_clause_6 : decode cX12_clause 6 = .ok (.ifCond .ge 5, 3) := by decide +kernel
theorem dX12_clause_9 : decode cX12_clause 9 = .ok (.iconst 1, 1) := by decide +kernel
theorem dX12_clause_10 : decode cX12_clause 10 = .ok (.ireturn, 1) := by decide +kernel
theorem dX12_clause_11 : decode cX12_clause 11 = .ok (.iload_n 1, 1) := by decide +kernel
theorem dX12_clause_12 : decode cX12_clause 12 = .ok (.iconst 2, 1) := by decide +kernel
theorem dX12_clause_13 : decode cX12_clause 13 = .ok (.if_icmp .gt 16, 3) := by decide +kernel
theorem dX12_clause_16 : decode cX12_clause 16 = .ok (.aload_n 0, 1) := by decide +kernel
theorem dX12_clause_17 : decode cX12_clause 17 = .ok (.getfield 258, 3) := by decide +kernel
theorem dX12_clause_20 : decode cX12_clause 20 = .ok (.iload_n 1, 1) := by decide +kernel
theorem dX12_clause_21 : decode cX12_clause 21 = .ok (.invokestatic 261, 3) := by decide +kernel
theorem dX12_clause_24 : decode cX12_clause 24 = .ok (.ifCond .eq 5, 3) := by decide +kernel
theorem dX12_clause_27 : decode cX12_clause 27 = .ok (.iconst 4, 1) := by decide +kernel
theorem dX12_clause_28 : decode cX12_clause 28 = .ok (.ireturn, 1) := by decide +kernel
theorem dX12_clause_29 : decode cX12_clause 29 = .ok (.aload_n 0, 1) := by decide +kernel
theorem dX12_clause_30 : decode cX12_clause 30 = .ok (.getfield 16, 3) := by decide +kernel
theorem dX12_clause_33 : decode cX12_clause 33 = .ok (.aload_n 0, 1) := by decide +kernel
theorem dX12_clause_34 : decode cX12_clause 34 = .ok (.getfield 151, 3) := by decide +kernel
theorem dX12_clause_37 : decode cX12_clause 37 = .ok (.iaload, 1) := by decide +kernel
theorem dX12_clause_38 : decode cX12_clause 38 = .ok (.istore_n 2, 1) := by decide +kernel
theorem dX12_clause_39 : decode cX12_clause 39 = .ok (.iload_n 2, 1) := by decide +kernel
theorem dX12_clause_40 : decode cX12_clause 40 = .ok (.bipush 24, 2) := by decide +kernel
theorem dX12_clause_42 : decode cX12_clause 42 = .ok (.if_icmp .ne 6, 3) := by decide +kernel
theorem dX12_clause_45 : decode cX12_clause 45 = .ok (.bipush 6, 2) := by decide +kernel
theorem dX12_clause_47 : decode cX12_clause 47 = .ok (.ireturn, 1) := by decide +kernel
theorem dX12_clause_48 : decode cX12_clause 48 = .ok (.iload_n 1, 1) := by decide +kernel
theorem dX12_clause_49 : decode cX12_clause 49 = .ok (.iconst 2, 1) := by decide +kernel
theorem dX12_clause_50 : decode cX12_clause 50 = .ok (.if_icmp .gt 15, 3) := by decide +kernel
theorem dX12_clause_53 : decode cX12_clause 53 = .ok (.aload_n 0, 1) := by decide +kernel
theorem dX12_clause_54 : decode cX12_clause 54 = .ok (.dup, 1) := by decide +kernel
theorem dX12_clause_55 : decode cX12_clause 55 = .ok (.getfield 258, 3) := by decide +kernel
theorem dX12_clause_58 : decode cX12_clause 58 = .ok (.iconst 1, 1) := by decide +kernel
theorem dX12_clause_59 : decode cX12_clause 59 = .ok (.iload_n 1, 1) := by decide +kernel
theorem dX12_clause_60 : decode cX12_clause 60 = .ok (.ishl, 1) := by decide +kernel
theorem dX12_clause_61 : decode cX12_clause 61 = .ok (.ior, 1) := by decide +kernel
theorem dX12_clause_62 : decode cX12_clause 62 = .ok (.putfield 258, 3) := by decide +kernel
theorem dX12_clause_65 : decode cX12_clause 65 = .ok (.aload_n 0, 1) := by decide +kernel
theorem dX12_clause_66 : decode cX12_clause 66 = .ok (.iload_n 1, 1) := by decide +kernel
theorem dX12_clause_67 : decode cX12_clause 67 = .ok (.putfield 168, 3) := by decide +kernel
theorem dX12_clause_70 : decode cX12_clause 70 = .ok (.aload_n 0, 1) := by decide +kernel
theorem dX12_clause_71 : decode cX12_clause 71 = .ok (.invokevirtual 187, 3) := by decide +kernel
theorem dX12_clause_74 : decode cX12_clause 74 = .ok (.aload_n 0, 1) := by decide +kernel
theorem dX12_clause_75 : decode cX12_clause 75 = .ok (.getfield 151, 3) := by decide +kernel
theorem dX12_clause_78 : decode cX12_clause 78 = .ok (.iconst 1, 1) := by decide +kernel
theorem dX12_clause_79 : decode cX12_clause 79 = .ok (.iadd, 1) := by decide +kernel
theorem dX12_clause_80 : decode cX12_clause 80 = .ok (.bipush 8, 2) := by decide +kernel
theorem dX12_clause_82 : decode cX12_clause 82 = .ok (.iload_n 2, 1) := by decide +kernel
theorem dX12_clause_83 : decode cX12_clause 83 = .ok (.imul, 1) := by decide +kernel
theorem dX12_clause_84 : decode cX12_clause 84 = .ok (.iadd, 1) := by decide +kernel
theorem dX12_clause_85 : decode cX12_clause 85 = .ok (.istore_n 3, 1) := by decide +kernel
theorem dX12_clause_86 : decode cX12_clause 86 = .ok (.aload_n 0, 1) := by decide +kernel
theorem dX12_clause_87 : decode cX12_clause 87 = .ok (.getfield 16, 3) := by decide +kernel
theorem dX12_clause_90 : decode cX12_clause 90 = .ok (.iload_n 3, 1) := by decide +kernel
theorem dX12_clause_91 : decode cX12_clause 91 = .ok (.iload_n 1, 1) := by decide +kernel
theorem dX12_clause_92 : decode cX12_clause 92 = .ok (.iastore, 1) := by decide +kernel
theorem dX12_clause_93 : decode cX12_clause 93 = .ok (.aload_n 0, 1) := by decide +kernel
theorem dX12_clause_94 : decode cX12_clause 94 = .ok (.iload_n 1, 1) := by decide +kernel
theorem dX12_clause_95 : decode cX12_clause 95 = .ok (.iload_n 3, 1) := by decide +kernel
theorem dX12_clause_96 : decode cX12_clause 96 = .ok (.invokevirtual 265, 3) := by decide +kernel
theorem dX12_clause_99 : decode cX12_clause 99 = .ok (.istore 4, 2) := by decide +kernel
theorem dX12_clause_101 : decode cX12_clause 101 = .ok (.iload 4, 2) := by decide +kernel
theorem dX12_clause_103 : decode cX12_clause 103 = .ok (.ifCond .eq 6, 3) := by decide +kernel
theorem dX12_clause_106 : decode cX12_clause 106 = .ok (.iload 4, 2) := by decide +kernel
theorem dX12_clause_108 : decode cX12_clause 108 = .ok (.ireturn, 1) := by decide +kernel
theorem dX12_clause_109 : decode cX12_clause 109 = .ok (.aload_n 0, 1) := by decide +kernel
theorem dX12_clause_110 : decode cX12_clause 110 = .ok (.getfield 16, 3) := by decide +kernel
theorem dX12_clause_113 : decode cX12_clause 113 = .ok (.aload_n 0, 1) := by decide +kernel
theorem dX12_clause_114 : decode cX12_clause 114 = .ok (.getfield 151, 3) := by decide +kernel
theorem dX12_clause_117 : decode cX12_clause 117 = .ok (.dup2, 1) := by decide +kernel
theorem dX12_clause_118 : decode cX12_clause 118 = .ok (.iaload, 1) := by decide +kernel
theorem dX12_clause_119 : decode cX12_clause 119 = .ok (.iconst 1, 1) := by decide +kernel
theorem dX12_clause_120 : decode cX12_clause 120 = .ok (.iadd, 1) := by decide +kernel
theorem dX12_clause_121 : decode cX12_clause 121 = .ok (.iastore, 1) := by decide +kernel
theorem dX12_clause_122 : decode cX12_clause 122 = .ok (.aload_n 0, 1) := by decide +kernel
theorem dX12_clause_123 : decode cX12_clause 123 = .ok (.getfield 113, 3) := by decide +kernel
theorem dX12_clause_126 : decode cX12_clause 126 = .ok (.bipush 59, 2) := by decide +kernel
theorem dX12_clause_128 : decode cX12_clause 128 = .ok (.if_icmp .eq 5, 3) := by decide +kernel
theorem dX12_clause_131 : decode cX12_clause 131 = .ok (.iconst 1, 1) := by decide +kernel
theorem dX12_clause_132 : decode cX12_clause 132 = .ok (.ireturn, 1) := by decide +kernel
theorem dX12_clause_133 : decode cX12_clause 133 = .ok (.aload_n 0, 1) := by decide +kernel
theorem dX12_clause_134 : decode cX12_clause 134 = .ok (.invokevirtual 187, 3) := by decide +kernel
theorem dX12_clause_137 : decode cX12_clause 137 = .ok (.iconst 0, 1) := by decide +kernel
theorem dX12_clause_138 : decode cX12_clause 138 = .ok (.ireturn, 1) := by decide +kernel
theorem dX12_readText_0 : decode cX12_readText 0 = .ok (.aload_n 0, 1) := by decide +kernel
theorem dX12_readText_1 : decode cX12_readText 1 = .ok (.sipush 801, 3) := by decide +kernel
theorem dX12_readText_4 : decode cX12_readText 4 = .ok (.aload_n 0, 1) := by decide +kernel
theorem dX12_readText_5 : decode cX12_readText 5 = .ok (.getfield 7, 3) := by decide +kernel
theorem dX12_readText_8 : decode cX12_readText 8 = .ok (.iconst 2, 1) := by decide +kernel
theorem dX12_readText_9 : decode cX12_readText 9 = .ok (.iaload, 1) := by decide +kernel
theorem dX12_readText_10 : decode cX12_readText 10 = .ok (.imul, 1) := by decide +kernel
theorem dX12_readText_11 : decode cX12_readText 11 = .ok (.putfield 151, 3) := by decide +kernel
theorem dX12_readText_14 : decode cX12_readText 14 = .ok (.aload_n 0, 1) := by decide +kernel
theorem dX12_readText_15 : decode cX12_readText 15 = .ok (.getfield 16, 3) := by decide +kernel
theorem dX12_readText_18 : decode cX12_readText 18 = .ok (.aload_n 0, 1) := by decide +kernel
theorem dX12_readText_19 : decode cX12_readText 19 = .ok (.getfield 151, 3) := by decide +kernel
theorem dX12_readText_22 : decode cX12_readText 22 = .ok (.iconst 0, 1) := by decide +kernel
theorem dX12_readText_23 : decode cX12_readText 23 = .ok (.iastore, 1) := by decide +kernel
theorem dX12_readText_24 : decode cX12_readText 24 = .ok (.aload_n 0, 1) := by decide +kernel
theorem dX12_readText_25 : decode cX12_readText 25 = .ok (.iconst 0, 1) := by decide +kernel
theorem dX12_readText_26 : decode cX12_readText 26 = .ok (.putfield 154, 3) := by decide +kernel
theorem dX12_readText_29 : decode cX12_readText 29 = .ok (.aload_n 0, 1) := by decide +kernel
theorem dX12_readText_30 : decode cX12_readText 30 = .ok (.iconst 0, 1) := by decide +kernel
theorem dX12_readText_31 : decode cX12_readText 31 = .ok (.putfield 258, 3) := by decide +kernel
theorem dX12_readText_34 : decode cX12_readText 34 = .ok (.aload_n 0, 1) := by decide +kernel
theorem dX12_readText_35 : decode cX12_readText 35 = .ok (.iconst 0, 1) := by decide +kernel
theorem dX12_readText_36 : decode cX12_readText 36 = .ok (.putfield 103, 3) := by decide +kernel
theorem dX12_readText_39 : decode cX12_readText 39 = .ok (.aload_n 0, 1) := by decide +kernel
theorem dX12_readText_40 : decode cX12_readText 40 = .ok (.invokevirtual 187, 3) := by decide +kernel
theorem dX12_readText_43 : decode cX12_readText 43 = .ok (.aload_n 0, 1) := by decide +kernel
theorem dX12_readText_44 : decode cX12_readText 44 = .ok (.getfield 113, 3) := by decide +kernel
theorem dX12_readText_47 : decode cX12_readText 47 = .ok (.ifCond .eq 17, 3) := by decide +kernel
theorem dX12_readText_50 : decode cX12_readText 50 = .ok (.aload_n 0, 1) := by decide +kernel
theorem dX12_readText_51 : decode cX12_readText 51 = .ok (.invokevirtual 268, 3) := by decide +kernel
theorem dX12_readText_54 : decode cX12_readText 54 = .ok (.istore_n 1, 1) := by decide +kernel
theorem dX12_readText_55 : decode cX12_readText 55 = .ok (.iload_n 1, 1) := by decide +kernel
theorem dX12_readText_56 : decode cX12_readText 56 = .ok (.ifCond .eq 5, 3) := by decide +kernel
theorem dX12_readText_59 : decode cX12_readText 59 = .ok (.iload_n 1, 1) := by decide +kernel
theorem dX12_readText_60 : decode cX12_readText 60 = .ok (.ireturn, 1) := by decide +kernel
theorem dX12_readText_61 : decode cX12_readText 61 = .ok (.goto (-18), 3) := by decide +kernel
theorem dX12_readText_64 : decode cX12_readText 64 = .ok (.iconst 0, 1) := by decide +kernel
theorem dX12_readText_65 : decode cX12_readText 65 = .ok (.ireturn, 1) := by decide +kernel
theorem dX12_text_0 : decode cX12_text 0 = .ok (.aload_n 0, 1) := by decide +kernel
theorem dX12_text_1 : decode cX12_text 1 = .ok (.getfield 7, 3) := by decide +kernel
theorem dX12_text_4 : decode cX12_text 4 = .ok (.iconst 2, 1) := by decide +kernel
theorem dX12_text_5 : decode cX12_text 5 = .ok (.iaload, 1) := by decide +kernel
theorem dX12_text_6 : decode cX12_text 6 = .ok (.iconst 4, 1) := by decide +kernel
theorem dX12_text_7 : decode cX12_text 7 = .ok (.if_icmp .ne 5, 3) := by decide +kernel
theorem dX12_text_10 : decode cX12_text 10 = .ok (.iconst (-1), 1) := by decide +kernel
theorem dX12_text_11 : decode cX12_text 11 = .ok (.ireturn, 1) := by decide +kernel
theorem dX12_text_12 : decode cX12_text 12 = .ok (.aload_n 0, 1) := by decide +kernel
theorem dX12_text_13 : decode cX12_text 13 = .ok (.aload_n 0, 1) := by decide +kernel
theorem dX12_text_14 : decode cX12_text 14 = .ok (.invokevirtual 271, 3) := by decide +kernel
theorem dX12_text_17 : decode cX12_text 17 = .ok (.putfield 25, 3) := by decide +kernel
theorem dX12_text_20 : decode cX12_text 20 = .ok (.aload_n 0, 1) := by decide +kernel
theorem dX12_text_21 : decode cX12_text 21 = .ok (.aload_n 0, 1) := by decide +kernel
theorem dX12_text_22 : decode cX12_text 22 = .ok (.getfield 25, 3) := by decide +kernel
theorem dX12_text_25 : decode cX12_text 25 = .ok (.ifCond .ne 7, 3) := by decide +kernel
theorem dX12_text_28 : decode cX12_text 28 = .ok (.iconst (-1), 1) := by decide +kernel
theorem dX12_text_29 : decode cX12_text 29 = .ok (.goto 7, 3) := by decide +kernel
theorem dX12_text_32 : decode cX12_text 32 = .ok (.aload_n 0, 1) := by decide +kernel
theorem dX12_text_33 : decode cX12_text 33 = .ok (.getfield 110, 3) := by decide +kernel
theorem dX12_text_36 : decode cX12_text 36 = .ok (.putfield 29, 3) := by decide +kernel
theorem dX12_text_39 : decode cX12_text 39 = .ok (.aload_n 0, 1) := by decide +kernel
theorem dX12_text_40 : decode cX12_text 40 = .ok (.iconst 0, 1) := by decide +kernel
theorem dX12_text_41 : decode cX12_text 41 = .ok (.putfield 96, 3) := by decide +kernel
theorem dX12_text_44 : decode cX12_text 44 = .ok (.aload_n 0, 1) := by decide +kernel
theorem dX12_text_45 : decode cX12_text 45 = .ok (.getfield 25, 3) := by decide +kernel
theorem dX12_text_48 : decode cX12_text 48 = .ok (.ifCond .eq 5, 3) := by decide +kernel
theorem dX12_text_51 : decode cX12_text 51 = .ok (.iconst (-1), 1) := by decide +kernel
theorem dX12_text_52 : decode cX12_text 52 = .ok (.ireturn, 1) := by decide +kernel
theorem dX12_text_53 : decode cX12_text 53 = .ok (.aload_n 0, 1) := by decide +kernel
theorem dX12_text_54 : decode cX12_text 54 = .ok (.getfield 7, 3) := by decide +kernel
theorem dX12_text_57 : decode cX12_text 57 = .ok (.iconst 2, 1) := by decide +kernel
theorem dX12_text_58 : decode cX12_text 58 = .ok (.dup2, 1) := by decide +kernel
theorem dX12_text_59 : decode cX12_text 59 = .ok (.iaload, 1) := by decide +kernel
theorem dX12_text_60 : decode cX12_text 60 = .ok (.iconst 1, 1) := by decide +kernel
theorem dX12_text_61 : decode cX12_text 61 = .ok (.iadd, 1) := by decide +kernel
theorem dX12_text_62 : decode cX12_text 62 = .ok (.iastore, 1) := by decide +kernel
theorem dX12_text_63 : decode cX12_text 63 = .ok (.aload_n 0, 1) := by decide +kernel
theorem dX12_text_64 : decode cX12_text 64 = .ok (.getfield 7, 3) := by decide +kernel
theorem dX12_text_67 : decode cX12_text 67 = .ok (.iconst 2, 1) := by decide +kernel
theorem dX12_text_68 : decode cX12_text 68 = .ok (.iaload, 1) := by decide +kernel
theorem dX12_text_69 : decode cX12_text 69 = .ok (.iconst 1, 1) := by decide +kernel
theorem dX12_text_70 : decode cX12_text 70 = .ok (.isub, 1) := by decide +kernel
theorem dX12_text_71 : decode cX12_text 71 = .ok (.ireturn, 1) := by decide +kernel
theorem dX12_fault_0 : decode cX12_fault 0 = .ok (.iload_n 1, 1) := by decide +kernel
theorem dX12_fault_1 : decode cX12_fault 1 = .ok (.ifCond .ne 10, 3) := by decide +kernel
theorem dX12_fault_4 : decode cX12_fault 4 = .ok (.aload_n 0, 1) := by decide +kernel
theorem dX12_fault_5 : decode cX12_fault 5 = .ok (.getfield 25, 3) := by decide +kernel
theorem dX12_fault_8 : decode cX12_fault 8 = .ok (.goto 16, 3) := by decide +kernel
theorem dX12_fault_11 : decode cX12_fault 11 = .ok (.iload_n 1, 1) := by decide +kernel
theorem dX12_fault_12 : decode cX12_fault 12 = .ok (.iconst 1, 1) := by decide +kernel
theorem dX12_fault_13 : decode cX12_fault 13 = .ok (.if_icmp .ne 10, 3) := by decide +kernel
theorem dX12_fault_16 : decode cX12_fault 16 = .ok (.aload_n 0, 1) := by decide +kernel
theorem dX12_fault_17 : decode cX12_fault 17 = .ok (.getfield 29, 3) := by decide +kernel
theorem dX12_fault_20 : decode cX12_fault 20 = .ok (.goto 4, 3) := by decide +kernel
theorem dX12_fault_23 : decode cX12_fault 23 = .ok (.iconst (-1), 1) := by decide +kernel
theorem dX12_fault_24 : decode cX12_fault 24 = .ok (.ireturn, 1) := by decide +kernel
theorem dX12_by_0 : decode cX12_by 0 = .ok (.iload_n 1, 1) := by decide +kernel
theorem dX12_by_1 : decode cX12_by 1 = .ok (.iconst (-1), 1) := by decide +kernel
theorem dX12_by_2 : decode cX12_by 2 = .ok (.aload_n 0, 1) := by decide +kernel
theorem dX12_by_3 : decode cX12_by 3 = .ok (.getfield 7, 3) := by decide +kernel
theorem dX12_by_6 : decode cX12_by 6 = .ok (.iconst 2, 1) := by decide +kernel
theorem dX12_by_7 : decode cX12_by 7 = .ok (.iaload, 1) := by decide +kernel
theorem dX12_by_8 : decode cX12_by 8 = .ok (.iconst 1, 1) := by decide +kernel
theorem dX12_by_9 : decode cX12_by 9 = .ok (.isub, 1) := by decide +kernel
theorem dX12_by_10 : decode cX12_by 10 = .ok (.invokestatic 80, 3) := by decide +kernel
theorem dX12_by_13 : decode cX12_by 13 = .ok (.ifCond .ne 5, 3) := by decide +kernel
theorem dX12_by_16 : decode cX12_by 16 = .ok (.iconst 0, 1) := by decide +kernel
theorem dX12_by_17 : decode cX12_by 17 = .ok (.ireturn, 1) := by decide +kernel
theorem dX12_by_18 : decode cX12_by 18 = .ok (.aload_n 0, 1) := by decide +kernel
theorem dX12_by_19 : decode cX12_by 19 = .ok (.getfield 7, 3) := by decide +kernel
theorem dX12_by_22 : decode cX12_by 22 = .ok (.iconst 3, 1) := by decide +kernel
theorem dX12_by_23 : decode cX12_by 23 = .ok (.iload_n 1, 1) := by decide +kernel
theorem dX12_by_24 : decode cX12_by 24 = .ok (.iastore, 1) := by decide +kernel
theorem dX12_by_25 : decode cX12_by 25 = .ok (.iconst 1, 1) := by decide +kernel
theorem dX12_by_26 : decode cX12_by 26 = .ok (.ireturn, 1) := by decide +kernel
theorem dX12_clip_0 : decode cX12_clip 0 = .ok (.lload_n 0, 1) := by decide +kernel
theorem dX12_clip_1 : decode cX12_clip 1 = .ok (.ldc2_w 274, 3) := by decide +kernel
theorem dX12_clip_4 : decode cX12_clip 4 = .ok (.lcmp, 1) := by decide +kernel
theorem dX12_clip_5 : decode cX12_clip 5 = .ok (.ifCond .le 9, 3) := by decide +kernel
theorem dX12_clip_8 : decode cX12_clip 8 = .ok (.ldc2_w 274, 3) := by decide +kernel
theorem dX12_clip_11 : decode cX12_clip 11 = .ok (.goto 18, 3) := by decide +kernel
theorem dX12_clip_14 : decode cX12_clip 14 = .ok (.lload_n 0, 1) := by decide +kernel
theorem dX12_clip_15 : decode cX12_clip 15 = .ok (.ldc2_w 276, 3) := by decide +kernel
theorem dX12_clip_18 : decode cX12_clip 18 = .ok (.lcmp, 1) := by decide +kernel
theorem dX12_clip_19 : decode cX12_clip 19 = .ok (.ifCond .ge 9, 3) := by decide +kernel
theorem dX12_clip_22 : decode cX12_clip 22 = .ok (.ldc2_w 276, 3) := by decide +kernel
theorem dX12_clip_25 : decode cX12_clip 25 = .ok (.goto 4, 3) := by decide +kernel
theorem dX12_clip_28 : decode cX12_clip 28 = .ok (.lload_n 0, 1) := by decide +kernel
theorem dX12_clip_29 : decode cX12_clip 29 = .ok (.lreturn, 1) := by decide +kernel
theorem dX12_two_0 : decode cX12_two 0 = .ok (.iload_n 0, 1) := by decide +kernel
theorem dX12_two_1 : decode cX12_two 1 = .ok (.tableswitch 48 3 5 #[27, 34, 41], 27) := by decide +kernel
theorem dX12_two_28 : decode cX12_two 28 = .ok (.lload_n 1, 1) := by decide +kernel
theorem dX12_two_29 : decode cX12_two 29 = .ok (.lload_n 3, 1) := by decide +kernel
theorem dX12_two_30 : decode cX12_two 30 = .ok (.ladd, 1) := by decide +kernel
theorem dX12_two_31 : decode cX12_two 31 = .ok (.invokestatic 278, 3) := by decide +kernel
theorem dX12_two_34 : decode cX12_two 34 = .ok (.lreturn, 1) := by decide +kernel
theorem dX12_two_35 : decode cX12_two 35 = .ok (.lload_n 1, 1) := by decide +kernel
theorem dX12_two_36 : decode cX12_two 36 = .ok (.lload_n 3, 1) := by decide +kernel
theorem dX12_two_37 : decode cX12_two 37 = .ok (.lsub, 1) := by decide +kernel
theorem dX12_two_38 : decode cX12_two 38 = .ok (.invokestatic 278, 3) := by decide +kernel
theorem dX12_two_41 : decode cX12_two 41 = .ok (.lreturn, 1) := by decide +kernel
theorem dX12_two_42 : decode cX12_two 42 = .ok (.lload_n 1, 1) := by decide +kernel
theorem dX12_two_43 : decode cX12_two 43 = .ok (.lload_n 3, 1) := by decide +kernel
theorem dX12_two_44 : decode cX12_two 44 = .ok (.lmul, 1) := by decide +kernel
theorem dX12_two_45 : decode cX12_two 45 = .ok (.invokestatic 278, 3) := by decide +kernel
theorem dX12_two_48 : decode cX12_two 48 = .ok (.lreturn, 1) := by decide +kernel
theorem dX12_two_49 : decode cX12_two 49 = .ok (.lload_n 3, 1) := by decide +kernel
theorem dX12_two_50 : decode cX12_two 50 = .ok (.lconst 0, 1) := by decide +kernel
theorem dX12_two_51 : decode cX12_two 51 = .ok (.lcmp, 1) := by decide +kernel
theorem dX12_two_52 : decode cX12_two 52 = .ok (.ifCond .ne 7, 3) := by decide +kernel
theorem dX12_two_55 : decode cX12_two 55 = .ok (.lconst 0, 1) := by decide +kernel
theorem dX12_two_56 : decode cX12_two 56 = .ok (.goto 9, 3) := by decide +kernel
theorem dX12_two_59 : decode cX12_two 59 = .ok (.lload_n 1, 1) := by decide +kernel
theorem dX12_two_60 : decode cX12_two 60 = .ok (.lload_n 3, 1) := by decide +kernel
theorem dX12_two_61 : decode cX12_two 61 = .ok (.ldiv, 1) := by decide +kernel
theorem dX12_two_62 : decode cX12_two 62 = .ok (.invokestatic 278, 3) := by decide +kernel
theorem dX12_two_65 : decode cX12_two 65 = .ok (.lreturn, 1) := by decide +kernel
theorem dX12_isAsked_0 : decode cX12_isAsked 0 = .ok (.iload_n 0, 1) := by decide +kernel
theorem dX12_isAsked_1 : decode cX12_isAsked 1 = .ok (.bipush 10, 2) := by decide +kernel
theorem dX12_isAsked_3 : decode cX12_isAsked 3 = .ok (.if_icmp .ne 17, 3) := by decide +kernel
theorem dX12_isAsked_6 : decode cX12_isAsked 6 = .ok (.lload_n 1, 1) := by decide +kernel
theorem dX12_isAsked_7 : decode cX12_isAsked 7 = .ok (.lload_n 3, 1) := by decide +kernel
theorem dX12_isAsked_8 : decode cX12_isAsked 8 = .ok (.lcmp, 1) := by decide +kernel
theorem dX12_isAsked_9 : decode cX12_isAsked 9 = .ok (.ifCond .ge 7, 3) := by decide +kernel
theorem dX12_isAsked_12 : decode cX12_isAsked 12 = .ok (.iconst 1, 1) := by decide +kernel
theorem dX12_isAsked_13 : decode cX12_isAsked 13 = .ok (.goto 98, 3) := by decide +kernel
theorem dX12_isAsked_16 : decode cX12_isAsked 16 = .ok (.iconst 0, 1) := by decide +kernel
theorem dX12_isAsked_17 : decode cX12_isAsked 17 = .ok (.goto 94, 3) := by decide +kernel
theorem dX12_isAsked_20 : decode cX12_isAsked 20 = .ok (.iload_n 0, 1) := by decide +kernel
theorem dX12_isAsked_21 : decode cX12_isAsked 21 = .ok (.bipush 11, 2) := by decide +kernel
theorem dX12_isAsked_23 : decode cX12_isAsked 23 = .ok (.if_icmp .ne 17, 3) := by decide +kernel
theorem dX12_isAsked_26 : decode cX12_isAsked 26 = .ok (.lload_n 1, 1) := by decide +kernel
theorem dX12_isAsked_27 : decode cX12_isAsked 27 = .ok (.lload_n 3, 1) := by decide +kernel
theorem dX12_isAsked_28 : decode cX12_isAsked 28 = .ok (.lcmp, 1) := by decide +kernel
theorem dX12_isAsked_29 : decode cX12_isAsked 29 = .ok (.ifCond .gt 7, 3) := by decide +kernel
theorem dX12_isAsked_32 : decode cX12_isAsked 32 = .ok (.iconst 1, 1) := by decide +kernel
theorem dX12_isAsked_33 : decode cX12_isAsked 33 = .ok (.goto 78, 3) := by decide +kernel
theorem dX12_isAsked_36 : decode cX12_isAsked 36 = .ok (.iconst 0, 1) := by decide +kernel
theorem dX12_isAsked_37 : decode cX12_isAsked 37 = .ok (.goto 74, 3) := by decide +kernel
theorem dX12_isAsked_40 : decode cX12_isAsked 40 = .ok (.iload_n 0, 1) := by decide +kernel
theorem dX12_isAsked_41 : decode cX12_isAsked 41 = .ok (.bipush 12, 2) := by decide +kernel
theorem dX12_isAsked_43 : decode cX12_isAsked 43 = .ok (.if_icmp .ne 17, 3) := by decide +kernel
theorem dX12_isAsked_46 : decode cX12_isAsked 46 = .ok (.lload_n 1, 1) := by decide +kernel
theorem dX12_isAsked_47 : decode cX12_isAsked 47 = .ok (.lload_n 3, 1) := by decide +kernel
theorem dX12_isAsked_48 : decode cX12_isAsked 48 = .ok (.lcmp, 1) := by decide +kernel
theorem dX12_isAsked_49 : decode cX12_isAsked 49 = .ok (.ifCond .le 7, 3) := by decide +kernel
theorem dX12_isAsked_52 : decode cX12_isAsked 52 = .ok (.iconst 1, 1) := by decide +kernel
theorem dX12_isAsked_53 : decode cX12_isAsked 53 = .ok (.goto 58, 3) := by decide +kernel
theorem dX12_isAsked_56 : decode cX12_isAsked 56 = .ok (.iconst 0, 1) := by decide +kernel
theorem dX12_isAsked_57 : decode cX12_isAsked 57 = .ok (.goto 54, 3) := by decide +kernel
theorem dX12_isAsked_60 : decode cX12_isAsked 60 = .ok (.iload_n 0, 1) := by decide +kernel
theorem dX12_isAsked_61 : decode cX12_isAsked 61 = .ok (.bipush 13, 2) := by decide +kernel
theorem dX12_isAsked_63 : decode cX12_isAsked 63 = .ok (.if_icmp .ne 17, 3) := by decide +kernel
theorem dX12_isAsked_66 : decode cX12_isAsked 66 = .ok (.lload_n 1, 1) := by decide +kernel
theorem dX12_isAsked_67 : decode cX12_isAsked 67 = .ok (.lload_n 3, 1) := by decide +kernel
theorem dX12_isAsked_68 : decode cX12_isAsked 68 = .ok (.lcmp, 1) := by decide +kernel
theorem dX12_isAsked_69 : decode cX12_isAsked 69 = .ok (.ifCond .lt 7, 3) := by decide +kernel
theorem dX12_isAsked_72 : decode cX12_isAsked 72 = .ok (.iconst 1, 1) := by decide +kernel
theorem dX12_isAsked_73 : decode cX12_isAsked 73 = .ok (.goto 38, 3) := by decide +kernel
theorem dX12_isAsked_76 : decode cX12_isAsked 76 = .ok (.iconst 0, 1) := by decide +kernel
theorem dX12_isAsked_77 : decode cX12_isAsked 77 = .ok (.goto 34, 3) := by decide +kernel
theorem dX12_isAsked_80 : decode cX12_isAsked 80 = .ok (.iload_n 0, 1) := by decide +kernel
theorem dX12_isAsked_81 : decode cX12_isAsked 81 = .ok (.bipush 14, 2) := by decide +kernel
theorem dX12_isAsked_83 : decode cX12_isAsked 83 = .ok (.if_icmp .ne 17, 3) := by decide +kernel
theorem dX12_isAsked_86 : decode cX12_isAsked 86 = .ok (.lload_n 1, 1) := by decide +kernel
theorem dX12_isAsked_87 : decode cX12_isAsked 87 = .ok (.lload_n 3, 1) := by decide +kernel
theorem dX12_isAsked_88 : decode cX12_isAsked 88 = .ok (.lcmp, 1) := by decide +kernel
theorem dX12_isAsked_89 : decode cX12_isAsked 89 = .ok (.ifCond .ne 7, 3) := by decide +kernel
theorem dX12_isAsked_92 : decode cX12_isAsked 92 = .ok (.iconst 1, 1) := by decide +kernel
theorem dX12_isAsked_93 : decode cX12_isAsked 93 = .ok (.goto 18, 3) := by decide +kernel
theorem dX12_isAsked_96 : decode cX12_isAsked 96 = .ok (.iconst 0, 1) := by decide +kernel
theorem dX12_isAsked_97 : decode cX12_isAsked 97 = .ok (.goto 14, 3) := by decide +kernel
theorem dX12_isAsked_100 : decode cX12_isAsked 100 = .ok (.lload_n 1, 1) := by decide +kernel
theorem dX12_isAsked_101 : decode cX12_isAsked 101 = .ok (.lload_n 3, 1) := by decide +kernel
theorem dX12_isAsked_102 : decode cX12_isAsked 102 = .ok (.lcmp, 1) := by decide +kernel
theorem dX12_isAsked_103 : decode cX12_isAsked 103 = .ok (.ifCond .eq 7, 3) := by decide +kernel
theorem dX12_isAsked_106 : decode cX12_isAsked 106 = .ok (.iconst 1, 1) := by decide +kernel
theorem dX12_isAsked_107 : decode cX12_isAsked 107 = .ok (.goto 4, 3) := by decide +kernel
theorem dX12_isAsked_110 : decode cX12_isAsked 110 = .ok (.iconst 0, 1) := by decide +kernel
theorem dX12_isAsked_111 : decode cX12_isAsked 111 = .ok (.ireturn, 1) := by decide +kernel
theorem dX12_power_0 : decode cX12_power 0 = .ok (.lload_n 2, 1) := by decide +kernel
theorem dX12_power_1 : decode cX12_power 1 = .ok (.lconst 0, 1) := by decide +kernel
theorem dX12_power_2 : decode cX12_power 2 = .ok (.lcmp, 1) := by decide +kernel
theorem dX12_power_3 : decode cX12_power 3 = .ok (.ifCond .ge 5, 3) := by decide +kernel
theorem dX12_power_6 : decode cX12_power 6 = .ok (.lconst 0, 1) := by decide +kernel
theorem dX12_power_7 : decode cX12_power 7 = .ok (.lreturn, 1) := by decide +kernel
theorem dX12_power_8 : decode cX12_power 8 = .ok (.lconst 1, 1) := by decide +kernel
theorem dX12_power_9 : decode cX12_power 9 = .ok (.lstore 4, 2) := by decide +kernel
theorem dX12_power_11 : decode cX12_power 11 = .ok (.iconst 0, 1) := by decide +kernel
theorem dX12_power_12 : decode cX12_power 12 = .ok (.istore 6, 2) := by decide +kernel
theorem dX12_power_14 : decode cX12_power 14 = .ok (.iload 6, 2) := by decide +kernel
theorem dX12_power_16 : decode cX12_power 16 = .ok (.bipush 99, 2) := by decide +kernel
theorem dX12_power_18 : decode cX12_power 18 = .ok (.if_icmp .ge 26, 3) := by decide +kernel
theorem dX12_power_21 : decode cX12_power 21 = .ok (.iload 6, 2) := by decide +kernel
theorem dX12_power_23 : decode cX12_power 23 = .ok (.i2l, 1) := by decide +kernel
theorem dX12_power_24 : decode cX12_power 24 = .ok (.lload_n 2, 1) := by decide +kernel
theorem dX12_power_25 : decode cX12_power 25 = .ok (.lcmp, 1) := by decide +kernel
theorem dX12_power_26 : decode cX12_power 26 = .ok (.ifCond .ge 18, 3) := by decide +kernel
theorem dX12_power_29 : decode cX12_power 29 = .ok (.iconst 5, 1) := by decide +kernel
theorem dX12_power_30 : decode cX12_power 30 = .ok (.lload 4, 2) := by decide +kernel
theorem dX12_power_32 : decode cX12_power 32 = .ok (.lload_n 0, 1) := by decide +kernel
theorem dX12_power_33 : decode cX12_power 33 = .ok (.invokestatic 282, 3) := by decide +kernel
theorem dX12_power_36 : decode cX12_power 36 = .ok (.lstore 4, 2) := by decide +kernel
theorem dX12_power_38 : decode cX12_power 38 = .ok (.iinc 6 1, 3) := by decide +kernel
theorem dX12_power_41 : decode cX12_power 41 = .ok (.goto (-27), 3) := by decide +kernel
theorem dX12_power_44 : decode cX12_power 44 = .ok (.lload 4, 2) := by decide +kernel
theorem dX12_power_46 : decode cX12_power 46 = .ok (.lreturn, 1) := by decide +kernel
theorem dX12_isSo_0 : decode cX12_isSo 0 = .ok (.sipush 801, 3) := by decide +kernel
theorem dX12_isSo_3 : decode cX12_isSo 3 = .ok (.iload_n 1, 1) := by decide +kernel
theorem dX12_isSo_4 : decode cX12_isSo 4 = .ok (.imul, 1) := by decide +kernel
theorem dX12_isSo_5 : decode cX12_isSo 5 = .ok (.iconst 1, 1) := by decide +kernel
theorem dX12_isSo_6 : decode cX12_isSo 6 = .ok (.iadd, 1) := by decide +kernel
theorem dX12_isSo_7 : decode cX12_isSo 7 = .ok (.bipush 8, 2) := by decide +kernel
theorem dX12_isSo_9 : decode cX12_isSo 9 = .ok (.iload_n 2, 1) := by decide +kernel
theorem dX12_isSo_10 : decode cX12_isSo 10 = .ok (.imul, 1) := by decide +kernel
theorem dX12_isSo_11 : decode cX12_isSo 11 = .ok (.iadd, 1) := by decide +kernel
theorem dX12_isSo_12 : decode cX12_isSo 12 = .ok (.istore_n 3, 1) := by decide +kernel
theorem dX12_isSo_13 : decode cX12_isSo 13 = .ok (.sipush 801, 3) := by decide +kernel
theorem dX12_isSo_16 : decode cX12_isSo 16 = .ok (.iload_n 1, 1) := by decide +kernel
theorem dX12_isSo_17 : decode cX12_isSo 17 = .ok (.imul, 1) := by decide +kernel
theorem dX12_isSo_18 : decode cX12_isSo 18 = .ok (.sipush 193, 3) := by decide +kernel
theorem dX12_isSo_21 : decode cX12_isSo 21 = .ok (.iadd, 1) := by decide +kernel
theorem dX12_isSo_22 : decode cX12_isSo 22 = .ok (.istore 4, 2) := by decide +kernel
theorem dX12_isSo_24 : decode cX12_isSo 24 = .ok (.iconst 0, 1) := by decide +kernel
theorem dX12_isSo_25 : decode cX12_isSo 25 = .ok (.istore 5, 2) := by decide +kernel
theorem dX12_isSo_27 : decode cX12_isSo 27 = .ok (.iconst 0, 1) := by decide +kernel
theorem dX12_isSo_28 : decode cX12_isSo 28 = .ok (.istore 6, 2) := by decide +kernel
theorem dX12_isSo_30 : decode cX12_isSo 30 = .ok (.aload_n 0, 1) := by decide +kernel
theorem dX12_isSo_31 : decode cX12_isSo 31 = .ok (.getfield 16, 3) := by decide +kernel
theorem dX12_isSo_34 : decode cX12_isSo 34 = .ok (.iload_n 3, 1) := by decide +kernel
theorem dX12_isSo_35 : decode cX12_isSo 35 = .ok (.iconst 1, 1) := by decide +kernel
theorem dX12_isSo_36 : decode cX12_isSo 36 = .ok (.iadd, 1) := by decide +kernel
theorem dX12_isSo_37 : decode cX12_isSo 37 = .ok (.iaload, 1) := by decide +kernel
theorem dX12_isSo_38 : decode cX12_isSo 38 = .ok (.istore 7, 2) := by decide +kernel
theorem dX12_isSo_40 : decode cX12_isSo 40 = .ok (.iload 7, 2) := by decide +kernel
theorem dX12_isSo_42 : decode cX12_isSo 42 = .ok (.aload_n 0, 1) := by decide +kernel
theorem dX12_isSo_43 : decode cX12_isSo 43 = .ok (.getfield 16, 3) := by decide +kernel
theorem dX12_isSo_46 : decode cX12_isSo 46 = .ok (.iload_n 3, 1) := by decide +kernel
theorem dX12_isSo_47 : decode cX12_isSo 47 = .ok (.iconst 2, 1) := by decide +kernel
theorem dX12_isSo_48 : decode cX12_isSo 48 = .ok (.iadd, 1) := by decide +kernel
theorem dX12_isSo_49 : decode cX12_isSo 49 = .ok (.iaload, 1) := by decide +kernel
theorem dX12_isSo_50 : decode cX12_isSo 50 = .ok (.if_icmp .ge 333, 3) := by decide +kernel
theorem dX12_isSo_53 : decode cX12_isSo 53 = .ok (.aload_n 0, 1) := by decide +kernel
theorem dX12_isSo_54 : decode cX12_isSo 54 = .ok (.getfield 16, 3) := by decide +kernel
theorem dX12_isSo_57 : decode cX12_isSo 57 = .ok (.iload 4, 2) := by decide +kernel
theorem dX12_isSo_59 : decode cX12_isSo 59 = .ok (.iconst 2, 1) := by decide +kernel
theorem dX12_isSo_60 : decode cX12_isSo 60 = .ok (.iload 7, 2) := by decide +kernel
theorem dX12_isSo_62 : decode cX12_isSo 62 = .ok (.imul, 1) := by decide +kernel
theorem dX12_isSo_63 : decode cX12_isSo 63 = .ok (.iadd, 1) := by decide +kernel
theorem dX12_isSo_64 : decode cX12_isSo 64 = .ok (.iaload, 1) := by decide +kernel
theorem dX12_isSo_65 : decode cX12_isSo 65 = .ok (.istore 8, 2) := by decide +kernel
theorem dX12_isSo_67 : decode cX12_isSo 67 = .ok (.aload_n 0, 1) := by decide +kernel
theorem dX12_isSo_68 : decode cX12_isSo 68 = .ok (.getfield 16, 3) := by decide +kernel
theorem dX12_isSo_71 : decode cX12_isSo 71 = .ok (.iload 4, 2) := by decide +kernel
theorem dX12_isSo_73 : decode cX12_isSo 73 = .ok (.iconst 2, 1) := by decide +kernel
theorem dX12_isSo_74 : decode cX12_isSo 74 = .ok (.iload 7, 2) := by decide +kernel
theorem dX12_isSo_76 : decode cX12_isSo 76 = .ok (.imul, 1) := by decide +kernel
theorem dX12_isSo_77 : decode cX12_isSo 77 = .ok (.iadd, 1) := by decide +kernel
theorem dX12_isSo_78 : decode cX12_isSo 78 = .ok (.iconst 1, 1) := by decide +kernel
theorem dX12_isSo_79 : decode cX12_isSo 79 = .ok (.iadd, 1) := by decide +kernel
theorem dX12_isSo_80 : decode cX12_isSo 80 = .ok (.iaload, 1) := by decide +kernel
theorem dX12_isSo_81 : decode cX12_isSo 81 = .ok (.istore 9, 2) := by decide +kernel
theorem dX12_isSo_83 : decode cX12_isSo 83 = .ok (.iload 8, 2) := by decide +kernel
theorem dX12_isSo_85 : decode cX12_isSo 85 = .ok (.iconst 1, 1) := by decide +kernel
theorem dX12_isSo_86 : decode cX12_isSo 86 = .ok (.if_icmp .gt 35, 3) := by decide +kernel
theorem dX12_isSo_89 : decode cX12_isSo 89 = .ok (.aload_n 0, 1) := by decide +kernel
theorem dX12_isSo_90 : decode cX12_isSo 90 = .ok (.getfield 38, 3) := by decide +kernel
theorem dX12_isSo_93 : decode cX12_isSo 93 = .ok (.iload 5, 2) := by decide +kernel
theorem dX12_isSo_95 : decode cX12_isSo 95 = .ok (.iload 8, 2) := by decide +kernel
theorem dX12_isSo_97 : decode cX12_isSo 97 = .ok (.ifCond .ne 9, 3) := by decide +kernel
theorem dX12_isSo_100 : decode cX12_isSo 100 = .ok (.iload 9, 2) := by decide +kernel
theorem dX12_isSo_102 : decode cX12_isSo 102 = .ok (.i2l, 1) := by decide +kernel
theorem dX12_isSo_103 : decode cX12_isSo 103 = .ok (.goto 11, 3) := by decide +kernel
theorem dX12_isSo_106 : decode cX12_isSo 106 = .ok (.aload_n 0, 1) := by decide +kernel
theorem dX12_isSo_107 : decode cX12_isSo 107 = .ok (.getfield 35, 3) := by decide +kernel
theorem dX12_isSo_110 : decode cX12_isSo 110 = .ok (.iload 9, 2) := by decide +kernel
theorem dX12_isSo_112 : decode cX12_isSo 112 = .ok (.iaload, 1) := by decide +kernel
theorem dX12_isSo_113 : decode cX12_isSo 113 = .ok (.i2l, 1) := by decide +kernel
theorem dX12_isSo_114 : decode cX12_isSo 114 = .ok (.lastore, 1) := by decide +kernel
theorem dX12_isSo_115 : decode cX12_isSo 115 = .ok (.iinc 5 1, 3) := by decide +kernel
theorem dX12_isSo_118 : decode cX12_isSo 118 = .ok (.goto 259, 3) := by decide +kernel
theorem dX12_isSo_121 : decode cX12_isSo 121 = .ok (.iload 8, 2) := by decide +kernel
theorem dX12_isSo_123 : decode cX12_isSo 123 = .ok (.iconst 2, 1) := by decide +kernel
theorem dX12_isSo_124 : decode cX12_isSo 124 = .ok (.if_icmp .ne 25, 3) := by decide +kernel
theorem dX12_isSo_127 : decode cX12_isSo 127 = .ok (.aload_n 0, 1) := by decide +kernel
theorem dX12_isSo_128 : decode cX12_isSo 128 = .ok (.getfield 38, 3) := by decide +kernel
theorem dX12_isSo_131 : decode cX12_isSo 131 = .ok (.iload 5, 2) := by decide +kernel
theorem dX12_isSo_133 : decode cX12_isSo 133 = .ok (.iconst 1, 1) := by decide +kernel
theorem dX12_isSo_134 : decode cX12_isSo 134 = .ok (.isub, 1) := by decide +kernel
theorem dX12_isSo_135 : decode cX12_isSo 135 = .ok (.aload_n 0, 1) := by decide +kernel
theorem dX12_isSo_136 : decode cX12_isSo 136 = .ok (.getfield 38, 3) := by decide +kernel
theorem dX12_isSo_139 : decode cX12_isSo 139 = .ok (.iload 5, 2) := by decide +kernel
theorem dX12_isSo_141 : decode cX12_isSo 141 = .ok (.iconst 1, 1) := by decide +kernel
theorem dX12_isSo_142 : decode cX12_isSo 142 = .ok (.isub, 1) := by decide +kernel
theorem dX12_isSo_143 : decode cX12_isSo 143 = .ok (.laload, 1) := by decide +kernel
theorem dX12_isSo_144 : decode cX12_isSo 144 = .ok (.lneg, 1) := by decide +kernel
theorem dX12_isSo_145 : decode cX12_isSo 145 = .ok (.lastore, 1) := by decide +kernel
theorem dX12_isSo_146 : decode cX12_isSo 146 = .ok (.goto 231, 3) := by decide +kernel
theorem dX12_isSo_149 : decode cX12_isSo 149 = .ok (.iload 8, 2) := by decide +kernel
theorem dX12_isSo_151 : decode cX12_isSo 151 = .ok (.bipush 10, 2) := by decide +kernel
theorem dX12_isSo_153 : decode cX12_isSo 153 = .ok (.if_icmp .ge 68, 3) := by decide +kernel
theorem dX12_isSo_156 : decode cX12_isSo 156 = .ok (.iinc 5 (-1), 3) := by decide +kernel
theorem dX12_isSo_159 : decode cX12_isSo 159 = .ok (.aload_n 0, 1) := by decide +kernel
theorem dX12_isSo_160 : decode cX12_isSo 160 = .ok (.getfield 38, 3) := by decide +kernel
theorem dX12_isSo_163 : decode cX12_isSo 163 = .ok (.iload 5, 2) := by decide +kernel
theorem dX12_isSo_165 : decode cX12_isSo 165 = .ok (.iconst 1, 1) := by decide +kernel
theorem dX12_isSo_166 : decode cX12_isSo 166 = .ok (.isub, 1) := by decide +kernel
theorem dX12_isSo_167 : decode cX12_isSo 167 = .ok (.iload 8, 2) := by decide +kernel
theorem dX12_isSo_169 : decode cX12_isSo 169 = .ok (.bipush 7, 2) := by decide +kernel
theorem dX12_isSo_171 : decode cX12_isSo 171 = .ok (.if_icmp .ne 25, 3) := by decide +kernel
theorem dX12_isSo_174 : decode cX12_isSo 174 = .ok (.aload_n 0, 1) := by decide +kernel
theorem dX12_isSo_175 : decode cX12_isSo 175 = .ok (.getfield 38, 3) := by decide +kernel
theorem dX12_isSo_178 : decode cX12_isSo 178 = .ok (.iload 5, 2) := by decide +kernel
theorem dX12_isSo_180 : decode cX12_isSo 180 = .ok (.iconst 1, 1) := by decide +kernel
theorem dX12_isSo_181 : decode cX12_isSo 181 = .ok (.isub, 1) := by decide +kernel
theorem dX12_isSo_182 : decode cX12_isSo 182 = .ok (.laload, 1) := by decide +kernel
theorem dX12_isSo_183 : decode cX12_isSo 183 = .ok (.aload_n 0, 1) := by decide +kernel
theorem dX12_isSo_184 : decode cX12_isSo 184 = .ok (.getfield 38, 3) := by decide +kernel
theorem dX12_isSo_187 : decode cX12_isSo 187 = .ok (.iload 5, 2) := by decide +kernel
theorem dX12_isSo_189 : decode cX12_isSo 189 = .ok (.laload, 1) := by decide +kernel
theorem dX12_isSo_190 : decode cX12_isSo 190 = .ok (.invokestatic 286, 3) := by decide +kernel
theorem dX12_isSo_193 : decode cX12_isSo 193 = .ok (.goto 24, 3) := by decide +kernel
theorem dX12_isSo_196 : decode cX12_isSo 196 = .ok (.iload 8, 2) := by decide +kernel
theorem dX12_isSo_198 : decode cX12_isSo 198 = .ok (.aload_n 0, 1) := by decide +kernel
theorem dX12_isSo_199 : decode cX12_isSo 199 = .ok (.getfield 38, 3) := by decide +kernel
theorem dX12_isSo_202 : decode cX12_isSo 202 = .ok (.iload 5, 2) := by decide +kernel
theorem dX12_isSo_204 : decode cX12_isSo 204 = .ok (.iconst 1, 1) := by decide +kernel
theorem dX12_isSo_205 : decode cX12_isSo 205 = .ok (.isub, 1) := by decide +kernel
theorem dX12_isSo_206 : decode cX12_isSo 206 = .ok (.laload, 1) := by decide +kernel
theorem dX12_isSo_207 : decode cX12_isSo 207 = .ok (.aload_n 0, 1) := by decide +kernel
theorem dX12_isSo_208 : decode cX12_isSo 208 = .ok (.getfield 38, 3) := by decide +kernel
theorem dX12_isSo_211 : decode cX12_isSo 211 = .ok (.iload 5, 2) := by decide +kernel
theorem dX12_isSo_213 : decode cX12_isSo 213 = .ok (.laload, 1) := by decide +kernel
theorem dX12_isSo_214 : decode cX12_isSo 214 = .ok (.invokestatic 282, 3) := by decide +kernel
theorem dX12_isSo_217 : decode cX12_isSo 217 = .ok (.lastore, 1) := by decide +kernel
theorem dX12_isSo_218 : decode cX12_isSo 218 = .ok (.goto 159, 3) := by decide +kernel
theorem dX12_isSo_221 : decode cX12_isSo 221 = .ok (.iload 8, 2) := by decide +kernel
theorem dX12_isSo_223 : decode cX12_isSo 223 = .ok (.bipush 20, 2) := by decide +kernel
theorem dX12_isSo_225 : decode cX12_isSo 225 = .ok (.if_icmp .ge 40, 3) := by decide +kernel
theorem dX12_isSo_228 : decode cX12_isSo 228 = .ok (.iinc 5 (-2), 3) := by decide +kernel
theorem dX12_isSo_231 : decode cX12_isSo 231 = .ok (.aload_n 0, 1) := by decide +kernel
theorem dX12_isSo_232 : decode cX12_isSo 232 = .ok (.getfield 42, 3) := by decide +kernel
theorem dX12_isSo_235 : decode cX12_isSo 235 = .ok (.iload 6, 2) := by decide +kernel
theorem dX12_isSo_237 : decode cX12_isSo 237 = .ok (.iload 8, 2) := by decide +kernel
theorem dX12_isSo_239 : decode cX12_isSo 239 = .ok (.aload_n 0, 1) := by decide +kernel
theorem dX12_isSo_240 : decode cX12_isSo 240 = .ok (.getfield 38, 3) := by decide +kernel
theorem dX12_isSo_243 : decode cX12_isSo 243 = .ok (.iload 5, 2) := by decide +kernel
theorem dX12_isSo_245 : decode cX12_isSo 245 = .ok (.laload, 1) := by decide +kernel
theorem dX12_isSo_246 : decode cX12_isSo 246 = .ok (.aload_n 0, 1) := by decide +kernel
theorem dX12_isSo_247 : decode cX12_isSo 247 = .ok (.getfield 38, 3) := by decide +kernel
theorem dX12_isSo_250 : decode cX12_isSo 250 = .ok (.iload 5, 2) := by decide +kernel
theorem dX12_isSo_252 : decode cX12_isSo 252 = .ok (.iconst 1, 1) := by decide +kernel
theorem dX12_isSo_253 : decode cX12_isSo 253 = .ok (.iadd, 1) := by decide +kernel
theorem dX12_isSo_254 : decode cX12_isSo 254 = .ok (.laload, 1) := by decide +kernel
theorem dX12_isSo_255 : decode cX12_isSo 255 = .ok (.invokestatic 290, 3) := by decide +kernel
theorem dX12_isSo_258 : decode cX12_isSo 258 = .ok (.bastore, 1) := by decide +kernel
theorem dX12_isSo_259 : decode cX12_isSo 259 = .ok (.iinc 6 1, 3) := by decide +kernel
theorem dX12_isSo_262 : decode cX12_isSo 262 = .ok (.goto 115, 3) := by decide +kernel
theorem dX12_isSo_265 : decode cX12_isSo 265 = .ok (.iload 8, 2) := by decide +kernel
theorem dX12_isSo_267 : decode cX12_isSo 267 = .ok (.bipush 20, 2) := by decide +kernel
theorem dX12_isSo_269 : decode cX12_isSo 269 = .ok (.if_icmp .ne 32, 3) := by decide +kernel
theorem dX12_isSo_272 : decode cX12_isSo 272 = .ok (.aload_n 0, 1) := by decide +kernel
theorem dX12_isSo_273 : decode cX12_isSo 273 = .ok (.getfield 42, 3) := by decide +kernel
theorem dX12_isSo_276 : decode cX12_isSo 276 = .ok (.iload 6, 2) := by decide +kernel
theorem dX12_isSo_278 : decode cX12_isSo 278 = .ok (.iconst 1, 1) := by decide +kernel
theorem dX12_isSo_279 : decode cX12_isSo 279 = .ok (.isub, 1) := by decide +kernel
theorem dX12_isSo_280 : decode cX12_isSo 280 = .ok (.aload_n 0, 1) := by decide +kernel
theorem dX12_isSo_281 : decode cX12_isSo 281 = .ok (.getfield 42, 3) := by decide +kernel
