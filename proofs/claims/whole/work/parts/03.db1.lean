theorem dX3_advance_11 : decode cX3_advance 11 = .ok (.dup, 1) := by decide +kernel
theorem dX3_advance_12 : decode cX3_advance 12 = .ok (.getfield 40, 3) := by decide +kernel
theorem dX3_advance_15 : decode cX3_advance 15 = .ok (.iconst 1, 1) := by decide +kernel
theorem dX3_advance_16 : decode cX3_advance 16 = .ok (.iadd, 1) := by decide +kernel
theorem dX3_advance_17 : decode cX3_advance 17 = .ok (.putfield 40, 3) := by decide +kernel
theorem dX3_advance_20 : decode cX3_advance 20 = .ok (.aload_n 0, 1) := by decide +kernel
theorem dX3_advance_21 : decode cX3_advance 21 = .ok (.aload_n 0, 1) := by decide +kernel
theorem dX3_advance_22 : decode cX3_advance 22 = .ok (.getfield 24, 3) := by decide +kernel
theorem dX3_advance_25 : decode cX3_advance 25 = .ok (.getfield 43, 3) := by decide +kernel
theorem dX3_advance_28 : decode cX3_advance 28 = .ok (.aload_n 0, 1) := by decide +kernel
theorem dX3_advance_29 : decode cX3_advance 29 = .ok (.getfield 40, 3) := by decide +kernel
theorem dX3_advance_32 : decode cX3_advance 32 = .ok (.iaload, 1) := by decide +kernel
theorem dX3_advance_33 : decode cX3_advance 33 = .ok (.putfield 46, 3) := by decide +kernel
theorem dX3_advance_36 : decode cX3_advance 36 = .ok (.return_, 1) := by decide +kernel
theorem dX3_fail_0 : decode cX3_fail 0 = .ok (.aload_n 0, 1) := by decide +kernel
theorem dX3_fail_1 : decode cX3_fail 1 = .ok (.iload_n 1, 1) := by decide +kernel
theorem dX3_fail_2 : decode cX3_fail 2 = .ok (.putfield 13, 3) := by decide +kernel
theorem dX3_fail_5 : decode cX3_fail 5 = .ok (.aload_n 0, 1) := by decide +kernel
theorem dX3_fail_6 : decode cX3_fail 6 = .ok (.aload_n 0, 1) := by decide +kernel
theorem dX3_fail_7 : decode cX3_fail 7 = .ok (.getfield 24, 3) := by decide +kernel
theorem dX3_fail_10 : decode cX3_fail 10 = .ok (.getfield 55, 3) := by decide +kernel
theorem dX3_fail_13 : decode cX3_fail 13 = .ok (.aload_n 0, 1) := by decide +kernel
theorem dX3_fail_14 : decode cX3_fail 14 = .ok (.getfield 40, 3) := by decide +kernel
theorem dX3_fail_17 : decode cX3_fail 17 = .ok (.iaload, 1) := by decide +kernel
theorem dX3_fail_18 : decode cX3_fail 18 = .ok (.putfield 17, 3) := by decide +kernel
theorem dX3_fail_21 : decode cX3_fail 21 = .ok (.return_, 1) := by decide +kernel
theorem dX3_readClause_0 : decode cX3_readClause 0 = .ok (.aload_n 0, 1) := by decide +kernel
theorem dX3_readClause_1 : decode cX3_readClause 1 = .ok (.getfield 46, 3) := by decide +kernel
theorem dX3_readClause_4 : decode cX3_readClause 4 = .ok (.istore_n 1, 1) := by decide +kernel
theorem dX3_readClause_5 : decode cX3_readClause 5 = .ok (.iload_n 1, 1) := by decide +kernel
theorem dX3_readClause_6 : decode cX3_readClause 6 = .ok (.bipush 100, 2) := by decide +kernel
theorem dX3_readClause_8 : decode cX3_readClause 8 = .ok (.isub, 1) := by decide +kernel
theorem dX3_readClause_9 : decode cX3_readClause 9 = .ok (.istore_n 2, 1) := by decide +kernel
theorem dX3_readClause_10 : decode cX3_readClause 10 = .ok (.iload_n 1, 1) := by decide +kernel
theorem dX3_readClause_11 : decode cX3_readClause 11 = .ok (.bipush 100, 2) := by decide +kernel
theorem dX3_readClause_13 : decode cX3_readClause 13 = .ok (.if_icmp .lt 9, 3) := by decide +kernel
theorem dX3_readClause_16 : decode cX3_readClause 16 = .ok (.iload_n 1, 1) := by decide +kernel
theorem dX3_readClause_17 : decode cX3_readClause 17 = .ok (.bipush 110, 2) := by decide +kernel
theorem dX3_readClause_19 : decode cX3_readClause 19 = .ok (.if_icmp .le 11, 3) := by decide +kernel
theorem dX3_readClause_22 : decode cX3_readClause 22 = .ok (.aload_n 0, 1) := by decide +kernel
theorem dX3_readClause_23 : decode cX3_readClause 23 = .ok (.iconst 1, 1) := by decide +kernel
theorem dX3_readClause_24 : decode cX3_readClause 24 = .ok (.invokevirtual 58, 3) := by decide +kernel
theorem dX3_readClause_27 : decode cX3_readClause 27 = .ok (.goto 84, 3) := by decide +kernel
theorem dX3_readClause_30 : decode cX3_readClause 30 = .ok (.iload_n 2, 1) := by decide +kernel
theorem dX3_readClause_31 : decode cX3_readClause 31 = .ok (.iconst 3, 1) := by decide +kernel
theorem dX3_readClause_32 : decode cX3_readClause 32 = .ok (.if_icmp .ge 22, 3) := by decide +kernel
theorem dX3_readClause_35 : decode cX3_readClause 35 = .ok (.aload_n 0, 1) := by decide +kernel
theorem dX3_readClause_36 : decode cX3_readClause 36 = .ok (.getfield 28, 3) := by decide +kernel
theorem dX3_readClause_39 : decode cX3_readClause 39 = .ok (.iload_n 2, 1) := by decide +kernel
theorem dX3_readClause_40 : decode cX3_readClause 40 = .ok (.invokevirtual 62, 3) := by decide +kernel
theorem dX3_readClause_43 : decode cX3_readClause 43 = .ok (.ifCond .eq 11, 3) := by decide +kernel
theorem dX3_readClause_46 : decode cX3_readClause 46 = .ok (.aload_n 0, 1) := by decide +kernel
theorem dX3_readClause_47 : decode cX3_readClause 47 = .ok (.iconst 4, 1) := by decide +kernel
theorem dX3_readClause_48 : decode cX3_readClause 48 = .ok (.invokevirtual 58, 3) := by decide +kernel
theorem dX3_readClause_51 : decode cX3_readClause 51 = .ok (.goto 60, 3) := by decide +kernel
theorem dX3_readClause_54 : decode cX3_readClause 54 = .ok (.aload_n 0, 1) := by decide +kernel
theorem dX3_readClause_55 : decode cX3_readClause 55 = .ok (.getfield 28, 3) := by decide +kernel
theorem dX3_readClause_58 : decode cX3_readClause 58 = .ok (.getfield 66, 3) := by decide +kernel
theorem dX3_readClause_61 : decode cX3_readClause 61 = .ok (.bipush 24, 2) := by decide +kernel
theorem dX3_readClause_63 : decode cX3_readClause 63 = .ok (.if_icmp .lt 12, 3) := by decide +kernel
theorem dX3_readClause_66 : decode cX3_readClause 66 = .ok (.aload_n 0, 1) := by decide +kernel
theorem dX3_readClause_67 : decode cX3_readClause 67 = .ok (.bipush 6, 2) := by decide +kernel
theorem dX3_readClause_69 : decode cX3_readClause 69 = .ok (.invokevirtual 58, 3) := by decide +kernel
theorem dX3_readClause_72 : decode cX3_readClause 72 = .ok (.goto 39, 3) := by decide +kernel
theorem dX3_readClause_75 : decode cX3_readClause 75 = .ok (.aload_n 0, 1) := by decide +kernel
theorem dX3_readClause_76 : decode cX3_readClause 76 = .ok (.getfield 28, 3) := by decide +kernel
theorem dX3_readClause_79 : decode cX3_readClause 79 = .ok (.iload_n 1, 1) := by decide +kernel
theorem dX3_readClause_80 : decode cX3_readClause 80 = .ok (.invokevirtual 69, 3) := by decide +kernel
theorem dX3_readClause_83 : decode cX3_readClause 83 = .ok (.aload_n 0, 1) := by decide +kernel
theorem dX3_readClause_84 : decode cX3_readClause 84 = .ok (.invokevirtual 72, 3) := by decide +kernel
theorem dX3_readClause_87 : decode cX3_readClause 87 = .ok (.iload_n 2, 1) := by decide +kernel
theorem dX3_readClause_88 : decode cX3_readClause 88 = .ok (.iconst 3, 1) := by decide +kernel
theorem dX3_readClause_89 : decode cX3_readClause 89 = .ok (.if_icmp .ge 11, 3) := by decide +kernel
theorem dX3_readClause_92 : decode cX3_readClause 92 = .ok (.aload_n 0, 1) := by decide +kernel
theorem dX3_readClause_93 : decode cX3_readClause 93 = .ok (.iload_n 2, 1) := by decide +kernel
theorem dX3_readClause_94 : decode cX3_readClause 94 = .ok (.invokevirtual 75, 3) := by decide +kernel
theorem dX3_readClause_97 : decode cX3_readClause 97 = .ok (.goto 8, 3) := by decide +kernel
theorem dX3_readClause_100 : decode cX3_readClause 100 = .ok (.aload_n 0, 1) := by decide +kernel
theorem dX3_readClause_101 : decode cX3_readClause 101 = .ok (.iload_n 1, 1) := by decide +kernel
theorem dX3_readClause_102 : decode cX3_readClause 102 = .ok (.invokevirtual 78, 3) := by decide +kernel
theorem dX3_readClause_105 : decode cX3_readClause 105 = .ok (.aload_n 0, 1) := by decide +kernel
theorem dX3_readClause_106 : decode cX3_readClause 106 = .ok (.bipush 59, 2) := by decide +kernel
theorem dX3_readClause_108 : decode cX3_readClause 108 = .ok (.invokevirtual 81, 3) := by decide +kernel
theorem dX3_readClause_111 : decode cX3_readClause 111 = .ok (.return_, 1) := by decide +kernel
theorem dX3_readNumbers_0 : decode cX3_readNumbers 0 = .ok (.iload_n 1, 1) := by decide +kernel
theorem dX3_readNumbers_1 : decode cX3_readNumbers 1 = .ok (.tableswitch 140 103 109 #[43, 79, 111, 130, 130, 130, 120], 43) := by decide +kernel
theorem dX3_readNumbers_44 : decode cX3_readNumbers 44 = .ok (.aload_n 0, 1) := by decide +kernel
theorem dX3_readNumbers_45 : decode cX3_readNumbers 45 = .ok (.iconst 1, 1) := by decide +kernel
theorem dX3_readNumbers_46 : decode cX3_readNumbers 46 = .ok (.bipush 9, 2) := by decide +kernel
theorem dX3_readNumbers_48 : decode cX3_readNumbers 48 = .ok (.invokevirtual 84, 3) := by decide +kernel
theorem dX3_readNumbers_51 : decode cX3_readNumbers 51 = .ok (.aload_n 0, 1) := by decide +kernel
theorem dX3_readNumbers_52 : decode cX3_readNumbers 52 = .ok (.bipush 111, 2) := by decide +kernel
theorem dX3_readNumbers_54 : decode cX3_readNumbers 54 = .ok (.invokevirtual 81, 3) := by decide +kernel
theorem dX3_readNumbers_57 : decode cX3_readNumbers 57 = .ok (.aload_n 0, 1) := by decide +kernel
theorem dX3_readNumbers_58 : decode cX3_readNumbers 58 = .ok (.iconst 0, 1) := by decide +kernel
theorem dX3_readNumbers_59 : decode cX3_readNumbers 59 = .ok (.bipush 9, 2) := by decide +kernel
theorem dX3_readNumbers_61 : decode cX3_readNumbers 61 = .ok (.invokevirtual 84, 3) := by decide +kernel
theorem dX3_readNumbers_64 : decode cX3_readNumbers 64 = .ok (.aload_n 0, 1) := by decide +kernel
theorem dX3_readNumbers_65 : decode cX3_readNumbers 65 = .ok (.bipush 112, 2) := by decide +kernel
theorem dX3_readNumbers_67 : decode cX3_readNumbers 67 = .ok (.invokevirtual 81, 3) := by decide +kernel
theorem dX3_readNumbers_70 : decode cX3_readNumbers 70 = .ok (.aload_n 0, 1) := by decide +kernel
theorem dX3_readNumbers_71 : decode cX3_readNumbers 71 = .ok (.iconst 1, 1) := by decide +kernel
theorem dX3_readNumbers_72 : decode cX3_readNumbers 72 = .ok (.bipush 9, 2) := by decide +kernel
theorem dX3_readNumbers_74 : decode cX3_readNumbers 74 = .ok (.invokevirtual 84, 3) := by decide +kernel
theorem dX3_readNumbers_77 : decode cX3_readNumbers 77 = .ok (.goto 64, 3) := by decide +kernel
theorem dX3_readNumbers_80 : decode cX3_readNumbers 80 = .ok (.aload_n 0, 1) := by decide +kernel
theorem dX3_readNumbers_81 : decode cX3_readNumbers 81 = .ok (.iconst 0, 1) := by decide +kernel
theorem dX3_readNumbers_82 : decode cX3_readNumbers 82 = .ok (.iconst 3, 1) := by decide +kernel
theorem dX3_readNumbers_83 : decode cX3_readNumbers 83 = .ok (.invokevirtual 84, 3) := by decide +kernel
theorem dX3_readNumbers_86 : decode cX3_readNumbers 86 = .ok (.aload_n 0, 1) := by decide +kernel
theorem dX3_readNumbers_87 : decode cX3_readNumbers 87 = .ok (.bipush 113, 2) := by decide +kernel
theorem dX3_readNumbers_89 : decode cX3_readNumbers 89 = .ok (.invokevirtual 81, 3) := by decide +kernel
theorem dX3_readNumbers_92 : decode cX3_readNumbers 92 = .ok (.aload_n 0, 1) := by decide +kernel
theorem dX3_readNumbers_93 : decode cX3_readNumbers 93 = .ok (.iconst 0, 1) := by decide +kernel
theorem dX3_readNumbers_94 : decode cX3_readNumbers 94 = .ok (.bipush 99, 2) := by decide +kernel
theorem dX3_readNumbers_96 : decode cX3_readNumbers 96 = .ok (.invokevirtual 84, 3) := by decide +kernel
theorem dX3_readNumbers_99 : decode cX3_readNumbers 99 = .ok (.aload_n 0, 1) := by decide +kernel
theorem dX3_readNumbers_100 : decode cX3_readNumbers 100 = .ok (.bipush 58, 2) := by decide +kernel
theorem dX3_readNumbers_102 : decode cX3_readNumbers 102 = .ok (.invokevirtual 81, 3) := by decide +kernel
theorem dX3_readNumbers_105 : decode cX3_readNumbers 105 = .ok (.aload_n 0, 1) := by decide +kernel
theorem dX3_readNumbers_106 : decode cX3_readNumbers 106 = .ok (.invokevirtual 88, 3) := by decide +kernel
theorem dX3_readNumbers_109 : decode cX3_readNumbers 109 = .ok (.goto 32, 3) := by decide +kernel
theorem dX3_readNumbers_112 : decode cX3_readNumbers 112 = .ok (.aload_n 0, 1) := by decide +kernel
theorem dX3_readNumbers_113 : decode cX3_readNumbers 113 = .ok (.iconst 0, 1) := by decide +kernel
theorem dX3_readNumbers_114 : decode cX3_readNumbers 114 = .ok (.iconst 5, 1) := by decide +kernel
theorem dX3_readNumbers_115 : decode cX3_readNumbers 115 = .ok (.invokevirtual 84, 3) := by decide +kernel
theorem dX3_readNumbers_118 : decode cX3_readNumbers 118 = .ok (.goto 23, 3) := by decide +kernel
theorem dX3_readNumbers_121 : decode cX3_readNumbers 121 = .ok (.aload_n 0, 1) := by decide +kernel
theorem dX3_readNumbers_122 : decode cX3_readNumbers 122 = .ok (.iconst 1, 1) := by decide +kernel
theorem dX3_readNumbers_123 : decode cX3_readNumbers 123 = .ok (.bipush 60, 2) := by decide +kernel
theorem dX3_readNumbers_125 : decode cX3_readNumbers 125 = .ok (.invokevirtual 84, 3) := by decide +kernel
theorem dX3_readNumbers_128 : decode cX3_readNumbers 128 = .ok (.goto 13, 3) := by decide +kernel
theorem dX3_readNumbers_131 : decode cX3_readNumbers 131 = .ok (.aload_n 0, 1) := by decide +kernel
theorem dX3_readNumbers_132 : decode cX3_readNumbers 132 = .ok (.iconst 0, 1) := by decide +kernel
theorem dX3_readNumbers_133 : decode cX3_readNumbers 133 = .ok (.bipush 9, 2) := by decide +kernel
theorem dX3_readNumbers_135 : decode cX3_readNumbers 135 = .ok (.invokevirtual 84, 3) := by decide +kernel
theorem dX3_readNumbers_138 : decode cX3_readNumbers 138 = .ok (.goto 3, 3) := by decide +kernel
theorem dX3_readNumbers_141 : decode cX3_readNumbers 141 = .ok (.return_, 1) := by decide +kernel
theorem dX3_readBells_0 : decode cX3_readBells 0 = .ok (.aload_n 0, 1) := by decide +kernel
theorem dX3_readBells_1 : decode cX3_readBells 1 = .ok (.iconst 0, 1) := by decide +kernel
theorem dX3_readBells_2 : decode cX3_readBells 2 = .ok (.iconst 5, 1) := by decide +kernel
theorem dX3_readBells_3 : decode cX3_readBells 3 = .ok (.invokevirtual 84, 3) := by decide +kernel
theorem dX3_readBells_6 : decode cX3_readBells 6 = .ok (.iconst 1, 1) := by decide +kernel
theorem dX3_readBells_7 : decode cX3_readBells 7 = .ok (.istore_n 1, 1) := by decide +kernel
theorem dX3_readBells_8 : decode cX3_readBells 8 = .ok (.iload_n 1, 1) := by decide +kernel
theorem dX3_readBells_9 : decode cX3_readBells 9 = .ok (.iconst 4, 1) := by decide +kernel
theorem dX3_readBells_10 : decode cX3_readBells 10 = .ok (.if_icmp .gt 58, 3) := by decide +kernel
theorem dX3_readBells_13 : decode cX3_readBells 13 = .ok (.aload_n 0, 1) := by decide +kernel
theorem dX3_readBells_14 : decode cX3_readBells 14 = .ok (.getfield 13, 3) := by decide +kernel
theorem dX3_readBells_17 : decode cX3_readBells 17 = .ok (.ifCond .ne 51, 3) := by decide +kernel
theorem dX3_readBells_20 : decode cX3_readBells 20 = .ok (.aload_n 0, 1) := by decide +kernel
theorem dX3_readBells_21 : decode cX3_readBells 21 = .ok (.getfield 46, 3) := by decide +kernel
theorem dX3_readBells_24 : decode cX3_readBells 24 = .ok (.iconst 2, 1) := by decide +kernel
theorem dX3_readBells_25 : decode cX3_readBells 25 = .ok (.if_icmp .ne 43, 3) := by decide +kernel
theorem dX3_readBells_28 : decode cX3_readBells 28 = .ok (.iload_n 1, 1) := by decide +kernel
theorem dX3_readBells_29 : decode cX3_readBells 29 = .ok (.iconst 4, 1) := by decide +kernel
theorem dX3_readBells_30 : decode cX3_readBells 30 = .ok (.if_icmp .ne 26, 3) := by decide +kernel
theorem dX3_readBells_33 : decode cX3_readBells 33 = .ok (.aload_n 0, 1) := by decide +kernel
theorem dX3_readBells_34 : decode cX3_readBells 34 = .ok (.getfield 24, 3) := by decide +kernel
theorem dX3_readBells_37 : decode cX3_readBells 37 = .ok (.getfield 91, 3) := by decide +kernel
theorem dX3_readBells_40 : decode cX3_readBells 40 = .ok (.aload_n 0, 1) := by decide +kernel
theorem dX3_readBells_41 : decode cX3_readBells 41 = .ok (.getfield 40, 3) := by decide +kernel
theorem dX3_readBells_44 : decode cX3_readBells 44 = .ok (.iaload, 1) := by decide +kernel
theorem dX3_readBells_45 : decode cX3_readBells 45 = .ok (.bipush 6, 2) := by decide +kernel
theorem dX3_readBells_47 : decode cX3_readBells 47 = .ok (.if_icmp .ge 9, 3) := by decide +kernel
theorem dX3_readBells_50 : decode cX3_readBells 50 = .ok (.aload_n 0, 1) := by decide +kernel
theorem dX3_readBells_51 : decode cX3_readBells 51 = .ok (.bipush 7, 2) := by decide +kernel
theorem dX3_readBells_53 : decode cX3_readBells 53 = .ok (.invokevirtual 58, 3) := by decide +kernel
theorem dX3_readBells_56 : decode cX3_readBells 56 = .ok (.aload_n 0, 1) := by decide +kernel
theorem dX3_readBells_57 : decode cX3_readBells 57 = .ok (.iconst 0, 1) := by decide +kernel
theorem dX3_readBells_58 : decode cX3_readBells 58 = .ok (.iconst 5, 1) := by decide +kernel
theorem dX3_readBells_59 : decode cX3_readBells 59 = .ok (.invokevirtual 84, 3) := by decide +kernel
theorem dX3_readBells_62 : decode cX3_readBells 62 = .ok (.iinc 1 1, 3) := by decide +kernel
theorem dX3_readBells_65 : decode cX3_readBells 65 = .ok (.goto (-57), 3) := by decide +kernel
theorem dX3_readBells_68 : decode cX3_readBells 68 = .ok (.return_, 1) := by decide +kernel
theorem dX3_number_0 : decode cX3_number 0 = .ok (.aload_n 0, 1) := by decide +kernel
theorem dX3_number_1 : decode cX3_number 1 = .ok (.getfield 13, 3) := by decide +kernel
theorem dX3_number_4 : decode cX3_number 4 = .ok (.ifCond .eq 4, 3) := by decide +kernel
theorem dX3_number_7 : decode cX3_number 7 = .ok (.return_, 1) := by decide +kernel
theorem dX3_number_8 : decode cX3_number 8 = .ok (.aload_n 0, 1) := by decide +kernel
theorem dX3_number_9 : decode cX3_number 9 = .ok (.getfield 46, 3) := by decide +kernel
theorem dX3_number_12 : decode cX3_number 12 = .ok (.iconst 2, 1) := by decide +kernel
theorem dX3_number_13 : decode cX3_number 13 = .ok (.if_icmp .eq 11, 3) := by decide +kernel
theorem dX3_number_16 : decode cX3_number 16 = .ok (.aload_n 0, 1) := by decide +kernel
theorem dX3_number_17 : decode cX3_number 17 = .ok (.iconst 1, 1) := by decide +kernel
theorem dX3_number_18 : decode cX3_number 18 = .ok (.invokevirtual 58, 3) := by decide +kernel
theorem dX3_number_21 : decode cX3_number 21 = .ok (.goto 54, 3) := by decide +kernel
theorem dX3_number_24 : decode cX3_number 24 = .ok (.aload_n 0, 1) := by decide +kernel
theorem dX3_number_25 : decode cX3_number 25 = .ok (.getfield 24, 3) := by decide +kernel
theorem dX3_number_28 : decode cX3_number 28 = .ok (.getfield 91, 3) := by decide +kernel
theorem dX3_number_31 : decode cX3_number 31 = .ok (.aload_n 0, 1) := by decide +kernel
theorem dX3_number_32 : decode cX3_number 32 = .ok (.getfield 40, 3) := by decide +kernel
theorem dX3_number_35 : decode cX3_number 35 = .ok (.iaload, 1) := by decide +kernel
theorem dX3_number_36 : decode cX3_number 36 = .ok (.iload_n 1, 1) := by decide +kernel
theorem dX3_number_37 : decode cX3_number 37 = .ok (.iload_n 2, 1) := by decide +kernel
theorem dX3_number_38 : decode cX3_number 38 = .ok (.invokestatic 94, 3) := by decide +kernel
theorem dX3_number_41 : decode cX3_number 41 = .ok (.ifCond .ne 11, 3) := by decide +kernel
theorem dX3_number_44 : decode cX3_number 44 = .ok (.aload_n 0, 1) := by decide +kernel
theorem dX3_number_45 : decode cX3_number 45 = .ok (.iconst 2, 1) := by decide +kernel
theorem dX3_number_46 : decode cX3_number 46 = .ok (.invokevirtual 58, 3) := by decide +kernel
theorem dX3_number_49 : decode cX3_number 49 = .ok (.goto 26, 3) := by decide +kernel
theorem dX3_number_52 : decode cX3_number 52 = .ok (.aload_n 0, 1) := by decide +kernel
theorem dX3_number_53 : decode cX3_number 53 = .ok (.getfield 28, 3) := by decide +kernel
theorem dX3_number_56 : decode cX3_number 56 = .ok (.aload_n 0, 1) := by decide +kernel
theorem dX3_number_57 : decode cX3_number 57 = .ok (.getfield 24, 3) := by decide +kernel
theorem dX3_number_60 : decode cX3_number 60 = .ok (.getfield 91, 3) := by decide +kernel
theorem dX3_number_63 : decode cX3_number 63 = .ok (.aload_n 0, 1) := by decide +kernel
theorem dX3_number_64 : decode cX3_number 64 = .ok (.getfield 40, 3) := by decide +kernel
theorem dX3_number_67 : decode cX3_number 67 = .ok (.iaload, 1) := by decide +kernel
theorem dX3_number_68 : decode cX3_number 68 = .ok (.invokevirtual 98, 3) := by decide +kernel
theorem dX3_number_71 : decode cX3_number 71 = .ok (.aload_n 0, 1) := by decide +kernel
theorem dX3_number_72 : decode cX3_number 72 = .ok (.invokevirtual 72, 3) := by decide +kernel
theorem dX3_number_75 : decode cX3_number 75 = .ok (.return_, 1) := by decide +kernel
theorem dX3_pass_0 : decode cX3_pass 0 = .ok (.aload_n 0, 1) := by decide +kernel
theorem dX3_pass_1 : decode cX3_pass 1 = .ok (.getfield 13, 3) := by decide +kernel
theorem dX3_pass_4 : decode cX3_pass 4 = .ok (.ifCond .eq 4, 3) := by decide +kernel
theorem dX3_pass_7 : decode cX3_pass 7 = .ok (.return_, 1) := by decide +kernel
theorem dX3_pass_8 : decode cX3_pass 8 = .ok (.aload_n 0, 1) := by decide +kernel
theorem dX3_pass_9 : decode cX3_pass 9 = .ok (.getfield 46, 3) := by decide +kernel
theorem dX3_pass_12 : decode cX3_pass 12 = .ok (.iload_n 1, 1) := by decide +kernel
theorem dX3_pass_13 : decode cX3_pass 13 = .ok (.if_icmp .eq 11, 3) := by decide +kernel
theorem dX3_pass_16 : decode cX3_pass 16 = .ok (.aload_n 0, 1) := by decide +kernel
theorem dX3_pass_17 : decode cX3_pass 17 = .ok (.iconst 1, 1) := by decide +kernel
theorem dX3_pass_18 : decode cX3_pass 18 = .ok (.invokevirtual 58, 3) := by decide +kernel
theorem dX3_pass_21 : decode cX3_pass 21 = .ok (.goto 7, 3) := by decide +kernel
theorem dX3_pass_24 : decode cX3_pass 24 = .ok (.aload_n 0, 1) := by decide +kernel
theorem dX3_pass_25 : decode cX3_pass 25 = .ok (.invokevirtual 72, 3) := by decide +kernel
theorem dX3_pass_28 : decode cX3_pass 28 = .ok (.return_, 1) := by decide +kernel
theorem dX3_readLaw_0 : decode cX3_readLaw 0 = .ok (.aload_n 0, 1) := by decide +kernel
theorem dX3_readLaw_1 : decode cX3_readLaw 1 = .ok (.getfield 28, 3) := by decide +kernel
theorem dX3_readLaw_4 : decode cX3_readLaw 4 = .ok (.getfield 101, 3) := by decide +kernel
theorem dX3_readLaw_7 : decode cX3_readLaw 7 = .ok (.iload_n 1, 1) := by decide +kernel
theorem dX3_readLaw_8 : decode cX3_readLaw 8 = .ok (.aload_n 0, 1) := by decide +kernel
theorem dX3_readLaw_9 : decode cX3_readLaw 9 = .ok (.getfield 28, 3) := by decide +kernel
theorem dX3_readLaw_12 : decode cX3_readLaw 12 = .ok (.getfield 104, 3) := by decide +kernel
theorem dX3_readLaw_15 : decode cX3_readLaw 15 = .ok (.iastore, 1) := by decide +kernel
theorem dX3_readLaw_16 : decode cX3_readLaw 16 = .ok (.aload_n 0, 1) := by decide +kernel
theorem dX3_readLaw_17 : decode cX3_readLaw 17 = .ok (.iconst 0, 1) := by decide +kernel
theorem dX3_readLaw_18 : decode cX3_readLaw 18 = .ok (.putfield 107, 3) := by decide +kernel
theorem dX3_readLaw_21 : decode cX3_readLaw 21 = .ok (.aload_n 0, 1) := by decide +kernel
theorem dX3_readLaw_22 : decode cX3_readLaw 22 = .ok (.iconst 0, 1) := by decide +kernel
theorem dX3_readLaw_23 : decode cX3_readLaw 23 = .ok (.putfield 110, 3) := by decide +kernel
theorem dX3_readLaw_26 : decode cX3_readLaw 26 = .ok (.aload_n 0, 1) := by decide +kernel
theorem dX3_readLaw_27 : decode cX3_readLaw 27 = .ok (.iconst 0, 1) := by decide +kernel
theorem dX3_readLaw_28 : decode cX3_readLaw 28 = .ok (.putfield 113, 3) := by decide +kernel
theorem dX3_readLaw_31 : decode cX3_readLaw 31 = .ok (.aload_n 0, 1) := by decide +kernel
theorem dX3_readLaw_32 : decode cX3_readLaw 32 = .ok (.iconst 1, 1) := by decide +kernel
theorem dX3_readLaw_33 : decode cX3_readLaw 33 = .ok (.putfield 116, 3) := by decide +kernel
theorem dX3_readLaw_36 : decode cX3_readLaw 36 = .ok (.aload_n 0, 1) := by decide +kernel
theorem dX3_readLaw_37 : decode cX3_readLaw 37 = .ok (.iconst 1, 1) := by decide +kernel
theorem dX3_readLaw_38 : decode cX3_readLaw 38 = .ok (.putfield 120, 3) := by decide +kernel
theorem dX3_readLaw_41 : decode cX3_readLaw 41 = .ok (.aload_n 0, 1) := by decide +kernel
theorem dX3_readLaw_42 : decode cX3_readLaw 42 = .ok (.iconst 0, 1) := by decide +kernel
theorem dX3_readLaw_43 : decode cX3_readLaw 43 = .ok (.putfield 123, 3) := by decide +kernel
theorem dX3_readLaw_46 : decode cX3_readLaw 46 = .ok (.iconst 0, 1) := by decide +kernel
theorem dX3_readLaw_47 : decode cX3_readLaw 47 = .ok (.istore_n 2, 1) := by decide +kernel
theorem dX3_readLaw_48 : decode cX3_readLaw 48 = .ok (.iload_n 2, 1) := by decide +kernel
theorem dX3_readLaw_49 : decode cX3_readLaw 49 = .ok (.sipush 300, 3) := by decide +kernel
theorem dX3_readLaw_52 : decode cX3_readLaw 52 = .ok (.if_icmp .gt 66, 3) := by decide +kernel
theorem dX3_readLaw_55 : decode cX3_readLaw 55 = .ok (.aload_n 0, 1) := by decide +kernel
theorem dX3_readLaw_56 : decode cX3_readLaw 56 = .ok (.getfield 116, 3) := by decide +kernel
theorem dX3_readLaw_59 : decode cX3_readLaw 59 = .ok (.ifCond .eq 11, 3) := by decide +kernel
theorem dX3_readLaw_62 : decode cX3_readLaw 62 = .ok (.aload_n 0, 1) := by decide +kernel
theorem dX3_readLaw_63 : decode cX3_readLaw 63 = .ok (.iload_n 1, 1) := by decide +kernel
theorem dX3_readLaw_64 : decode cX3_readLaw 64 = .ok (.invokevirtual 126, 3) := by decide +kernel
theorem dX3_readLaw_67 : decode cX3_readLaw 67 = .ok (.goto 33, 3) := by decide +kernel
theorem dX3_readLaw_70 : decode cX3_readLaw 70 = .ok (.aload_n 0, 1) := by decide +kernel
theorem dX3_readLaw_71 : decode cX3_readLaw 71 = .ok (.getfield 46, 3) := by decide +kernel
theorem dX3_readLaw_74 : decode cX3_readLaw 74 = .ok (.bipush 59, 2) := by decide +kernel
theorem dX3_readLaw_76 : decode cX3_readLaw 76 = .ok (.if_icmp .ne 20, 3) := by decide +kernel
theorem dX3_readLaw_79 : decode cX3_readLaw 79 = .ok (.aload_n 0, 1) := by decide +kernel
theorem dX3_readLaw_80 : decode cX3_readLaw 80 = .ok (.getfield 123, 3) := by decide +kernel
theorem dX3_readLaw_83 : decode cX3_readLaw 83 = .ok (.ifCond .eq 13, 3) := by decide +kernel
theorem dX3_readLaw_86 : decode cX3_readLaw 86 = .ok (.aload_n 0, 1) := by decide +kernel
theorem dX3_readLaw_87 : decode cX3_readLaw 87 = .ok (.getfield 113, 3) := by decide +kernel
theorem dX3_readLaw_90 : decode cX3_readLaw 90 = .ok (.ifCond .ne 6, 3) := by decide +kernel
theorem dX3_readLaw_93 : decode cX3_readLaw 93 = .ok (.goto 25, 3) := by decide +kernel
theorem dX3_readLaw_96 : decode cX3_readLaw 96 = .ok (.aload_n 0, 1) := by decide +kernel
theorem dX3_readLaw_97 : decode cX3_readLaw 97 = .ok (.invokevirtual 129, 3) := by decide +kernel
theorem dX3_readLaw_100 : decode cX3_readLaw 100 = .ok (.aload_n 0, 1) := by decide +kernel
theorem dX3_readLaw_101 : decode cX3_readLaw 101 = .ok (.getfield 13, 3) := by decide +kernel
theorem dX3_readLaw_104 : decode cX3_readLaw 104 = .ok (.ifCond .eq 4, 3) := by decide +kernel
theorem dX3_readLaw_107 : decode cX3_readLaw 107 = .ok (.return_, 1) := by decide +kernel
theorem dX3_readLaw_108 : decode cX3_readLaw 108 = .ok (.aload_n 0, 1) := by decide +kernel
theorem dX3_readLaw_109 : decode cX3_readLaw 109 = .ok (.invokevirtual 72, 3) := by decide +kernel
theorem dX3_readLaw_112 : decode cX3_readLaw 112 = .ok (.iinc 2 1, 3) := by decide +kernel
theorem dX3_readLaw_115 : decode cX3_readLaw 115 = .ok (.goto (-67), 3) := by decide +kernel
theorem dX3_readLaw_118 : decode cX3_readLaw 118 = .ok (.aload_n 0, 1) := by decide +kernel
theorem dX3_readLaw_119 : decode cX3_readLaw 119 = .ok (.iconst 1, 1) := by decide +kernel
theorem dX3_readLaw_120 : decode cX3_readLaw 120 = .ok (.invokevirtual 132, 3) := by decide +kernel
theorem dX3_readLaw_123 : decode cX3_readLaw 123 = .ok (.aload_n 0, 1) := by decide +kernel
theorem dX3_readLaw_124 : decode cX3_readLaw 124 = .ok (.getfield 28, 3) := by decide +kernel
theorem dX3_readLaw_127 : decode cX3_readLaw 127 = .ok (.getfield 135, 3) := by decide +kernel
theorem dX3_readLaw_130 : decode cX3_readLaw 130 = .ok (.iload_n 1, 1) := by decide +kernel
theorem dX3_readLaw_131 : decode cX3_readLaw 131 = .ok (.aload_n 0, 1) := by decide +kernel
theorem dX3_readLaw_132 : decode cX3_readLaw 132 = .ok (.getfield 28, 3) := by decide +kernel
theorem dX3_readLaw_135 : decode cX3_readLaw 135 = .ok (.getfield 104, 3) := by decide +kernel
theorem dX3_readLaw_138 : decode cX3_readLaw 138 = .ok (.iastore, 1) := by decide +kernel
theorem dX3_readLaw_139 : decode cX3_readLaw 139 = .ok (.return_, 1) := by decide +kernel
theorem dX3_readValue_0 : decode cX3_readValue 0 = .ok (.aload_n 0, 1) := by decide +kernel
theorem dX3_readValue_1 : decode cX3_readValue 1 = .ok (.getfield 46, 3) := by decide +kernel
theorem dX3_readValue_4 : decode cX3_readValue 4 = .ok (.lookupswitch 154 #[(2, 44), (40, 93), (45, 117), (116, 130)], 44) := by decide +kernel
theorem dX3_readValue_48 : decode cX3_readValue 48 = .ok (.aload_n 0, 1) := by decide +kernel
theorem dX3_readValue_49 : decode cX3_readValue 49 = .ok (.getfield 24, 3) := by decide +kernel
theorem dX3_readValue_52 : decode cX3_readValue 52 = .ok (.getfield 91, 3) := by decide +kernel
theorem dX3_readValue_55 : decode cX3_readValue 55 = .ok (.aload_n 0, 1) := by decide +kernel
theorem dX3_readValue_56 : decode cX3_readValue 56 = .ok (.getfield 40, 3) := by decide +kernel
theorem dX3_readValue_59 : decode cX3_readValue 59 = .ok (.iaload, 1) := by decide +kernel
theorem dX3_readValue_60 : decode cX3_readValue 60 = .ok (.sipush 9999, 3) := by decide +kernel
theorem dX3_readValue_63 : decode cX3_readValue 63 = .ok (.if_icmp .le 11, 3) := by decide +kernel
theorem dX3_readValue_66 : decode cX3_readValue 66 = .ok (.aload_n 0, 1) := by decide +kernel
theorem dX3_readValue_67 : decode cX3_readValue 67 = .ok (.iconst 2, 1) := by decide +kernel
theorem dX3_readValue_68 : decode cX3_readValue 68 = .ok (.invokevirtual 58, 3) := by decide +kernel
theorem dX3_readValue_71 : decode cX3_readValue 71 = .ok (.goto 92, 3) := by decide +kernel
theorem dX3_readValue_74 : decode cX3_readValue 74 = .ok (.aload_n 0, 1) := by decide +kernel
theorem dX3_readValue_75 : decode cX3_readValue 75 = .ok (.sipush 1000, 3) := by decide +kernel
theorem dX3_readValue_78 : decode cX3_readValue 78 = .ok (.aload_n 0, 1) := by decide +kernel
theorem dX3_readValue_79 : decode cX3_readValue 79 = .ok (.getfield 24, 3) := by decide +kernel
theorem dX3_readValue_82 : decode cX3_readValue 82 = .ok (.getfield 91, 3) := by decide +kernel
theorem dX3_readValue_85 : decode cX3_readValue 85 = .ok (.aload_n 0, 1) := by decide +kernel
theorem dX3_readValue_86 : decode cX3_readValue 86 = .ok (.getfield 40, 3) := by decide +kernel
theorem dX3_readValue_89 : decode cX3_readValue 89 = .ok (.iaload, 1) := by decide +kernel
theorem dX3_readValue_90 : decode cX3_readValue 90 = .ok (.iadd, 1) := by decide +kernel
theorem dX3_readValue_91 : decode cX3_readValue 91 = .ok (.invokevirtual 138, 3) := by decide +kernel
theorem dX3_readValue_94 : decode cX3_readValue 94 = .ok (.goto 69, 3) := by decide +kernel
theorem dX3_readValue_97 : decode cX3_readValue 97 = .ok (.aload_n 0, 1) := by decide +kernel
theorem dX3_readValue_98 : decode cX3_readValue 98 = .ok (.dup, 1) := by decide +kernel
theorem dX3_readValue_99 : decode cX3_readValue 99 = .ok (.getfield 113, 3) := by decide +kernel
theorem dX3_readValue_102 : decode cX3_readValue 102 = .ok (.iconst 1, 1) := by decide +kernel
theorem dX3_readValue_103 : decode cX3_readValue 103 = .ok (.iadd, 1) := by decide +kernel
theorem dX3_readValue_104 : decode cX3_readValue 104 = .ok (.putfield 113, 3) := by decide +kernel
theorem dX3_readValue_107 : decode cX3_readValue 107 = .ok (.aload_n 0, 1) := by decide +kernel
theorem dX3_readValue_108 : decode cX3_readValue 108 = .ok (.iconst 0, 1) := by decide +kernel
theorem dX3_readValue_109 : decode cX3_readValue 109 = .ok (.putfield 120, 3) := by decide +kernel
theorem dX3_readValue_112 : decode cX3_readValue 112 = .ok (.aload_n 0, 1) := by decide +kernel
theorem dX3_readValue_113 : decode cX3_readValue 113 = .ok (.bipush 40, 2) := by decide +kernel
theorem dX3_readValue_115 : decode cX3_readValue 115 = .ok (.invokevirtual 141, 3) := by decide +kernel
theorem dX3_readValue_118 : decode cX3_readValue 118 = .ok (.goto 45, 3) := by decide +kernel
theorem dX3_readValue_121 : decode cX3_readValue 121 = .ok (.aload_n 0, 1) := by decide +kernel
theorem dX3_readValue_122 : decode cX3_readValue 122 = .ok (.iconst 0, 1) := by decide +kernel
theorem dX3_readValue_123 : decode cX3_readValue 123 = .ok (.putfield 120, 3) := by decide +kernel
theorem dX3_readValue_126 : decode cX3_readValue 126 = .ok (.aload_n 0, 1) := by decide +kernel
theorem dX3_readValue_127 : decode cX3_readValue 127 = .ok (.iconst 5, 1) := by decide +kernel
theorem dX3_readValue_128 : decode cX3_readValue 128 = .ok (.invokevirtual 141, 3) := by decide +kernel
theorem dX3_readValue_131 : decode cX3_readValue 131 = .ok (.goto 32, 3) := by decide +kernel
theorem dX3_readValue_134 : decode cX3_readValue 134 = .ok (.aload_n 0, 1) := by decide +kernel
theorem dX3_readValue_135 : decode cX3_readValue 135 = .ok (.getfield 120, 3) := by decide +kernel
theorem dX3_readValue_138 : decode cX3_readValue 138 = .ok (.ifCond .eq 12, 3) := by decide +kernel
theorem dX3_readValue_141 : decode cX3_readValue 141 = .ok (.aload_n 0, 1) := by decide +kernel
theorem dX3_readValue_142 : decode cX3_readValue 142 = .ok (.bipush 116, 2) := by decide +kernel
theorem dX3_readValue_144 : decode cX3_readValue 144 = .ok (.invokevirtual 141, 3) := by decide +kernel
theorem dX3_readValue_147 : decode cX3_readValue 147 = .ok (.goto 16, 3) := by decide +kernel
theorem dX3_readValue_150 : decode cX3_readValue 150 = .ok (.aload_n 0, 1) := by decide +kernel
theorem dX3_readValue_151 : decode cX3_readValue 151 = .ok (.iconst 1, 1) := by decide +kernel
theorem dX3_readValue_152 : decode cX3_readValue 152 = .ok (.invokevirtual 58, 3) := by decide +kernel
theorem dX3_readValue_155 : decode cX3_readValue 155 = .ok (.goto 8, 3) := by decide +kernel
theorem dX3_readValue_158 : decode cX3_readValue 158 = .ok (.aload_n 0, 1) := by decide +kernel
theorem dX3_readValue_159 : decode cX3_readValue 159 = .ok (.iload_n 1, 1) := by decide +kernel
theorem dX3_readValue_160 : decode cX3_readValue 160 = .ok (.invokevirtual 144, 3) := by decide +kernel
theorem dX3_readValue_163 : decode cX3_readValue 163 = .ok (.return_, 1) := by decide +kernel
theorem dX3_readName_0 : decode cX3_readName 0 = .ok (.aload_n 0, 1) := by decide +kernel
theorem dX3_readName_1 : decode cX3_readName 1 = .ok (.getfield 46, 3) := by decide +kernel
theorem dX3_readName_4 : decode cX3_readName 4 = .ok (.bipush 100, 2) := by decide +kernel
theorem dX3_readName_6 : decode cX3_readName 6 = .ok (.if_icmp .lt 15, 3) := by decide +kernel
theorem dX3_readName_9 : decode cX3_readName 9 = .ok (.iconst 1, 1) := by decide +kernel
theorem dX3_readName_10 : decode cX3_readName 10 = .ok (.aload_n 0, 1) := by decide +kernel
theorem dX3_readName_11 : decode cX3_readName 11 = .ok (.getfield 46, 3) := by decide +kernel
theorem dX3_readName_14 : decode cX3_readName 14 = .ok (.bipush 100, 2) := by decide +kernel
theorem dX3_readName_16 : decode cX3_readName 16 = .ok (.isub, 1) := by decide +kernel
theorem dX3_readName_17 : decode cX3_readName 17 = .ok (.ishl, 1) := by decide +kernel
theorem dX3_readName_18 : decode cX3_readName 18 = .ok (.goto 4, 3) := by decide +kernel
theorem dX3_readName_21 : decode cX3_readName 21 = .ok (.iconst 0, 1) := by decide +kernel
theorem dX3_readName_22 : decode cX3_readName 22 = .ok (.istore_n 2, 1) := by decide +kernel
theorem dX3_readName_23 : decode cX3_readName 23 = .ok (.iload_n 2, 1) := by decide +kernel
theorem dX3_readName_24 : decode cX3_readName 24 = .ok (.ldc 147, 2) := by decide +kernel
theorem dX3_readName_26 : decode cX3_readName 26 = .ok (.iand, 1) := by decide +kernel
theorem dX3_readName_27 : decode cX3_readName 27 = .ok (.ifCond .ne 11, 3) := by decide +kernel
theorem dX3_readName_30 : decode cX3_readName 30 = .ok (.aload_n 0, 1) := by decide +kernel
theorem dX3_readName_31 : decode cX3_readName 31 = .ok (.iconst 1, 1) := by decide +kernel
theorem dX3_readName_32 : decode cX3_readName 32 = .ok (.invokevirtual 58, 3) := by decide +kernel
theorem dX3_readName_35 : decode cX3_readName 35 = .ok (.goto 54, 3) := by decide +kernel
theorem dX3_readName_38 : decode cX3_readName 38 = .ok (.iload_n 2, 1) := by decide +kernel
theorem dX3_readName_39 : decode cX3_readName 39 = .ok (.iload_n 1, 1) := by decide +kernel
theorem dX3_readName_40 : decode cX3_readName 40 = .ok (.invokestatic 148, 3) := by decide +kernel
theorem dX3_readName_43 : decode cX3_readName 43 = .ok (.iand, 1) := by decide +kernel
theorem dX3_readName_44 : decode cX3_readName 44 = .ok (.ifCond .ne 11, 3) := by decide +kernel
theorem dX3_readName_47 : decode cX3_readName 47 = .ok (.aload_n 0, 1) := by decide +kernel
theorem dX3_readName_48 : decode cX3_readName 48 = .ok (.iconst 5, 1) := by decide +kernel
theorem dX3_readName_49 : decode cX3_readName 49 = .ok (.invokevirtual 58, 3) := by decide +kernel
theorem dX3_readName_52 : decode cX3_readName 52 = .ok (.goto 37, 3) := by decide +kernel
theorem dX3_readName_55 : decode cX3_readName 55 = .ok (.aload_n 0, 1) := by decide +kernel
theorem dX3_readName_56 : decode cX3_readName 56 = .ok (.getfield 28, 3) := by decide +kernel
theorem dX3_readName_59 : decode cX3_readName 59 = .ok (.dup, 1) := by decide +kernel
theorem dX3_readName_60 : decode cX3_readName 60 = .ok (.getfield 152, 3) := by decide +kernel
theorem dX3_readName_63 : decode cX3_readName 63 = .ok (.aload_n 0, 1) := by decide +kernel
theorem dX3_readName_64 : decode cX3_readName 64 = .ok (.getfield 46, 3) := by decide +kernel
theorem dX3_readName_67 : decode cX3_readName 67 = .ok (.bipush 122, 2) := by decide +kernel
theorem dX3_readName_69 : decode cX3_readName 69 = .ok (.if_icmp .ne 7, 3) := by decide +kernel
theorem dX3_readName_72 : decode cX3_readName 72 = .ok (.iconst 1, 1) := by decide +kernel
theorem dX3_readName_73 : decode cX3_readName 73 = .ok (.goto 4, 3) := by decide +kernel
theorem dX3_readName_76 : decode cX3_readName 76 = .ok (.iconst 0, 1) := by decide +kernel
theorem dX3_readName_77 : decode cX3_readName 77 = .ok (.ior, 1) := by decide +kernel
theorem dX3_readName_78 : decode cX3_readName 78 = .ok (.putfield 152, 3) := by decide +kernel
theorem dX3_readName_81 : decode cX3_readName 81 = .ok (.aload_n 0, 1) := by decide +kernel
theorem dX3_readName_82 : decode cX3_readName 82 = .ok (.aload_n 0, 1) := by decide +kernel
theorem dX3_readName_83 : decode cX3_readName 83 = .ok (.getfield 46, 3) := by decide +kernel
theorem dX3_readName_86 : decode cX3_readName 86 = .ok (.invokevirtual 138, 3) := by decide +kernel
theorem dX3_readName_89 : decode cX3_readName 89 = .ok (.return_, 1) := by decide +kernel
theorem dX3_namesOf_0 : decode cX3_namesOf 0 = .ok (.iload_n 0, 1) := by decide +kernel
theorem dX3_namesOf_1 : decode cX3_namesOf 1 = .ok (.lookupswitch 33 #[(0, 27), (1, 30)], 27) := by decide +kernel
theorem dX3_namesOf_28 : decode cX3_namesOf 28 = .ok (.ldc 155, 2) := by decide +kernel
theorem dX3_namesOf_30 : decode cX3_namesOf 30 = .ok (.ireturn, 1) := by decide +kernel
theorem dX3_namesOf_31 : decode cX3_namesOf 31 = .ok (.ldc 156, 2) := by decide +kernel
theorem dX3_namesOf_33 : decode cX3_namesOf 33 = .ok (.ireturn, 1) := by decide +kernel
theorem dX3_namesOf_34 : decode cX3_namesOf 34 = .ok (.ldc 157, 2) := by decide +kernel
theorem dX3_namesOf_36 : decode cX3_namesOf 36 = .ok (.ireturn, 1) := by decide +kernel
theorem dX3_readOperator_0 : decode cX3_readOperator 0 = .ok (.aload_n 0, 1) := by decide +kernel
theorem dX3_readOperator_1 : decode cX3_readOperator 1 = .ok (.getfield 46, 3) := by decide +kernel
theorem dX3_readOperator_4 : decode cX3_readOperator 4 = .ok (.invokestatic 158, 3) := by decide +kernel
theorem dX3_readOperator_7 : decode cX3_readOperator 7 = .ok (.istore_n 1, 1) := by decide +kernel
theorem dX3_readOperator_8 : decode cX3_readOperator 8 = .ok (.iload_n 1, 1) := by decide +kernel
theorem dX3_readOperator_9 : decode cX3_readOperator 9 = .ok (.iconst 1, 1) := by decide +kernel
theorem dX3_readOperator_10 : decode cX3_readOperator 10 = .ok (.if_icmp .eq 8, 3) := by decide +kernel
theorem dX3_readOperator_13 : decode cX3_readOperator 13 = .ok (.iload_n 1, 1) := by decide +kernel
theorem dX3_readOperator_14 : decode cX3_readOperator 14 = .ok (.iconst 2, 1) := by decide +kernel
theorem dX3_readOperator_15 : decode cX3_readOperator 15 = .ok (.if_icmp .ne 7, 3) := by decide +kernel
theorem dX3_readOperator_18 : decode cX3_readOperator 18 = .ok (.iconst 1, 1) := by decide +kernel
theorem dX3_readOperator_19 : decode cX3_readOperator 19 = .ok (.goto 4, 3) := by decide +kernel
theorem dX3_readOperator_22 : decode cX3_readOperator 22 = .ok (.iconst 0, 1) := by decide +kernel
theorem dX3_readOperator_23 : decode cX3_readOperator 23 = .ok (.istore_n 2, 1) := by decide +kernel
theorem dX3_readOperator_24 : decode cX3_readOperator 24 = .ok (.iload_n 2, 1) := by decide +kernel
theorem dX3_readOperator_25 : decode cX3_readOperator 25 = .ok (.ifCond .ne 8, 3) := by decide +kernel
theorem dX3_readOperator_28 : decode cX3_readOperator 28 = .ok (.iload_n 1, 1) := by decide +kernel
theorem dX3_readOperator_29 : decode cX3_readOperator 29 = .ok (.iconst 4, 1) := by decide +kernel
theorem dX3_readOperator_30 : decode cX3_readOperator 30 = .ok (.if_icmp .ne 7, 3) := by decide +kernel
theorem dX3_readOperator_33 : decode cX3_readOperator 33 = .ok (.iconst 1, 1) := by decide +kernel
theorem dX3_readOperator_34 : decode cX3_readOperator 34 = .ok (.goto 4, 3) := by decide +kernel
theorem dX3_readOperator_37 : decode cX3_readOperator 37 = .ok (.iconst 0, 1) := by decide +kernel
theorem dX3_readOperator_38 : decode cX3_readOperator 38 = .ok (.istore_n 3, 1) := by decide +kernel
theorem dX3_readOperator_39 : decode cX3_readOperator 39 = .ok (.aload_n 0, 1) := by decide +kernel
theorem dX3_readOperator_40 : decode cX3_readOperator 40 = .ok (.getfield 46, 3) := by decide +kernel
theorem dX3_readOperator_43 : decode cX3_readOperator 43 = .ok (.bipush 41, 2) := by decide +kernel
theorem dX3_readOperator_45 : decode cX3_readOperator 45 = .ok (.if_icmp .ne 52, 3) := by decide +kernel
theorem dX3_readOperator_48 : decode cX3_readOperator 48 = .ok (.aload_n 0, 1) := by decide +kernel
theorem dX3_readOperator_49 : decode cX3_readOperator 49 = .ok (.getfield 113, 3) := by decide +kernel
theorem dX3_readOperator_52 : decode cX3_readOperator 52 = .ok (.ifCond .le 45, 3) := by decide +kernel
theorem dX3_readOperator_55 : decode cX3_readOperator 55 = .ok (.aload_n 0, 1) := by decide +kernel
theorem dX3_readOperator_56 : decode cX3_readOperator 56 = .ok (.iconst 1, 1) := by decide +kernel
theorem dX3_readOperator_57 : decode cX3_readOperator 57 = .ok (.invokevirtual 132, 3) := by decide +kernel
theorem dX3_readOperator_60 : decode cX3_readOperator 60 = .ok (.aload_n 0, 1) := by decide +kernel
theorem dX3_readOperator_61 : decode cX3_readOperator 61 = .ok (.dup, 1) := by decide +kernel
theorem dX3_readOperator_62 : decode cX3_readOperator 62 = .ok (.getfield 113, 3) := by decide +kernel
theorem dX3_readOperator_65 : decode cX3_readOperator 65 = .ok (.iconst 1, 1) := by decide +kernel
theorem dX3_readOperator_66 : decode cX3_readOperator 66 = .ok (.isub, 1) := by decide +kernel
theorem dX3_readOperator_67 : decode cX3_readOperator 67 = .ok (.putfield 113, 3) := by decide +kernel
theorem dX3_readOperator_70 : decode cX3_readOperator 70 = .ok (.aload_n 0, 1) := by decide +kernel
theorem dX3_readOperator_71 : decode cX3_readOperator 71 = .ok (.dup, 1) := by decide +kernel
theorem dX3_readOperator_72 : decode cX3_readOperator 72 = .ok (.getfield 110, 3) := by decide +kernel
theorem dX3_readOperator_75 : decode cX3_readOperator 75 = .ok (.iconst 1, 1) := by decide +kernel
theorem dX3_readOperator_76 : decode cX3_readOperator 76 = .ok (.isub, 1) := by decide +kernel
theorem dX3_readOperator_77 : decode cX3_readOperator 77 = .ok (.putfield 110, 3) := by decide +kernel
theorem dX3_readOperator_80 : decode cX3_readOperator 80 = .ok (.aload_n 0, 1) := by decide +kernel
theorem dX3_readOperator_81 : decode cX3_readOperator 81 = .ok (.iconst 0, 1) := by decide +kernel
theorem dX3_readOperator_82 : decode cX3_readOperator 82 = .ok (.aload_n 0, 1) := by decide +kernel
theorem dX3_readOperator_83 : decode cX3_readOperator 83 = .ok (.getfield 107, 3) := by decide +kernel
theorem dX3_readOperator_86 : decode cX3_readOperator 86 = .ok (.iconst 1, 1) := by decide +kernel
theorem dX3_readOperator_87 : decode cX3_readOperator 87 = .ok (.isub, 1) := by decide +kernel
theorem dX3_readOperator_88 : decode cX3_readOperator 88 = .ok (.invokestatic 161, 3) := by decide +kernel
theorem dX3_readOperator_91 : decode cX3_readOperator 91 = .ok (.putfield 107, 3) := by decide +kernel
theorem dX3_readOperator_94 : decode cX3_readOperator 94 = .ok (.goto 117, 3) := by decide +kernel
theorem dX3_readOperator_97 : decode cX3_readOperator 97 = .ok (.iload_n 1, 1) := by decide +kernel
theorem dX3_readOperator_98 : decode cX3_readOperator 98 = .ok (.ifCond .eq 8, 3) := by decide +kernel
theorem dX3_readOperator_101 : decode cX3_readOperator 101 = .ok (.iload_n 1, 1) := by decide +kernel
theorem dX3_readOperator_102 : decode cX3_readOperator 102 = .ok (.iconst 3, 1) := by decide +kernel
theorem dX3_readOperator_103 : decode cX3_readOperator 103 = .ok (.if_icmp .ne 11, 3) := by decide +kernel
theorem dX3_readOperator_106 : decode cX3_readOperator 106 = .ok (.aload_n 0, 1) := by decide +kernel
theorem dX3_readOperator_107 : decode cX3_readOperator 107 = .ok (.iconst 1, 1) := by decide +kernel
theorem dX3_readOperator_108 : decode cX3_readOperator 108 = .ok (.invokevirtual 58, 3) := by decide +kernel
theorem dX3_readOperator_111 : decode cX3_readOperator 111 = .ok (.goto 100, 3) := by decide +kernel
theorem dX3_readOperator_114 : decode cX3_readOperator 114 = .ok (.iload_n 3, 1) := by decide +kernel
theorem dX3_readOperator_115 : decode cX3_readOperator 115 = .ok (.ifCond .eq 26, 3) := by decide +kernel
theorem dX3_readOperator_118 : decode cX3_readOperator 118 = .ok (.aload_n 0, 1) := by decide +kernel
theorem dX3_readOperator_119 : decode cX3_readOperator 119 = .ok (.getfield 113, 3) := by decide +kernel
theorem dX3_readOperator_122 : decode cX3_readOperator 122 = .ok (.ifCond .gt 11, 3) := by decide +kernel
theorem dX3_readOperator_125 : decode cX3_readOperator 125 = .ok (.iload_n 2, 1) := by decide +kernel
theorem dX3_readOperator_126 : decode cX3_readOperator 126 = .ok (.aload_n 0, 1) := by decide +kernel
theorem dX3_readOperator_127 : decode cX3_readOperator 127 = .ok (.getfield 123, 3) := by decide +kernel
theorem dX3_readOperator_130 : decode cX3_readOperator 130 = .ok (.if_icmp .eq 11, 3) := by decide +kernel
theorem dX3_readOperator_133 : decode cX3_readOperator 133 = .ok (.aload_n 0, 1) := by decide +kernel
theorem dX3_readOperator_134 : decode cX3_readOperator 134 = .ok (.iconst 1, 1) := by decide +kernel
theorem dX3_readOperator_135 : decode cX3_readOperator 135 = .ok (.invokevirtual 58, 3) := by decide +kernel
theorem dX3_readOperator_138 : decode cX3_readOperator 138 = .ok (.goto 73, 3) := by decide +kernel
theorem dX3_readOperator_141 : decode cX3_readOperator 141 = .ok (.aload_n 0, 1) := by decide +kernel
theorem dX3_readOperator_142 : decode cX3_readOperator 142 = .ok (.iload_n 3, 1) := by decide +kernel
theorem dX3_readOperator_143 : decode cX3_readOperator 143 = .ok (.ifCond .eq 15, 3) := by decide +kernel
theorem dX3_readOperator_146 : decode cX3_readOperator 146 = .ok (.iload_n 2, 1) := by decide +kernel
theorem dX3_readOperator_147 : decode cX3_readOperator 147 = .ok (.ifCond .ne 7, 3) := by decide +kernel
theorem dX3_readOperator_150 : decode cX3_readOperator 150 = .ok (.iconst 1, 1) := by decide +kernel
theorem dX3_readOperator_151 : decode cX3_readOperator 151 = .ok (.goto 11, 3) := by decide +kernel
theorem dX3_readOperator_154 : decode cX3_readOperator 154 = .ok (.iconst 0, 1) := by decide +kernel
theorem dX3_readOperator_155 : decode cX3_readOperator 155 = .ok (.goto 7, 3) := by decide +kernel
theorem dX3_readOperator_158 : decode cX3_readOperator 158 = .ok (.aload_n 0, 1) := by decide +kernel
theorem dX3_readOperator_159 : decode cX3_readOperator 159 = .ok (.getfield 123, 3) := by decide +kernel
theorem dX3_readOperator_162 : decode cX3_readOperator 162 = .ok (.putfield 123, 3) := by decide +kernel
theorem dX3_readOperator_165 : decode cX3_readOperator 165 = .ok (.aload_n 0, 1) := by decide +kernel
theorem dX3_readOperator_166 : decode cX3_readOperator 166 = .ok (.iload_n 2, 1) := by decide +kernel
theorem dX3_readOperator_167 : decode cX3_readOperator 167 = .ok (.putfield 120, 3) := by decide +kernel
theorem dX3_readOperator_170 : decode cX3_readOperator 170 = .ok (.aload_n 0, 1) := by decide +kernel
theorem dX3_readOperator_171 : decode cX3_readOperator 171 = .ok (.iconst 1, 1) := by decide +kernel
theorem dX3_readOperator_172 : decode cX3_readOperator 172 = .ok (.putfield 116, 3) := by decide +kernel
theorem dX3_readOperator_175 : decode cX3_readOperator 175 = .ok (.iload_n 1, 1) := by decide +kernel
theorem dX3_readOperator_176 : decode cX3_readOperator 176 = .ok (.bipush 7, 2) := by decide +kernel
theorem dX3_readOperator_178 : decode cX3_readOperator 178 = .ok (.if_icmp .ne 20, 3) := by decide +kernel
theorem dX3_readOperator_181 : decode cX3_readOperator 181 = .ok (.aload_n 0, 1) := by decide +kernel
theorem dX3_readOperator_182 : decode cX3_readOperator 182 = .ok (.bipush 8, 2) := by decide +kernel
theorem dX3_readOperator_184 : decode cX3_readOperator 184 = .ok (.invokevirtual 132, 3) := by decide +kernel
theorem dX3_readOperator_187 : decode cX3_readOperator 187 = .ok (.aload_n 0, 1) := by decide +kernel
theorem dX3_readOperator_188 : decode cX3_readOperator 188 = .ok (.aload_n 0, 1) := by decide +kernel
theorem dX3_readOperator_189 : decode cX3_readOperator 189 = .ok (.getfield 46, 3) := by decide +kernel
theorem dX3_readOperator_192 : decode cX3_readOperator 192 = .ok (.invokevirtual 141, 3) := by decide +kernel
theorem dX3_readOperator_195 : decode cX3_readOperator 195 = .ok (.goto 16, 3) := by decide +kernel
theorem dX3_readOperator_198 : decode cX3_readOperator 198 = .ok (.aload_n 0, 1) := by decide +kernel
theorem dX3_readOperator_199 : decode cX3_readOperator 199 = .ok (.iload_n 1, 1) := by decide +kernel
theorem dX3_readOperator_200 : decode cX3_readOperator 200 = .ok (.invokevirtual 132, 3) := by decide +kernel
theorem dX3_readOperator_203 : decode cX3_readOperator 203 = .ok (.aload_n 0, 1) := by decide +kernel
theorem dX3_readOperator_204 : decode cX3_readOperator 204 = .ok (.aload_n 0, 1) := by decide +kernel
theorem dX3_readOperator_205 : decode cX3_readOperator 205 = .ok (.getfield 46, 3) := by decide +kernel
theorem dX3_readOperator_208 : decode cX3_readOperator 208 = .ok (.invokevirtual 167, 3) := by decide +kernel
theorem dX3_readOperator_211 : decode cX3_readOperator 211 = .ok (.return_, 1) := by decide +kernel
theorem dX3_putValue_0 : decode cX3_putValue 0 = .ok (.aload_n 0, 1) := by decide +kernel
theorem dX3_putValue_1 : decode cX3_putValue 1 = .ok (.getfield 28, 3) := by decide +kernel
theorem dX3_putValue_4 : decode cX3_putValue 4 = .ok (.iload_n 1, 1) := by decide +kernel
theorem dX3_putValue_5 : decode cX3_putValue 5 = .ok (.invokevirtual 170, 3) := by decide +kernel
theorem dX3_putValue_8 : decode cX3_putValue 8 = .ok (.aload_n 0, 1) := by decide +kernel
theorem dX3_putValue_9 : decode cX3_putValue 9 = .ok (.iconst 0, 1) := by decide +kernel
theorem dX3_putValue_10 : decode cX3_putValue 10 = .ok (.putfield 116, 3) := by decide +kernel
theorem dX3_putValue_13 : decode cX3_putValue 13 = .ok (.return_, 1) := by decide +kernel
theorem dX3_putOpen_0 : decode cX3_putOpen 0 = .ok (.aload_n 0, 1) := by decide +kernel
theorem dX3_putOpen_1 : decode cX3_putOpen 1 = .ok (.getfield 110, 3) := by decide +kernel
theorem dX3_putOpen_4 : decode cX3_putOpen 4 = .ok (.bipush 8, 2) := by decide +kernel
theorem dX3_putOpen_6 : decode cX3_putOpen 6 = .ok (.if_icmp .lt 11, 3) := by decide +kernel
theorem dX3_putOpen_9 : decode cX3_putOpen 9 = .ok (.aload_n 0, 1) := by decide +kernel
theorem dX3_putOpen_10 : decode cX3_putOpen 10 = .ok (.iconst 3, 1) := by decide +kernel
theorem dX3_putOpen_11 : decode cX3_putOpen 11 = .ok (.invokevirtual 58, 3) := by decide +kernel
theorem dX3_putOpen_14 : decode cX3_putOpen 14 = .ok (.goto 18, 3) := by decide +kernel
theorem dX3_putOpen_17 : decode cX3_putOpen 17 = .ok (.aload_n 0, 1) := by decide +kernel
theorem dX3_putOpen_18 : decode cX3_putOpen 18 = .ok (.dup, 1) := by decide +kernel
theorem dX3_putOpen_19 : decode cX3_putOpen 19 = .ok (.getfield 110, 3) := by decide +kernel
theorem dX3_putOpen_22 : decode cX3_putOpen 22 = .ok (.iconst 1, 1) := by decide +kernel
theorem dX3_putOpen_23 : decode cX3_putOpen 23 = .ok (.iadd, 1) := by decide +kernel
theorem dX3_putOpen_24 : decode cX3_putOpen 24 = .ok (.putfield 110, 3) := by decide +kernel
theorem dX3_putOpen_27 : decode cX3_putOpen 27 = .ok (.aload_n 0, 1) := by decide +kernel
theorem dX3_putOpen_28 : decode cX3_putOpen 28 = .ok (.iload_n 1, 1) := by decide +kernel
theorem dX3_putOpen_29 : decode cX3_putOpen 29 = .ok (.invokevirtual 167, 3) := by decide +kernel
theorem dX3_putOpen_32 : decode cX3_putOpen 32 = .ok (.return_, 1) := by decide +kernel
theorem dX3_putWaiting_0 : decode cX3_putWaiting 0 = .ok (.aload_n 0, 1) := by decide +kernel
theorem dX3_putWaiting_1 : decode cX3_putWaiting 1 = .ok (.getfield 107, 3) := by decide +kernel
theorem dX3_putWaiting_4 : decode cX3_putWaiting 4 = .ok (.bipush 64, 2) := by decide +kernel
theorem dX3_putWaiting_6 : decode cX3_putWaiting 6 = .ok (.if_icmp .ge 23, 3) := by decide +kernel
theorem dX3_putWaiting_9 : decode cX3_putWaiting 9 = .ok (.aload_n 0, 1) := by decide +kernel
theorem dX3_putWaiting_10 : decode cX3_putWaiting 10 = .ok (.getfield 20, 3) := by decide +kernel
theorem dX3_putWaiting_13 : decode cX3_putWaiting 13 = .ok (.aload_n 0, 1) := by decide +kernel
theorem dX3_putWaiting_14 : decode cX3_putWaiting 14 = .ok (.getfield 107, 3) := by decide +kernel
theorem dX3_putWaiting_17 : decode cX3_putWaiting 17 = .ok (.iload_n 1, 1) := by decide +kernel
theorem dX3_putWaiting_18 : decode cX3_putWaiting 18 = .ok (.iastore, 1) := by decide +kernel
theorem dX3_putWaiting_19 : decode cX3_putWaiting 19 = .ok (.aload_n 0, 1) := by decide +kernel
theorem dX3_putWaiting_20 : decode cX3_putWaiting 20 = .ok (.dup, 1) := by decide +kernel
theorem dX3_putWaiting_21 : decode cX3_putWaiting 21 = .ok (.getfield 107, 3) := by decide +kernel
theorem dX3_putWaiting_24 : decode cX3_putWaiting 24 = .ok (.iconst 1, 1) := by decide +kernel
theorem dX3_putWaiting_25 : decode cX3_putWaiting 25 = .ok (.iadd, 1) := by decide +kernel
theorem dX3_putWaiting_26 : decode cX3_putWaiting 26 = .ok (.putfield 107, 3) := by decide +kernel
theorem dX3_putWaiting_29 : decode cX3_putWaiting 29 = .ok (.return_, 1) := by decide +kernel
theorem dX3_settle_0 : decode cX3_settle 0 = .ok (.aload_n 0, 1) := by decide +kernel
theorem dX3_settle_1 : decode cX3_settle 1 = .ok (.getfield 107, 3) := by decide +kernel
theorem dX3_settle_4 : decode cX3_settle 4 = .ok (.ifCond .le 79, 3) := by decide +kernel
theorem dX3_settle_7 : decode cX3_settle 7 = .ok (.aload_n 0, 1) := by decide +kernel
theorem dX3_settle_8 : decode cX3_settle 8 = .ok (.getfield 20, 3) := by decide +kernel
theorem dX3_settle_11 : decode cX3_settle 11 = .ok (.aload_n 0, 1) := by decide +kernel
theorem dX3_settle_12 : decode cX3_settle 12 = .ok (.getfield 107, 3) := by decide +kernel
theorem dX3_settle_15 : decode cX3_settle 15 = .ok (.iconst 1, 1) := by decide +kernel
theorem dX3_settle_16 : decode cX3_settle 16 = .ok (.isub, 1) := by decide +kernel
theorem dX3_settle_17 : decode cX3_settle 17 = .ok (.iaload, 1) := by decide +kernel
theorem dX3_settle_18 : decode cX3_settle 18 = .ok (.invokestatic 158, 3) := by decide +kernel
theorem dX3_settle_21 : decode cX3_settle 21 = .ok (.iload_n 1, 1) := by decide +kernel
theorem dX3_settle_22 : decode cX3_settle 22 = .ok (.if_icmp .lt 61, 3) := by decide +kernel
theorem dX3_settle_25 : decode cX3_settle 25 = .ok (.aload_n 0, 1) := by decide +kernel
theorem dX3_settle_26 : decode cX3_settle 26 = .ok (.dup, 1) := by decide +kernel
theorem dX3_settle_27 : decode cX3_settle 27 = .ok (.getfield 107, 3) := by decide +kernel
theorem dX3_settle_30 : decode cX3_settle 30 = .ok (.iconst 1, 1) := by decide +kernel
theorem dX3_settle_31 : decode cX3_settle 31 = .ok (.isub, 1) := by decide +kernel
theorem dX3_settle_32 : decode cX3_settle 32 = .ok (.putfield 107, 3) := by decide +kernel
theorem dX3_settle_35 : decode cX3_settle 35 = .ok (.aload_n 0, 1) := by decide +kernel
theorem dX3_settle_36 : decode cX3_settle 36 = .ok (.getfield 20, 3) := by decide +kernel
theorem dX3_settle_39 : decode cX3_settle 39 = .ok (.aload_n 0, 1) := by decide +kernel
theorem dX3_settle_40 : decode cX3_settle 40 = .ok (.getfield 107, 3) := by decide +kernel
theorem dX3_settle_43 : decode cX3_settle 43 = .ok (.iaload, 1) := by decide +kernel
theorem dX3_settle_44 : decode cX3_settle 44 = .ok (.istore_n 2, 1) := by decide +kernel
theorem dX3_settle_45 : decode cX3_settle 45 = .ok (.iload_n 2, 1) := by decide +kernel
theorem dX3_settle_46 : decode cX3_settle 46 = .ok (.bipush 116, 2) := by decide +kernel
theorem dX3_settle_48 : decode cX3_settle 48 = .ok (.if_icmp .eq 14, 3) := by decide +kernel
theorem dX3_settle_51 : decode cX3_settle 51 = .ok (.iload_n 2, 1) := by decide +kernel
theorem dX3_settle_52 : decode cX3_settle 52 = .ok (.iconst 5, 1) := by decide +kernel
theorem dX3_settle_53 : decode cX3_settle 53 = .ok (.if_icmp .eq 9, 3) := by decide +kernel
theorem dX3_settle_56 : decode cX3_settle 56 = .ok (.iload_n 2, 1) := by decide +kernel
theorem dX3_settle_57 : decode cX3_settle 57 = .ok (.bipush 94, 2) := by decide +kernel
theorem dX3_settle_59 : decode cX3_settle 59 = .ok (.if_icmp .ne 13, 3) := by decide +kernel
theorem dX3_settle_62 : decode cX3_settle 62 = .ok (.aload_n 0, 1) := by decide +kernel
theorem dX3_settle_63 : decode cX3_settle 63 = .ok (.dup, 1) := by decide +kernel
theorem dX3_settle_64 : decode cX3_settle 64 = .ok (.getfield 110, 3) := by decide +kernel
theorem dX3_settle_67 : decode cX3_settle 67 = .ok (.iconst 1, 1) := by decide +kernel
theorem dX3_settle_68 : decode cX3_settle 68 = .ok (.isub, 1) := by decide +kernel
theorem dX3_settle_69 : decode cX3_settle 69 = .ok (.putfield 110, 3) := by decide +kernel
theorem dX3_settle_72 : decode cX3_settle 72 = .ok (.aload_n 0, 1) := by decide +kernel
theorem dX3_settle_73 : decode cX3_settle 73 = .ok (.getfield 28, 3) := by decide +kernel
theorem dX3_settle_76 : decode cX3_settle 76 = .ok (.iload_n 2, 1) := by decide +kernel
theorem dX3_settle_77 : decode cX3_settle 77 = .ok (.invokevirtual 170, 3) := by decide +kernel
theorem dX3_settle_80 : decode cX3_settle 80 = .ok (.goto (-80), 3) := by decide +kernel
theorem dX3_settle_83 : decode cX3_settle 83 = .ok (.return_, 1) := by decide +kernel
theorem dX3_holdOf_0 : decode cX3_holdOf 0 = .ok (.iload_n 0, 1) := by decide +kernel
theorem dX3_holdOf_1 : decode cX3_holdOf 1 = .ok (.lookupswitch 150 #[(3, 137), (4, 137), (5, 147), (35, 137), (42, 141), (43, 139), (45, 139), (47, 141), (60, 137), (61, 137), (62, 137), (94, 144), (114, 131), (115, 133), (116, 135)], 131) := by decide +kernel
theorem dX3_holdOf_132 : decode cX3_holdOf 132 = .ok (.iconst 1, 1) := by decide +kernel
theorem dX3_holdOf_133 : decode cX3_holdOf 133 = .ok (.ireturn, 1) := by decide +kernel
theorem dX3_holdOf_134 : decode cX3_holdOf 134 = .ok (.iconst 2, 1) := by decide +kernel
theorem dX3_holdOf_135 : decode cX3_holdOf 135 = .ok (.ireturn, 1) := by decide +kernel
theorem dX3_holdOf_136 : decode cX3_holdOf 136 = .ok (.iconst 3, 1) := by decide +kernel
theorem dX3_holdOf_137 : decode cX3_holdOf 137 = .ok (.ireturn, 1) := by decide +kernel
theorem dX3_holdOf_138 : decode cX3_holdOf 138 = .ok (.iconst 4, 1) := by decide +kernel
theorem dX3_holdOf_139 : decode cX3_holdOf 139 = .ok (.ireturn, 1) := by decide +kernel
theorem dX3_holdOf_140 : decode cX3_holdOf 140 = .ok (.iconst 5, 1) := by decide +kernel
theorem dX3_holdOf_141 : decode cX3_holdOf 141 = .ok (.ireturn, 1) := by decide +kernel
theorem dX3_holdOf_142 : decode cX3_holdOf 142 = .ok (.bipush 6, 2) := by decide +kernel
theorem dX3_holdOf_144 : decode cX3_holdOf 144 = .ok (.ireturn, 1) := by decide +kernel
theorem dX3_holdOf_145 : decode cX3_holdOf 145 = .ok (.bipush 7, 2) := by decide +kernel
theorem dX3_holdOf_147 : decode cX3_holdOf 147 = .ok (.ireturn, 1) := by decide +kernel
theorem dX3_holdOf_148 : decode cX3_holdOf 148 = .ok (.bipush 8, 2) := by decide +kernel
theorem dX3_holdOf_150 : decode cX3_holdOf 150 = .ok (.ireturn, 1) := by decide +kernel
theorem dX3_holdOf_151 : decode cX3_holdOf 151 = .ok (.iconst 0, 1) := by decide +kernel
theorem dX3_holdOf_152 : decode cX3_holdOf 152 = .ok (.ireturn, 1) := by decide +kernel
