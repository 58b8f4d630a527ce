theorem dX2_init_0 : decode cX2_init 0 = .ok (.aload_n 0, 1) := by decide +kernel
theorem dX2_init_1 : decode cX2_init 1 = .ok (.invokespecial 3, 3) := by decide +kernel
theorem dX2_init_4 : decode cX2_init 4 = .ok (.aload_n 0, 1) := by decide +kernel
theorem dX2_init_5 : decode cX2_init 5 = .ok (.bipush 6, 2) := by decide +kernel
theorem dX2_init_7 : decode cX2_init 7 = .ok (.newarray .int, 2) := by decide +kernel
theorem dX2_init_9 : decode cX2_init 9 = .ok (.putfield 9, 3) := by decide +kernel
theorem dX2_init_12 : decode cX2_init 12 = .ok (.aload_n 0, 1) := by decide +kernel
theorem dX2_init_13 : decode cX2_init 13 = .ok (.bipush 6, 2) := by decide +kernel
theorem dX2_init_15 : decode cX2_init 15 = .ok (.newarray .int, 2) := by decide +kernel
theorem dX2_init_17 : decode cX2_init 17 = .ok (.putfield 15, 3) := by decide +kernel
theorem dX2_init_20 : decode cX2_init 20 = .ok (.aload_n 0, 1) := by decide +kernel
theorem dX2_init_21 : decode cX2_init 21 = .ok (.bipush 6, 2) := by decide +kernel
theorem dX2_init_23 : decode cX2_init 23 = .ok (.newarray .int, 2) := by decide +kernel
theorem dX2_init_25 : decode cX2_init 25 = .ok (.putfield 18, 3) := by decide +kernel
theorem dX2_init_28 : decode cX2_init 28 = .ok (.aload_n 0, 1) := by decide +kernel
theorem dX2_init_29 : decode cX2_init 29 = .ok (.bipush 40, 2) := by decide +kernel
theorem dX2_init_31 : decode cX2_init 31 = .ok (.newarray .int, 2) := by decide +kernel
theorem dX2_init_33 : decode cX2_init 33 = .ok (.putfield 21, 3) := by decide +kernel
theorem dX2_init_36 : decode cX2_init 36 = .ok (.aload_n 0, 1) := by decide +kernel
theorem dX2_init_37 : decode cX2_init 37 = .ok (.bipush 10, 2) := by decide +kernel
theorem dX2_init_39 : decode cX2_init 39 = .ok (.newarray .int, 2) := by decide +kernel
theorem dX2_init_41 : decode cX2_init 41 = .ok (.putfield 24, 3) := by decide +kernel
theorem dX2_init_44 : decode cX2_init 44 = .ok (.aload_n 0, 1) := by decide +kernel
theorem dX2_init_45 : decode cX2_init 45 = .ok (.bipush 10, 2) := by decide +kernel
theorem dX2_init_47 : decode cX2_init 47 = .ok (.newarray .int, 2) := by decide +kernel
theorem dX2_init_49 : decode cX2_init 49 = .ok (.putfield 27, 3) := by decide +kernel
theorem dX2_init_52 : decode cX2_init 52 = .ok (.aload_n 0, 1) := by decide +kernel
theorem dX2_init_53 : decode cX2_init 53 = .ok (.bipush 10, 2) := by decide +kernel
theorem dX2_init_55 : decode cX2_init 55 = .ok (.newarray .int, 2) := by decide +kernel
theorem dX2_init_57 : decode cX2_init 57 = .ok (.putfield 30, 3) := by decide +kernel
theorem dX2_init_60 : decode cX2_init 60 = .ok (.aload_n 0, 1) := by decide +kernel
theorem dX2_init_61 : decode cX2_init 61 = .ok (.iconst 5, 1) := by decide +kernel
theorem dX2_init_62 : decode cX2_init 62 = .ok (.newarray .int, 2) := by decide +kernel
theorem dX2_init_64 : decode cX2_init 64 = .ok (.putfield 33, 3) := by decide +kernel
theorem dX2_init_67 : decode cX2_init 67 = .ok (.aload_n 0, 1) := by decide +kernel
theorem dX2_init_68 : decode cX2_init 68 = .ok (.bipush 10, 2) := by decide +kernel
theorem dX2_init_70 : decode cX2_init 70 = .ok (.newarray .int, 2) := by decide +kernel
theorem dX2_init_72 : decode cX2_init 72 = .ok (.putfield 36, 3) := by decide +kernel
theorem dX2_init_75 : decode cX2_init 75 = .ok (.return_, 1) := by decide +kernel
theorem dX2_hasBell_0 : decode cX2_hasBell 0 = .ok (.iload_n 1, 1) := by decide +kernel
theorem dX2_hasBell_1 : decode cX2_hasBell 1 = .ok (.ifCond .lt 15, 3) := by decide +kernel
theorem dX2_hasBell_4 : decode cX2_hasBell 4 = .ok (.iload_n 1, 1) := by decide +kernel
theorem dX2_hasBell_5 : decode cX2_hasBell 5 = .ok (.aload_n 0, 1) := by decide +kernel
theorem dX2_hasBell_6 : decode cX2_hasBell 6 = .ok (.getfield 39, 3) := by decide +kernel
theorem dX2_hasBell_9 : decode cX2_hasBell 9 = .ok (.if_icmp .ge 7, 3) := by decide +kernel
theorem dX2_hasBell_12 : decode cX2_hasBell 12 = .ok (.iconst 1, 1) := by decide +kernel
theorem dX2_hasBell_13 : decode cX2_hasBell 13 = .ok (.goto 4, 3) := by decide +kernel
theorem dX2_hasBell_16 : decode cX2_hasBell 16 = .ok (.iconst 0, 1) := by decide +kernel
theorem dX2_hasBell_17 : decode cX2_hasBell 17 = .ok (.ireturn, 1) := by decide +kernel
theorem dX2_hasWord_0 : decode cX2_hasWord 0 = .ok (.iload_n 1, 1) := by decide +kernel
theorem dX2_hasWord_1 : decode cX2_hasWord 1 = .ok (.ifCond .lt 15, 3) := by decide +kernel
theorem dX2_hasWord_4 : decode cX2_hasWord 4 = .ok (.iload_n 1, 1) := by decide +kernel
theorem dX2_hasWord_5 : decode cX2_hasWord 5 = .ok (.aload_n 0, 1) := by decide +kernel
theorem dX2_hasWord_6 : decode cX2_hasWord 6 = .ok (.getfield 43, 3) := by decide +kernel
theorem dX2_hasWord_9 : decode cX2_hasWord 9 = .ok (.if_icmp .ge 7, 3) := by decide +kernel
theorem dX2_hasWord_12 : decode cX2_hasWord 12 = .ok (.iconst 1, 1) := by decide +kernel
theorem dX2_hasWord_13 : decode cX2_hasWord 13 = .ok (.goto 4, 3) := by decide +kernel
theorem dX2_hasWord_16 : decode cX2_hasWord 16 = .ok (.iconst 0, 1) := by decide +kernel
theorem dX2_hasWord_17 : decode cX2_hasWord 17 = .ok (.ireturn, 1) := by decide +kernel
theorem dX2_addBell_0 : decode cX2_addBell 0 = .ok (.aload_n 0, 1) := by decide +kernel
theorem dX2_addBell_1 : decode cX2_addBell 1 = .ok (.getfield 39, 3) := by decide +kernel
theorem dX2_addBell_4 : decode cX2_addBell 4 = .ok (.bipush 6, 2) := by decide +kernel
theorem dX2_addBell_6 : decode cX2_addBell 6 = .ok (.if_icmp .ge 33, 3) := by decide +kernel
theorem dX2_addBell_9 : decode cX2_addBell 9 = .ok (.iload_n 1, 1) := by decide +kernel
theorem dX2_addBell_10 : decode cX2_addBell 10 = .ok (.iconst 1, 1) := by decide +kernel
theorem dX2_addBell_11 : decode cX2_addBell 11 = .ok (.bipush 9, 2) := by decide +kernel
theorem dX2_addBell_13 : decode cX2_addBell 13 = .ok (.invokestatic 46, 3) := by decide +kernel
theorem dX2_addBell_16 : decode cX2_addBell 16 = .ok (.ifCond .eq 23, 3) := by decide +kernel
theorem dX2_addBell_19 : decode cX2_addBell 19 = .ok (.iload_n 2, 1) := by decide +kernel
theorem dX2_addBell_20 : decode cX2_addBell 20 = .ok (.iconst 0, 1) := by decide +kernel
theorem dX2_addBell_21 : decode cX2_addBell 21 = .ok (.bipush 9, 2) := by decide +kernel
theorem dX2_addBell_23 : decode cX2_addBell 23 = .ok (.invokestatic 46, 3) := by decide +kernel
theorem dX2_addBell_26 : decode cX2_addBell 26 = .ok (.ifCond .eq 13, 3) := by decide +kernel
theorem dX2_addBell_29 : decode cX2_addBell 29 = .ok (.iload_n 3, 1) := by decide +kernel
theorem dX2_addBell_30 : decode cX2_addBell 30 = .ok (.iconst 1, 1) := by decide +kernel
theorem dX2_addBell_31 : decode cX2_addBell 31 = .ok (.bipush 9, 2) := by decide +kernel
theorem dX2_addBell_33 : decode cX2_addBell 33 = .ok (.invokestatic 46, 3) := by decide +kernel
theorem dX2_addBell_36 : decode cX2_addBell 36 = .ok (.ifCond .ne 5, 3) := by decide +kernel
theorem dX2_addBell_39 : decode cX2_addBell 39 = .ok (.iconst (-1), 1) := by decide +kernel
theorem dX2_addBell_40 : decode cX2_addBell 40 = .ok (.ireturn, 1) := by decide +kernel
theorem dX2_addBell_41 : decode cX2_addBell 41 = .ok (.aload_n 0, 1) := by decide +kernel
theorem dX2_addBell_42 : decode cX2_addBell 42 = .ok (.getfield 9, 3) := by decide +kernel
theorem dX2_addBell_45 : decode cX2_addBell 45 = .ok (.aload_n 0, 1) := by decide +kernel
theorem dX2_addBell_46 : decode cX2_addBell 46 = .ok (.getfield 39, 3) := by decide +kernel
theorem dX2_addBell_49 : decode cX2_addBell 49 = .ok (.iload_n 1, 1) := by decide +kernel
theorem dX2_addBell_50 : decode cX2_addBell 50 = .ok (.iastore, 1) := by decide +kernel
theorem dX2_addBell_51 : decode cX2_addBell 51 = .ok (.aload_n 0, 1) := by decide +kernel
theorem dX2_addBell_52 : decode cX2_addBell 52 = .ok (.getfield 15, 3) := by decide +kernel
theorem dX2_addBell_55 : decode cX2_addBell 55 = .ok (.aload_n 0, 1) := by decide +kernel
theorem dX2_addBell_56 : decode cX2_addBell 56 = .ok (.getfield 39, 3) := by decide +kernel
theorem dX2_addBell_59 : decode cX2_addBell 59 = .ok (.iload_n 2, 1) := by decide +kernel
theorem dX2_addBell_60 : decode cX2_addBell 60 = .ok (.iastore, 1) := by decide +kernel
theorem dX2_addBell_61 : decode cX2_addBell 61 = .ok (.aload_n 0, 1) := by decide +kernel
theorem dX2_addBell_62 : decode cX2_addBell 62 = .ok (.getfield 18, 3) := by decide +kernel
theorem dX2_addBell_65 : decode cX2_addBell 65 = .ok (.aload_n 0, 1) := by decide +kernel
theorem dX2_addBell_66 : decode cX2_addBell 66 = .ok (.getfield 39, 3) := by decide +kernel
theorem dX2_addBell_69 : decode cX2_addBell 69 = .ok (.iload_n 3, 1) := by decide +kernel
theorem dX2_addBell_70 : decode cX2_addBell 70 = .ok (.iastore, 1) := by decide +kernel
theorem dX2_addBell_71 : decode cX2_addBell 71 = .ok (.aload_n 0, 1) := by decide +kernel
theorem dX2_addBell_72 : decode cX2_addBell 72 = .ok (.dup, 1) := by decide +kernel
theorem dX2_addBell_73 : decode cX2_addBell 73 = .ok (.getfield 39, 3) := by decide +kernel
theorem dX2_addBell_76 : decode cX2_addBell 76 = .ok (.iconst 1, 1) := by decide +kernel
theorem dX2_addBell_77 : decode cX2_addBell 77 = .ok (.iadd, 1) := by decide +kernel
theorem dX2_addBell_78 : decode cX2_addBell 78 = .ok (.putfield 39, 3) := by decide +kernel
theorem dX2_addBell_81 : decode cX2_addBell 81 = .ok (.aload_n 0, 1) := by decide +kernel
theorem dX2_addBell_82 : decode cX2_addBell 82 = .ok (.getfield 39, 3) := by decide +kernel
theorem dX2_addBell_85 : decode cX2_addBell 85 = .ok (.iconst 1, 1) := by decide +kernel
theorem dX2_addBell_86 : decode cX2_addBell 86 = .ok (.isub, 1) := by decide +kernel
theorem dX2_addBell_87 : decode cX2_addBell 87 = .ok (.ireturn, 1) := by decide +kernel
theorem dX2_addWord_0 : decode cX2_addWord 0 = .ok (.aload_n 0, 1) := by decide +kernel
theorem dX2_addWord_1 : decode cX2_addWord 1 = .ok (.getfield 43, 3) := by decide +kernel
theorem dX2_addWord_4 : decode cX2_addWord 4 = .ok (.bipush 10, 2) := by decide +kernel
theorem dX2_addWord_6 : decode cX2_addWord 6 = .ok (.if_icmp .ge 24, 3) := by decide +kernel
theorem dX2_addWord_9 : decode cX2_addWord 9 = .ok (.iload 5, 2) := by decide +kernel
theorem dX2_addWord_11 : decode cX2_addWord 11 = .ok (.iconst 0, 1) := by decide +kernel
theorem dX2_addWord_12 : decode cX2_addWord 12 = .ok (.iconst 3, 1) := by decide +kernel
theorem dX2_addWord_13 : decode cX2_addWord 13 = .ok (.invokestatic 46, 3) := by decide +kernel
theorem dX2_addWord_16 : decode cX2_addWord 16 = .ok (.ifCond .eq 14, 3) := by decide +kernel
theorem dX2_addWord_19 : decode cX2_addWord 19 = .ok (.iload 6, 2) := by decide +kernel
theorem dX2_addWord_21 : decode cX2_addWord 21 = .ok (.iconst 0, 1) := by decide +kernel
theorem dX2_addWord_22 : decode cX2_addWord 22 = .ok (.bipush 99, 2) := by decide +kernel
theorem dX2_addWord_24 : decode cX2_addWord 24 = .ok (.invokestatic 46, 3) := by decide +kernel
theorem dX2_addWord_27 : decode cX2_addWord 27 = .ok (.ifCond .ne 5, 3) := by decide +kernel
theorem dX2_addWord_30 : decode cX2_addWord 30 = .ok (.iconst (-1), 1) := by decide +kernel
theorem dX2_addWord_31 : decode cX2_addWord 31 = .ok (.ireturn, 1) := by decide +kernel
theorem dX2_addWord_32 : decode cX2_addWord 32 = .ok (.aload_n 0, 1) := by decide +kernel
theorem dX2_addWord_33 : decode cX2_addWord 33 = .ok (.getfield 43, 3) := by decide +kernel
theorem dX2_addWord_36 : decode cX2_addWord 36 = .ok (.iconst 4, 1) := by decide +kernel
theorem dX2_addWord_37 : decode cX2_addWord 37 = .ok (.imul, 1) := by decide +kernel
theorem dX2_addWord_38 : decode cX2_addWord 38 = .ok (.istore 7, 2) := by decide +kernel
theorem dX2_addWord_40 : decode cX2_addWord 40 = .ok (.aload_n 0, 1) := by decide +kernel
theorem dX2_addWord_41 : decode cX2_addWord 41 = .ok (.getfield 21, 3) := by decide +kernel
theorem dX2_addWord_44 : decode cX2_addWord 44 = .ok (.iload 7, 2) := by decide +kernel
theorem dX2_addWord_46 : decode cX2_addWord 46 = .ok (.iload_n 1, 1) := by decide +kernel
theorem dX2_addWord_47 : decode cX2_addWord 47 = .ok (.iastore, 1) := by decide +kernel
theorem dX2_addWord_48 : decode cX2_addWord 48 = .ok (.aload_n 0, 1) := by decide +kernel
theorem dX2_addWord_49 : decode cX2_addWord 49 = .ok (.getfield 21, 3) := by decide +kernel
theorem dX2_addWord_52 : decode cX2_addWord 52 = .ok (.iload 7, 2) := by decide +kernel
theorem dX2_addWord_54 : decode cX2_addWord 54 = .ok (.iconst 1, 1) := by decide +kernel
theorem dX2_addWord_55 : decode cX2_addWord 55 = .ok (.iadd, 1) := by decide +kernel
theorem dX2_addWord_56 : decode cX2_addWord 56 = .ok (.iload_n 2, 1) := by decide +kernel
theorem dX2_addWord_57 : decode cX2_addWord 57 = .ok (.iastore, 1) := by decide +kernel
theorem dX2_addWord_58 : decode cX2_addWord 58 = .ok (.aload_n 0, 1) := by decide +kernel
theorem dX2_addWord_59 : decode cX2_addWord 59 = .ok (.getfield 21, 3) := by decide +kernel
theorem dX2_addWord_62 : decode cX2_addWord 62 = .ok (.iload 7, 2) := by decide +kernel
theorem dX2_addWord_64 : decode cX2_addWord 64 = .ok (.iconst 2, 1) := by decide +kernel
theorem dX2_addWord_65 : decode cX2_addWord 65 = .ok (.iadd, 1) := by decide +kernel
theorem dX2_addWord_66 : decode cX2_addWord 66 = .ok (.iload_n 3, 1) := by decide +kernel
theorem dX2_addWord_67 : decode cX2_addWord 67 = .ok (.iastore, 1) := by decide +kernel
theorem dX2_addWord_68 : decode cX2_addWord 68 = .ok (.aload_n 0, 1) := by decide +kernel
theorem dX2_addWord_69 : decode cX2_addWord 69 = .ok (.getfield 21, 3) := by decide +kernel
theorem dX2_addWord_72 : decode cX2_addWord 72 = .ok (.iload 7, 2) := by decide +kernel
theorem dX2_addWord_74 : decode cX2_addWord 74 = .ok (.iconst 3, 1) := by decide +kernel
theorem dX2_addWord_75 : decode cX2_addWord 75 = .ok (.iadd, 1) := by decide +kernel
theorem dX2_addWord_76 : decode cX2_addWord 76 = .ok (.iload 4, 2) := by decide +kernel
theorem dX2_addWord_78 : decode cX2_addWord 78 = .ok (.iastore, 1) := by decide +kernel
theorem dX2_addWord_79 : decode cX2_addWord 79 = .ok (.iconst 0, 1) := by decide +kernel
theorem dX2_addWord_80 : decode cX2_addWord 80 = .ok (.istore 8, 2) := by decide +kernel
theorem dX2_addWord_82 : decode cX2_addWord 82 = .ok (.iload 8, 2) := by decide +kernel
theorem dX2_addWord_84 : decode cX2_addWord 84 = .ok (.iconst 4, 1) := by decide +kernel
theorem dX2_addWord_85 : decode cX2_addWord 85 = .ok (.if_icmp .ge 26, 3) := by decide +kernel
theorem dX2_addWord_88 : decode cX2_addWord 88 = .ok (.aload_n 0, 1) := by decide +kernel
theorem dX2_addWord_89 : decode cX2_addWord 89 = .ok (.aload_n 0, 1) := by decide +kernel
theorem dX2_addWord_90 : decode cX2_addWord 90 = .ok (.getfield 21, 3) := by decide +kernel
theorem dX2_addWord_93 : decode cX2_addWord 93 = .ok (.iload 7, 2) := by decide +kernel
theorem dX2_addWord_95 : decode cX2_addWord 95 = .ok (.iload 8, 2) := by decide +kernel
theorem dX2_addWord_97 : decode cX2_addWord 97 = .ok (.iadd, 1) := by decide +kernel
theorem dX2_addWord_98 : decode cX2_addWord 98 = .ok (.iaload, 1) := by decide +kernel
theorem dX2_addWord_99 : decode cX2_addWord 99 = .ok (.invokevirtual 50, 3) := by decide +kernel
theorem dX2_addWord_102 : decode cX2_addWord 102 = .ok (.ifCond .eq 9, 3) := by decide +kernel
theorem dX2_addWord_105 : decode cX2_addWord 105 = .ok (.iinc 8 1, 3) := by decide +kernel
theorem dX2_addWord_108 : decode cX2_addWord 108 = .ok (.goto (-26), 3) := by decide +kernel
theorem dX2_addWord_111 : decode cX2_addWord 111 = .ok (.iload 8, 2) := by decide +kernel
theorem dX2_addWord_113 : decode cX2_addWord 113 = .ok (.istore 9, 2) := by decide +kernel
theorem dX2_addWord_115 : decode cX2_addWord 115 = .ok (.iload 9, 2) := by decide +kernel
theorem dX2_addWord_117 : decode cX2_addWord 117 = .ok (.iconst 4, 1) := by decide +kernel
theorem dX2_addWord_118 : decode cX2_addWord 118 = .ok (.if_icmp .ge 25, 3) := by decide +kernel
theorem dX2_addWord_121 : decode cX2_addWord 121 = .ok (.aload_n 0, 1) := by decide +kernel
theorem dX2_addWord_122 : decode cX2_addWord 122 = .ok (.getfield 21, 3) := by decide +kernel
theorem dX2_addWord_125 : decode cX2_addWord 125 = .ok (.iload 7, 2) := by decide +kernel
theorem dX2_addWord_127 : decode cX2_addWord 127 = .ok (.iload 9, 2) := by decide +kernel
theorem dX2_addWord_129 : decode cX2_addWord 129 = .ok (.iadd, 1) := by decide +kernel
theorem dX2_addWord_130 : decode cX2_addWord 130 = .ok (.iaload, 1) := by decide +kernel
theorem dX2_addWord_131 : decode cX2_addWord 131 = .ok (.iconst (-1), 1) := by decide +kernel
theorem dX2_addWord_132 : decode cX2_addWord 132 = .ok (.if_icmp .eq 5, 3) := by decide +kernel
theorem dX2_addWord_135 : decode cX2_addWord 135 = .ok (.iconst (-1), 1) := by decide +kernel
theorem dX2_addWord_136 : decode cX2_addWord 136 = .ok (.ireturn, 1) := by decide +kernel
theorem dX2_addWord_137 : decode cX2_addWord 137 = .ok (.iinc 9 1, 3) := by decide +kernel
theorem dX2_addWord_140 : decode cX2_addWord 140 = .ok (.goto (-25), 3) := by decide +kernel
theorem dX2_addWord_143 : decode cX2_addWord 143 = .ok (.iload 8, 2) := by decide +kernel
theorem dX2_addWord_145 : decode cX2_addWord 145 = .ok (.ifCond .ne 5, 3) := by decide +kernel
theorem dX2_addWord_148 : decode cX2_addWord 148 = .ok (.iconst (-1), 1) := by decide +kernel
theorem dX2_addWord_149 : decode cX2_addWord 149 = .ok (.ireturn, 1) := by decide +kernel
theorem dX2_addWord_150 : decode cX2_addWord 150 = .ok (.aload_n 0, 1) := by decide +kernel
theorem dX2_addWord_151 : decode cX2_addWord 151 = .ok (.getfield 24, 3) := by decide +kernel
theorem dX2_addWord_154 : decode cX2_addWord 154 = .ok (.aload_n 0, 1) := by decide +kernel
theorem dX2_addWord_155 : decode cX2_addWord 155 = .ok (.getfield 43, 3) := by decide +kernel
theorem dX2_addWord_158 : decode cX2_addWord 158 = .ok (.iload 8, 2) := by decide +kernel
theorem dX2_addWord_160 : decode cX2_addWord 160 = .ok (.iastore, 1) := by decide +kernel
theorem dX2_addWord_161 : decode cX2_addWord 161 = .ok (.aload_n 0, 1) := by decide +kernel
theorem dX2_addWord_162 : decode cX2_addWord 162 = .ok (.getfield 27, 3) := by decide +kernel
theorem dX2_addWord_165 : decode cX2_addWord 165 = .ok (.aload_n 0, 1) := by decide +kernel
theorem dX2_addWord_166 : decode cX2_addWord 166 = .ok (.getfield 43, 3) := by decide +kernel
theorem dX2_addWord_169 : decode cX2_addWord 169 = .ok (.iload 5, 2) := by decide +kernel
theorem dX2_addWord_171 : decode cX2_addWord 171 = .ok (.iastore, 1) := by decide +kernel
theorem dX2_addWord_172 : decode cX2_addWord 172 = .ok (.aload_n 0, 1) := by decide +kernel
theorem dX2_addWord_173 : decode cX2_addWord 173 = .ok (.getfield 30, 3) := by decide +kernel
theorem dX2_addWord_176 : decode cX2_addWord 176 = .ok (.aload_n 0, 1) := by decide +kernel
theorem dX2_addWord_177 : decode cX2_addWord 177 = .ok (.getfield 43, 3) := by decide +kernel
theorem dX2_addWord_180 : decode cX2_addWord 180 = .ok (.iload 6, 2) := by decide +kernel
theorem dX2_addWord_182 : decode cX2_addWord 182 = .ok (.iastore, 1) := by decide +kernel
theorem dX2_addWord_183 : decode cX2_addWord 183 = .ok (.aload_n 0, 1) := by decide +kernel
theorem dX2_addWord_184 : decode cX2_addWord 184 = .ok (.dup, 1) := by decide +kernel
theorem dX2_addWord_185 : decode cX2_addWord 185 = .ok (.getfield 43, 3) := by decide +kernel
theorem dX2_addWord_188 : decode cX2_addWord 188 = .ok (.iconst 1, 1) := by decide +kernel
theorem dX2_addWord_189 : decode cX2_addWord 189 = .ok (.iadd, 1) := by decide +kernel
theorem dX2_addWord_190 : decode cX2_addWord 190 = .ok (.putfield 43, 3) := by decide +kernel
theorem dX2_addWord_193 : decode cX2_addWord 193 = .ok (.aload_n 0, 1) := by decide +kernel
theorem dX2_addWord_194 : decode cX2_addWord 194 = .ok (.getfield 43, 3) := by decide +kernel
theorem dX2_addWord_197 : decode cX2_addWord 197 = .ok (.iconst 1, 1) := by decide +kernel
theorem dX2_addWord_198 : decode cX2_addWord 198 = .ok (.isub, 1) := by decide +kernel
theorem dX2_addWord_199 : decode cX2_addWord 199 = .ok (.ireturn, 1) := by decide +kernel
theorem dX2_strokeOf_0 : decode cX2_strokeOf 0 = .ok (.aload_n 0, 1) := by decide +kernel
theorem dX2_strokeOf_1 : decode cX2_strokeOf 1 = .ok (.iload_n 1, 1) := by decide +kernel
theorem dX2_strokeOf_2 : decode cX2_strokeOf 2 = .ok (.invokevirtual 54, 3) := by decide +kernel
theorem dX2_strokeOf_5 : decode cX2_strokeOf 5 = .ok (.ifCond .eq 25, 3) := by decide +kernel
theorem dX2_strokeOf_8 : decode cX2_strokeOf 8 = .ok (.iload_n 2, 1) := by decide +kernel
theorem dX2_strokeOf_9 : decode cX2_strokeOf 9 = .ok (.iconst 0, 1) := by decide +kernel
theorem dX2_strokeOf_10 : decode cX2_strokeOf 10 = .ok (.iconst 3, 1) := by decide +kernel
theorem dX2_strokeOf_11 : decode cX2_strokeOf 11 = .ok (.invokestatic 46, 3) := by decide +kernel
theorem dX2_strokeOf_14 : decode cX2_strokeOf 14 = .ok (.ifCond .eq 16, 3) := by decide +kernel
theorem dX2_strokeOf_17 : decode cX2_strokeOf 17 = .ok (.aload_n 0, 1) := by decide +kernel
theorem dX2_strokeOf_18 : decode cX2_strokeOf 18 = .ok (.getfield 21, 3) := by decide +kernel
theorem dX2_strokeOf_21 : decode cX2_strokeOf 21 = .ok (.iload_n 1, 1) := by decide +kernel
theorem dX2_strokeOf_22 : decode cX2_strokeOf 22 = .ok (.iconst 4, 1) := by decide +kernel
theorem dX2_strokeOf_23 : decode cX2_strokeOf 23 = .ok (.imul, 1) := by decide +kernel
theorem dX2_strokeOf_24 : decode cX2_strokeOf 24 = .ok (.iload_n 2, 1) := by decide +kernel
theorem dX2_strokeOf_25 : decode cX2_strokeOf 25 = .ok (.iadd, 1) := by decide +kernel
theorem dX2_strokeOf_26 : decode cX2_strokeOf 26 = .ok (.iaload, 1) := by decide +kernel
theorem dX2_strokeOf_27 : decode cX2_strokeOf 27 = .ok (.goto 4, 3) := by decide +kernel
theorem dX2_strokeOf_30 : decode cX2_strokeOf 30 = .ok (.iconst (-1), 1) := by decide +kernel
theorem dX2_strokeOf_31 : decode cX2_strokeOf 31 = .ok (.ireturn, 1) := by decide +kernel
theorem dX2_menFor_0 : decode cX2_menFor 0 = .ok (.iconst 0, 1) := by decide +kernel
theorem dX2_menFor_1 : decode cX2_menFor 1 = .ok (.istore_n 2, 1) := by decide +kernel
theorem dX2_menFor_2 : decode cX2_menFor 2 = .ok (.iconst 0, 1) := by decide +kernel
theorem dX2_menFor_3 : decode cX2_menFor 3 = .ok (.istore_n 3, 1) := by decide +kernel
theorem dX2_menFor_4 : decode cX2_menFor 4 = .ok (.iload_n 3, 1) := by decide +kernel
theorem dX2_menFor_5 : decode cX2_menFor 5 = .ok (.aload_n 0, 1) := by decide +kernel
theorem dX2_menFor_6 : decode cX2_menFor 6 = .ok (.getfield 24, 3) := by decide +kernel
theorem dX2_menFor_9 : decode cX2_menFor 9 = .ok (.iload_n 1, 1) := by decide +kernel
theorem dX2_menFor_10 : decode cX2_menFor 10 = .ok (.iaload, 1) := by decide +kernel
theorem dX2_menFor_11 : decode cX2_menFor 11 = .ok (.if_icmp .ge 46, 3) := by decide +kernel
theorem dX2_menFor_14 : decode cX2_menFor 14 = .ok (.aload_n 0, 1) := by decide +kernel
theorem dX2_menFor_15 : decode cX2_menFor 15 = .ok (.getfield 21, 3) := by decide +kernel
theorem dX2_menFor_18 : decode cX2_menFor 18 = .ok (.iload_n 1, 1) := by decide +kernel
theorem dX2_menFor_19 : decode cX2_menFor 19 = .ok (.iconst 4, 1) := by decide +kernel
theorem dX2_menFor_20 : decode cX2_menFor 20 = .ok (.imul, 1) := by decide +kernel
theorem dX2_menFor_21 : decode cX2_menFor 21 = .ok (.iload_n 3, 1) := by decide +kernel
theorem dX2_menFor_22 : decode cX2_menFor 22 = .ok (.iadd, 1) := by decide +kernel
theorem dX2_menFor_23 : decode cX2_menFor 23 = .ok (.iaload, 1) := by decide +kernel
theorem dX2_menFor_24 : decode cX2_menFor 24 = .ok (.istore 4, 2) := by decide +kernel
theorem dX2_menFor_26 : decode cX2_menFor 26 = .ok (.iload_n 2, 1) := by decide +kernel
theorem dX2_menFor_27 : decode cX2_menFor 27 = .ok (.aload_n 0, 1) := by decide +kernel
theorem dX2_menFor_28 : decode cX2_menFor 28 = .ok (.iload 4, 2) := by decide +kernel
theorem dX2_menFor_30 : decode cX2_menFor 30 = .ok (.invokevirtual 50, 3) := by decide +kernel
theorem dX2_menFor_33 : decode cX2_menFor 33 = .ok (.ifCond .eq 13, 3) := by decide +kernel
theorem dX2_menFor_36 : decode cX2_menFor 36 = .ok (.aload_n 0, 1) := by decide +kernel
theorem dX2_menFor_37 : decode cX2_menFor 37 = .ok (.getfield 18, 3) := by decide +kernel
theorem dX2_menFor_40 : decode cX2_menFor 40 = .ok (.iload 4, 2) := by decide +kernel
theorem dX2_menFor_42 : decode cX2_menFor 42 = .ok (.iaload, 1) := by decide +kernel
theorem dX2_menFor_43 : decode cX2_menFor 43 = .ok (.goto 4, 3) := by decide +kernel
theorem dX2_menFor_46 : decode cX2_menFor 46 = .ok (.iconst 0, 1) := by decide +kernel
theorem dX2_menFor_47 : decode cX2_menFor 47 = .ok (.invokestatic 57, 3) := by decide +kernel
theorem dX2_menFor_50 : decode cX2_menFor 50 = .ok (.istore_n 2, 1) := by decide +kernel
theorem dX2_menFor_51 : decode cX2_menFor 51 = .ok (.iinc 3 1, 3) := by decide +kernel
theorem dX2_menFor_54 : decode cX2_menFor 54 = .ok (.goto (-50), 3) := by decide +kernel
theorem dX2_menFor_57 : decode cX2_menFor 57 = .ok (.iload_n 2, 1) := by decide +kernel
theorem dX2_menFor_58 : decode cX2_menFor 58 = .ok (.ireturn, 1) := by decide +kernel
theorem dX2_between_0 : decode cX2_between 0 = .ok (.aload_n 0, 1) := by decide +kernel
theorem dX2_between_1 : decode cX2_between 1 = .ok (.iload_n 1, 1) := by decide +kernel
theorem dX2_between_2 : decode cX2_between 2 = .ok (.aload_n 0, 1) := by decide +kernel
theorem dX2_between_3 : decode cX2_between 3 = .ok (.getfield 21, 3) := by decide +kernel
theorem dX2_between_6 : decode cX2_between 6 = .ok (.iload_n 2, 1) := by decide +kernel
theorem dX2_between_7 : decode cX2_between 7 = .ok (.iconst 4, 1) := by decide +kernel
theorem dX2_between_8 : decode cX2_between 8 = .ok (.imul, 1) := by decide +kernel
theorem dX2_between_9 : decode cX2_between 9 = .ok (.aload_n 0, 1) := by decide +kernel
theorem dX2_between_10 : decode cX2_between 10 = .ok (.getfield 24, 3) := by decide +kernel
theorem dX2_between_13 : decode cX2_between 13 = .ok (.iload_n 2, 1) := by decide +kernel
theorem dX2_between_14 : decode cX2_between 14 = .ok (.iaload, 1) := by decide +kernel
theorem dX2_between_15 : decode cX2_between 15 = .ok (.invokevirtual 63, 3) := by decide +kernel
theorem dX2_between_18 : decode cX2_between 18 = .ok (.ireturn, 1) := by decide +kernel
theorem dX2_edits_0 : decode cX2_edits 0 = .ok (.aload_n 0, 1) := by decide +kernel
theorem dX2_edits_1 : decode cX2_edits 1 = .ok (.getfield 24, 3) := by decide +kernel
theorem dX2_edits_4 : decode cX2_edits 4 = .ok (.iload_n 1, 1) := by decide +kernel
theorem dX2_edits_5 : decode cX2_edits 5 = .ok (.iaload, 1) := by decide +kernel
theorem dX2_edits_6 : decode cX2_edits 6 = .ok (.istore 5, 2) := by decide +kernel
theorem dX2_edits_8 : decode cX2_edits 8 = .ok (.iconst 0, 1) := by decide +kernel
theorem dX2_edits_9 : decode cX2_edits 9 = .ok (.istore 6, 2) := by decide +kernel
theorem dX2_edits_11 : decode cX2_edits 11 = .ok (.iload 6, 2) := by decide +kernel
theorem dX2_edits_13 : decode cX2_edits 13 = .ok (.iload 5, 2) := by decide +kernel
theorem dX2_edits_15 : decode cX2_edits 15 = .ok (.if_icmp .gt 18, 3) := by decide +kernel
theorem dX2_edits_18 : decode cX2_edits 18 = .ok (.aload_n 0, 1) := by decide +kernel
theorem dX2_edits_19 : decode cX2_edits 19 = .ok (.getfield 33, 3) := by decide +kernel
theorem dX2_edits_22 : decode cX2_edits 22 = .ok (.iload 6, 2) := by decide +kernel
theorem dX2_edits_24 : decode cX2_edits 24 = .ok (.iload 6, 2) := by decide +kernel
theorem dX2_edits_26 : decode cX2_edits 26 = .ok (.iastore, 1) := by decide +kernel
theorem dX2_edits_27 : decode cX2_edits 27 = .ok (.iinc 6 1, 3) := by decide +kernel
theorem dX2_edits_30 : decode cX2_edits 30 = .ok (.goto (-19), 3) := by decide +kernel
theorem dX2_edits_33 : decode cX2_edits 33 = .ok (.iconst 0, 1) := by decide +kernel
theorem dX2_edits_34 : decode cX2_edits 34 = .ok (.istore 6, 2) := by decide +kernel
theorem dX2_edits_36 : decode cX2_edits 36 = .ok (.iload 6, 2) := by decide +kernel
theorem dX2_edits_38 : decode cX2_edits 38 = .ok (.iload 4, 2) := by decide +kernel
theorem dX2_edits_40 : decode cX2_edits 40 = .ok (.if_icmp .ge 125, 3) := by decide +kernel
theorem dX2_edits_43 : decode cX2_edits 43 = .ok (.aload_n 0, 1) := by decide +kernel
theorem dX2_edits_44 : decode cX2_edits 44 = .ok (.getfield 33, 3) := by decide +kernel
theorem dX2_edits_47 : decode cX2_edits 47 = .ok (.iconst 0, 1) := by decide +kernel
theorem dX2_edits_48 : decode cX2_edits 48 = .ok (.iaload, 1) := by decide +kernel
theorem dX2_edits_49 : decode cX2_edits 49 = .ok (.istore 7, 2) := by decide +kernel
theorem dX2_edits_51 : decode cX2_edits 51 = .ok (.aload_n 0, 1) := by decide +kernel
theorem dX2_edits_52 : decode cX2_edits 52 = .ok (.getfield 33, 3) := by decide +kernel
theorem dX2_edits_55 : decode cX2_edits 55 = .ok (.iconst 0, 1) := by decide +kernel
theorem dX2_edits_56 : decode cX2_edits 56 = .ok (.iload 6, 2) := by decide +kernel
theorem dX2_edits_58 : decode cX2_edits 58 = .ok (.iconst 1, 1) := by decide +kernel
theorem dX2_edits_59 : decode cX2_edits 59 = .ok (.iadd, 1) := by decide +kernel
theorem dX2_edits_60 : decode cX2_edits 60 = .ok (.iastore, 1) := by decide +kernel
theorem dX2_edits_61 : decode cX2_edits 61 = .ok (.iconst 1, 1) := by decide +kernel
theorem dX2_edits_62 : decode cX2_edits 62 = .ok (.istore 8, 2) := by decide +kernel
theorem dX2_edits_64 : decode cX2_edits 64 = .ok (.iload 8, 2) := by decide +kernel
theorem dX2_edits_66 : decode cX2_edits 66 = .ok (.iload 5, 2) := by decide +kernel
theorem dX2_edits_68 : decode cX2_edits 68 = .ok (.if_icmp .gt 91, 3) := by decide +kernel
theorem dX2_edits_71 : decode cX2_edits 71 = .ok (.aload_n 2, 1) := by decide +kernel
theorem dX2_edits_72 : decode cX2_edits 72 = .ok (.iload_n 3, 1) := by decide +kernel
theorem dX2_edits_73 : decode cX2_edits 73 = .ok (.iload 6, 2) := by decide +kernel
theorem dX2_edits_75 : decode cX2_edits 75 = .ok (.iadd, 1) := by decide +kernel
theorem dX2_edits_76 : decode cX2_edits 76 = .ok (.iaload, 1) := by decide +kernel
theorem dX2_edits_77 : decode cX2_edits 77 = .ok (.aload_n 0, 1) := by decide +kernel
theorem dX2_edits_78 : decode cX2_edits 78 = .ok (.getfield 21, 3) := by decide +kernel
theorem dX2_edits_81 : decode cX2_edits 81 = .ok (.iload_n 1, 1) := by decide +kernel
theorem dX2_edits_82 : decode cX2_edits 82 = .ok (.iconst 4, 1) := by decide +kernel
theorem dX2_edits_83 : decode cX2_edits 83 = .ok (.imul, 1) := by decide +kernel
theorem dX2_edits_84 : decode cX2_edits 84 = .ok (.iload 8, 2) := by decide +kernel
theorem dX2_edits_86 : decode cX2_edits 86 = .ok (.iadd, 1) := by decide +kernel
theorem dX2_edits_87 : decode cX2_edits 87 = .ok (.iconst 1, 1) := by decide +kernel
theorem dX2_edits_88 : decode cX2_edits 88 = .ok (.isub, 1) := by decide +kernel
theorem dX2_edits_89 : decode cX2_edits 89 = .ok (.iaload, 1) := by decide +kernel
theorem dX2_edits_90 : decode cX2_edits 90 = .ok (.if_icmp .ne 7, 3) := by decide +kernel
theorem dX2_edits_93 : decode cX2_edits 93 = .ok (.iconst 1, 1) := by decide +kernel
theorem dX2_edits_94 : decode cX2_edits 94 = .ok (.goto 4, 3) := by decide +kernel
theorem dX2_edits_97 : decode cX2_edits 97 = .ok (.iconst 0, 1) := by decide +kernel
theorem dX2_edits_98 : decode cX2_edits 98 = .ok (.istore 9, 2) := by decide +kernel
theorem dX2_edits_100 : decode cX2_edits 100 = .ok (.iload 9, 2) := by decide +kernel
theorem dX2_edits_102 : decode cX2_edits 102 = .ok (.ifCond .eq 8, 3) := by decide +kernel
theorem dX2_edits_105 : decode cX2_edits 105 = .ok (.iload 7, 2) := by decide +kernel
theorem dX2_edits_107 : decode cX2_edits 107 = .ok (.goto 7, 3) := by decide +kernel
theorem dX2_edits_110 : decode cX2_edits 110 = .ok (.iload 7, 2) := by decide +kernel
theorem dX2_edits_112 : decode cX2_edits 112 = .ok (.iconst 1, 1) := by decide +kernel
theorem dX2_edits_113 : decode cX2_edits 113 = .ok (.iadd, 1) := by decide +kernel
theorem dX2_edits_114 : decode cX2_edits 114 = .ok (.istore 10, 2) := by decide +kernel
theorem dX2_edits_116 : decode cX2_edits 116 = .ok (.aload_n 0, 1) := by decide +kernel
theorem dX2_edits_117 : decode cX2_edits 117 = .ok (.getfield 33, 3) := by decide +kernel
theorem dX2_edits_120 : decode cX2_edits 120 = .ok (.iload 8, 2) := by decide +kernel
theorem dX2_edits_122 : decode cX2_edits 122 = .ok (.iaload, 1) := by decide +kernel
theorem dX2_edits_123 : decode cX2_edits 123 = .ok (.istore 7, 2) := by decide +kernel
theorem dX2_edits_125 : decode cX2_edits 125 = .ok (.aload_n 0, 1) := by decide +kernel
theorem dX2_edits_126 : decode cX2_edits 126 = .ok (.getfield 33, 3) := by decide +kernel
theorem dX2_edits_129 : decode cX2_edits 129 = .ok (.iload 8, 2) := by decide +kernel
theorem dX2_edits_131 : decode cX2_edits 131 = .ok (.iload 10, 2) := by decide +kernel
theorem dX2_edits_133 : decode cX2_edits 133 = .ok (.iload 7, 2) := by decide +kernel
theorem dX2_edits_135 : decode cX2_edits 135 = .ok (.aload_n 0, 1) := by decide +kernel
theorem dX2_edits_136 : decode cX2_edits 136 = .ok (.getfield 33, 3) := by decide +kernel
theorem dX2_edits_139 : decode cX2_edits 139 = .ok (.iload 8, 2) := by decide +kernel
theorem dX2_edits_141 : decode cX2_edits 141 = .ok (.iconst 1, 1) := by decide +kernel
theorem dX2_edits_142 : decode cX2_edits 142 = .ok (.isub, 1) := by decide +kernel
theorem dX2_edits_143 : decode cX2_edits 143 = .ok (.iaload, 1) := by decide +kernel
theorem dX2_edits_144 : decode cX2_edits 144 = .ok (.invokestatic 67, 3) := by decide +kernel
theorem dX2_edits_147 : decode cX2_edits 147 = .ok (.iconst 1, 1) := by decide +kernel
theorem dX2_edits_148 : decode cX2_edits 148 = .ok (.iadd, 1) := by decide +kernel
theorem dX2_edits_149 : decode cX2_edits 149 = .ok (.invokestatic 67, 3) := by decide +kernel
theorem dX2_edits_152 : decode cX2_edits 152 = .ok (.iastore, 1) := by decide +kernel
theorem dX2_edits_153 : decode cX2_edits 153 = .ok (.iinc 8 1, 3) := by decide +kernel
theorem dX2_edits_156 : decode cX2_edits 156 = .ok (.goto (-92), 3) := by decide +kernel
theorem dX2_edits_159 : decode cX2_edits 159 = .ok (.iinc 6 1, 3) := by decide +kernel
theorem dX2_edits_162 : decode cX2_edits 162 = .ok (.goto (-126), 3) := by decide +kernel
theorem dX2_edits_165 : decode cX2_edits 165 = .ok (.aload_n 0, 1) := by decide +kernel
theorem dX2_edits_166 : decode cX2_edits 166 = .ok (.getfield 33, 3) := by decide +kernel
theorem dX2_edits_169 : decode cX2_edits 169 = .ok (.iload 5, 2) := by decide +kernel
theorem dX2_edits_171 : decode cX2_edits 171 = .ok (.iaload, 1) := by decide +kernel
theorem dX2_edits_172 : decode cX2_edits 172 = .ok (.ireturn, 1) := by decide +kernel
theorem dX2_toldApart_0 : decode cX2_toldApart 0 = .ok (.aload_n 0, 1) := by decide +kernel
theorem dX2_toldApart_1 : decode cX2_toldApart 1 = .ok (.iload_n 1, 1) := by decide +kernel
theorem dX2_toldApart_2 : decode cX2_toldApart 2 = .ok (.invokevirtual 70, 3) := by decide +kernel
theorem dX2_toldApart_5 : decode cX2_toldApart 5 = .ok (.iconst 0, 1) := by decide +kernel
theorem dX2_toldApart_6 : decode cX2_toldApart 6 = .ok (.istore_n 2, 1) := by decide +kernel
theorem dX2_toldApart_7 : decode cX2_toldApart 7 = .ok (.iconst 1, 1) := by decide +kernel
theorem dX2_toldApart_8 : decode cX2_toldApart 8 = .ok (.istore_n 3, 1) := by decide +kernel
theorem dX2_toldApart_9 : decode cX2_toldApart 9 = .ok (.iload_n 3, 1) := by decide +kernel
theorem dX2_toldApart_10 : decode cX2_toldApart 10 = .ok (.iconst 1, 1) := by decide +kernel
theorem dX2_toldApart_11 : decode cX2_toldApart 11 = .ok (.aload_n 0, 1) := by decide +kernel
theorem dX2_toldApart_12 : decode cX2_toldApart 12 = .ok (.getfield 43, 3) := by decide +kernel
theorem dX2_toldApart_15 : decode cX2_toldApart 15 = .ok (.ishl, 1) := by decide +kernel
theorem dX2_toldApart_16 : decode cX2_toldApart 16 = .ok (.if_icmp .ge 30, 3) := by decide +kernel
theorem dX2_toldApart_19 : decode cX2_toldApart 19 = .ok (.iload_n 3, 1) := by decide +kernel
theorem dX2_toldApart_20 : decode cX2_toldApart 20 = .ok (.invokestatic 74, 3) := by decide +kernel
theorem dX2_toldApart_23 : decode cX2_toldApart 23 = .ok (.iload_n 2, 1) := by decide +kernel
theorem dX2_toldApart_24 : decode cX2_toldApart 24 = .ok (.invokestatic 74, 3) := by decide +kernel
theorem dX2_toldApart_27 : decode cX2_toldApart 27 = .ok (.if_icmp .le 13, 3) := by decide +kernel
theorem dX2_toldApart_30 : decode cX2_toldApart 30 = .ok (.aload_n 0, 1) := by decide +kernel
theorem dX2_toldApart_31 : decode cX2_toldApart 31 = .ok (.iload_n 3, 1) := by decide +kernel
theorem dX2_toldApart_32 : decode cX2_toldApart 32 = .ok (.invokevirtual 80, 3) := by decide +kernel
theorem dX2_toldApart_35 : decode cX2_toldApart 35 = .ok (.ifCond .eq 5, 3) := by decide +kernel
theorem dX2_toldApart_38 : decode cX2_toldApart 38 = .ok (.iload_n 3, 1) := by decide +kernel
theorem dX2_toldApart_39 : decode cX2_toldApart 39 = .ok (.istore_n 2, 1) := by decide +kernel
theorem dX2_toldApart_40 : decode cX2_toldApart 40 = .ok (.iinc 3 1, 3) := by decide +kernel
theorem dX2_toldApart_43 : decode cX2_toldApart 43 = .ok (.goto (-34), 3) := by decide +kernel
theorem dX2_toldApart_46 : decode cX2_toldApart 46 = .ok (.iload_n 2, 1) := by decide +kernel
theorem dX2_toldApart_47 : decode cX2_toldApart 47 = .ok (.ireturn, 1) := by decide +kernel
theorem dX2_findTooNear_0 : decode cX2_findTooNear 0 = .ok (.iconst 0, 1) := by decide +kernel
theorem dX2_findTooNear_1 : decode cX2_findTooNear 1 = .ok (.istore_n 2, 1) := by decide +kernel
theorem dX2_findTooNear_2 : decode cX2_findTooNear 2 = .ok (.iload_n 2, 1) := by decide +kernel
theorem dX2_findTooNear_3 : decode cX2_findTooNear 3 = .ok (.aload_n 0, 1) := by decide +kernel
theorem dX2_findTooNear_4 : decode cX2_findTooNear 4 = .ok (.getfield 43, 3) := by decide +kernel
theorem dX2_findTooNear_7 : decode cX2_findTooNear 7 = .ok (.if_icmp .ge 51, 3) := by decide +kernel
theorem dX2_findTooNear_10 : decode cX2_findTooNear 10 = .ok (.aload_n 0, 1) := by decide +kernel
theorem dX2_findTooNear_11 : decode cX2_findTooNear 11 = .ok (.getfield 36, 3) := by decide +kernel
theorem dX2_findTooNear_14 : decode cX2_findTooNear 14 = .ok (.iload_n 2, 1) := by decide +kernel
theorem dX2_findTooNear_15 : decode cX2_findTooNear 15 = .ok (.iconst 0, 1) := by decide +kernel
theorem dX2_findTooNear_16 : decode cX2_findTooNear 16 = .ok (.iastore, 1) := by decide +kernel
theorem dX2_findTooNear_17 : decode cX2_findTooNear 17 = .ok (.iconst 0, 1) := by decide +kernel
theorem dX2_findTooNear_18 : decode cX2_findTooNear 18 = .ok (.istore_n 3, 1) := by decide +kernel
theorem dX2_findTooNear_19 : decode cX2_findTooNear 19 = .ok (.iload_n 3, 1) := by decide +kernel
theorem dX2_findTooNear_20 : decode cX2_findTooNear 20 = .ok (.iload_n 2, 1) := by decide +kernel
theorem dX2_findTooNear_21 : decode cX2_findTooNear 21 = .ok (.if_icmp .ge 31, 3) := by decide +kernel
theorem dX2_findTooNear_24 : decode cX2_findTooNear 24 = .ok (.aload_n 0, 1) := by decide +kernel
theorem dX2_findTooNear_25 : decode cX2_findTooNear 25 = .ok (.iload_n 2, 1) := by decide +kernel
theorem dX2_findTooNear_26 : decode cX2_findTooNear 26 = .ok (.iload_n 3, 1) := by decide +kernel
theorem dX2_findTooNear_27 : decode cX2_findTooNear 27 = .ok (.invokevirtual 83, 3) := by decide +kernel
theorem dX2_findTooNear_30 : decode cX2_findTooNear 30 = .ok (.iload_n 1, 1) := by decide +kernel
theorem dX2_findTooNear_31 : decode cX2_findTooNear 31 = .ok (.if_icmp .ge 15, 3) := by decide +kernel
theorem dX2_findTooNear_34 : decode cX2_findTooNear 34 = .ok (.aload_n 0, 1) := by decide +kernel
theorem dX2_findTooNear_35 : decode cX2_findTooNear 35 = .ok (.getfield 36, 3) := by decide +kernel
theorem dX2_findTooNear_38 : decode cX2_findTooNear 38 = .ok (.iload_n 2, 1) := by decide +kernel
theorem dX2_findTooNear_39 : decode cX2_findTooNear 39 = .ok (.dup2, 1) := by decide +kernel
theorem dX2_findTooNear_40 : decode cX2_findTooNear 40 = .ok (.iaload, 1) := by decide +kernel
theorem dX2_findTooNear_41 : decode cX2_findTooNear 41 = .ok (.iconst 1, 1) := by decide +kernel
theorem dX2_findTooNear_42 : decode cX2_findTooNear 42 = .ok (.iload_n 3, 1) := by decide +kernel
theorem dX2_findTooNear_43 : decode cX2_findTooNear 43 = .ok (.ishl, 1) := by decide +kernel
theorem dX2_findTooNear_44 : decode cX2_findTooNear 44 = .ok (.ior, 1) := by decide +kernel
theorem dX2_findTooNear_45 : decode cX2_findTooNear 45 = .ok (.iastore, 1) := by decide +kernel
theorem dX2_findTooNear_46 : decode cX2_findTooNear 46 = .ok (.iinc 3 1, 3) := by decide +kernel
theorem dX2_findTooNear_49 : decode cX2_findTooNear 49 = .ok (.goto (-30), 3) := by decide +kernel
theorem dX2_findTooNear_52 : decode cX2_findTooNear 52 = .ok (.iinc 2 1, 3) := by decide +kernel
theorem dX2_findTooNear_55 : decode cX2_findTooNear 55 = .ok (.goto (-53), 3) := by decide +kernel
theorem dX2_findTooNear_58 : decode cX2_findTooNear 58 = .ok (.return_, 1) := by decide +kernel
theorem dX2_allFar_0 : decode cX2_allFar 0 = .ok (.iconst 0, 1) := by decide +kernel
theorem dX2_allFar_1 : decode cX2_allFar 1 = .ok (.istore_n 2, 1) := by decide +kernel
theorem dX2_allFar_2 : decode cX2_allFar 2 = .ok (.iload_n 2, 1) := by decide +kernel
theorem dX2_allFar_3 : decode cX2_allFar 3 = .ok (.aload_n 0, 1) := by decide +kernel
theorem dX2_allFar_4 : decode cX2_allFar 4 = .ok (.getfield 43, 3) := by decide +kernel
theorem dX2_allFar_7 : decode cX2_allFar 7 = .ok (.if_icmp .ge 30, 3) := by decide +kernel
theorem dX2_allFar_10 : decode cX2_allFar 10 = .ok (.iload_n 1, 1) := by decide +kernel
theorem dX2_allFar_11 : decode cX2_allFar 11 = .ok (.iload_n 2, 1) := by decide +kernel
theorem dX2_allFar_12 : decode cX2_allFar 12 = .ok (.ishr, 1) := by decide +kernel
theorem dX2_allFar_13 : decode cX2_allFar 13 = .ok (.iconst 1, 1) := by decide +kernel
theorem dX2_allFar_14 : decode cX2_allFar 14 = .ok (.iand, 1) := by decide +kernel
theorem dX2_allFar_15 : decode cX2_allFar 15 = .ok (.ifCond .eq 16, 3) := by decide +kernel
theorem dX2_allFar_18 : decode cX2_allFar 18 = .ok (.aload_n 0, 1) := by decide +kernel
theorem dX2_allFar_19 : decode cX2_allFar 19 = .ok (.getfield 36, 3) := by decide +kernel
theorem dX2_allFar_22 : decode cX2_allFar 22 = .ok (.iload_n 2, 1) := by decide +kernel
theorem dX2_allFar_23 : decode cX2_allFar 23 = .ok (.iaload, 1) := by decide +kernel
theorem dX2_allFar_24 : decode cX2_allFar 24 = .ok (.iload_n 1, 1) := by decide +kernel
theorem dX2_allFar_25 : decode cX2_allFar 25 = .ok (.iand, 1) := by decide +kernel
theorem dX2_allFar_26 : decode cX2_allFar 26 = .ok (.ifCond .eq 5, 3) := by decide +kernel
theorem dX2_allFar_29 : decode cX2_allFar 29 = .ok (.iconst 0, 1) := by decide +kernel
theorem dX2_allFar_30 : decode cX2_allFar 30 = .ok (.ireturn, 1) := by decide +kernel
theorem dX2_allFar_31 : decode cX2_allFar 31 = .ok (.iinc 2 1, 3) := by decide +kernel
theorem dX2_allFar_34 : decode cX2_allFar 34 = .ok (.goto (-32), 3) := by decide +kernel
theorem dX2_allFar_37 : decode cX2_allFar 37 = .ok (.iconst 1, 1) := by decide +kernel
theorem dX2_allFar_38 : decode cX2_allFar 38 = .ok (.ireturn, 1) := by decide +kernel
theorem dX2_roomAround_0 : decode cX2_roomAround 0 = .ok (.bipush 10, 2) := by decide +kernel
theorem dX2_roomAround_2 : decode cX2_roomAround 2 = .ok (.istore_n 2, 1) := by decide +kernel
theorem dX2_roomAround_3 : decode cX2_roomAround 3 = .ok (.iconst 0, 1) := by decide +kernel
theorem dX2_roomAround_4 : decode cX2_roomAround 4 = .ok (.istore_n 3, 1) := by decide +kernel
theorem dX2_roomAround_5 : decode cX2_roomAround 5 = .ok (.iload_n 3, 1) := by decide +kernel
theorem dX2_roomAround_6 : decode cX2_roomAround 6 = .ok (.aload_n 0, 1) := by decide +kernel
theorem dX2_roomAround_7 : decode cX2_roomAround 7 = .ok (.getfield 39, 3) := by decide +kernel
theorem dX2_roomAround_10 : decode cX2_roomAround 10 = .ok (.if_icmp .ge 25, 3) := by decide +kernel
theorem dX2_roomAround_13 : decode cX2_roomAround 13 = .ok (.iload_n 2, 1) := by decide +kernel
theorem dX2_roomAround_14 : decode cX2_roomAround 14 = .ok (.aload_n 0, 1) := by decide +kernel
theorem dX2_roomAround_15 : decode cX2_roomAround 15 = .ok (.getfield 15, 3) := by decide +kernel
theorem dX2_roomAround_18 : decode cX2_roomAround 18 = .ok (.iload_n 3, 1) := by decide +kernel
theorem dX2_roomAround_19 : decode cX2_roomAround 19 = .ok (.iaload, 1) := by decide +kernel
theorem dX2_roomAround_20 : decode cX2_roomAround 20 = .ok (.iload_n 1, 1) := by decide +kernel
theorem dX2_roomAround_21 : decode cX2_roomAround 21 = .ok (.isub, 1) := by decide +kernel
theorem dX2_roomAround_22 : decode cX2_roomAround 22 = .ok (.invokestatic 86, 3) := by decide +kernel
theorem dX2_roomAround_25 : decode cX2_roomAround 25 = .ok (.invokestatic 67, 3) := by decide +kernel
theorem dX2_roomAround_28 : decode cX2_roomAround 28 = .ok (.istore_n 2, 1) := by decide +kernel
theorem dX2_roomAround_29 : decode cX2_roomAround 29 = .ok (.iinc 3 1, 3) := by decide +kernel
theorem dX2_roomAround_32 : decode cX2_roomAround 32 = .ok (.goto (-27), 3) := by decide +kernel
theorem dX2_roomAround_35 : decode cX2_roomAround 35 = .ok (.iload_n 2, 1) := by decide +kernel
theorem dX2_roomAround_36 : decode cX2_roomAround 36 = .ok (.ireturn, 1) := by decide +kernel
theorem dX2_copyFrom_0 : decode cX2_copyFrom 0 = .ok (.aload_n 0, 1) := by decide +kernel
theorem dX2_copyFrom_1 : decode cX2_copyFrom 1 = .ok (.aload_n 1, 1) := by decide +kernel
theorem dX2_copyFrom_2 : decode cX2_copyFrom 2 = .ok (.getfield 39, 3) := by decide +kernel
theorem dX2_copyFrom_5 : decode cX2_copyFrom 5 = .ok (.putfield 39, 3) := by decide +kernel
theorem dX2_copyFrom_8 : decode cX2_copyFrom 8 = .ok (.aload_n 0, 1) := by decide +kernel
theorem dX2_copyFrom_9 : decode cX2_copyFrom 9 = .ok (.aload_n 1, 1) := by decide +kernel
theorem dX2_copyFrom_10 : decode cX2_copyFrom 10 = .ok (.getfield 43, 3) := by decide +kernel
theorem dX2_copyFrom_13 : decode cX2_copyFrom 13 = .ok (.putfield 43, 3) := by decide +kernel
theorem dX2_copyFrom_16 : decode cX2_copyFrom 16 = .ok (.aload_n 1, 1) := by decide +kernel
theorem dX2_copyFrom_17 : decode cX2_copyFrom 17 = .ok (.getfield 9, 3) := by decide +kernel
theorem dX2_copyFrom_20 : decode cX2_copyFrom 20 = .ok (.iconst 0, 1) := by decide +kernel
theorem dX2_copyFrom_21 : decode cX2_copyFrom 21 = .ok (.aload_n 0, 1) := by decide +kernel
theorem dX2_copyFrom_22 : decode cX2_copyFrom 22 = .ok (.getfield 9, 3) := by decide +kernel
theorem dX2_copyFrom_25 : decode cX2_copyFrom 25 = .ok (.iconst 0, 1) := by decide +kernel
theorem dX2_copyFrom_26 : decode cX2_copyFrom 26 = .ok (.bipush 6, 2) := by decide +kernel
theorem dX2_copyFrom_28 : decode cX2_copyFrom 28 = .ok (.invokestatic 89, 3) := by decide +kernel
theorem dX2_copyFrom_31 : decode cX2_copyFrom 31 = .ok (.aload_n 1, 1) := by decide +kernel
theorem dX2_copyFrom_32 : decode cX2_copyFrom 32 = .ok (.getfield 15, 3) := by decide +kernel
theorem dX2_copyFrom_35 : decode cX2_copyFrom 35 = .ok (.iconst 0, 1) := by decide +kernel
theorem dX2_copyFrom_36 : decode cX2_copyFrom 36 = .ok (.aload_n 0, 1) := by decide +kernel
theorem dX2_copyFrom_37 : decode cX2_copyFrom 37 = .ok (.getfield 15, 3) := by decide +kernel
theorem dX2_copyFrom_40 : decode cX2_copyFrom 40 = .ok (.iconst 0, 1) := by decide +kernel
theorem dX2_copyFrom_41 : decode cX2_copyFrom 41 = .ok (.bipush 6, 2) := by decide +kernel
theorem dX2_copyFrom_43 : decode cX2_copyFrom 43 = .ok (.invokestatic 89, 3) := by decide +kernel
theorem dX2_copyFrom_46 : decode cX2_copyFrom 46 = .ok (.aload_n 1, 1) := by decide +kernel
theorem dX2_copyFrom_47 : decode cX2_copyFrom 47 = .ok (.getfield 18, 3) := by decide +kernel
theorem dX2_copyFrom_50 : decode cX2_copyFrom 50 = .ok (.iconst 0, 1) := by decide +kernel
theorem dX2_copyFrom_51 : decode cX2_copyFrom 51 = .ok (.aload_n 0, 1) := by decide +kernel
theorem dX2_copyFrom_52 : decode cX2_copyFrom 52 = .ok (.getfield 18, 3) := by decide +kernel
theorem dX2_copyFrom_55 : decode cX2_copyFrom 55 = .ok (.iconst 0, 1) := by decide +kernel
theorem dX2_copyFrom_56 : decode cX2_copyFrom 56 = .ok (.bipush 6, 2) := by decide +kernel
theorem dX2_copyFrom_58 : decode cX2_copyFrom 58 = .ok (.invokestatic 89, 3) := by decide +kernel
theorem dX2_copyFrom_61 : decode cX2_copyFrom 61 = .ok (.aload_n 1, 1) := by decide +kernel
theorem dX2_copyFrom_62 : decode cX2_copyFrom 62 = .ok (.getfield 21, 3) := by decide +kernel
theorem dX2_copyFrom_65 : decode cX2_copyFrom 65 = .ok (.iconst 0, 1) := by decide +kernel
theorem dX2_copyFrom_66 : decode cX2_copyFrom 66 = .ok (.aload_n 0, 1) := by decide +kernel
theorem dX2_copyFrom_67 : decode cX2_copyFrom 67 = .ok (.getfield 21, 3) := by decide +kernel
theorem dX2_copyFrom_70 : decode cX2_copyFrom 70 = .ok (.iconst 0, 1) := by decide +kernel
theorem dX2_copyFrom_71 : decode cX2_copyFrom 71 = .ok (.bipush 40, 2) := by decide +kernel
theorem dX2_copyFrom_73 : decode cX2_copyFrom 73 = .ok (.invokestatic 89, 3) := by decide +kernel
theorem dX2_copyFrom_76 : decode cX2_copyFrom 76 = .ok (.aload_n 1, 1) := by decide +kernel
theorem dX2_copyFrom_77 : decode cX2_copyFrom 77 = .ok (.getfield 24, 3) := by decide +kernel
theorem dX2_copyFrom_80 : decode cX2_copyFrom 80 = .ok (.iconst 0, 1) := by decide +kernel
theorem dX2_copyFrom_81 : decode cX2_copyFrom 81 = .ok (.aload_n 0, 1) := by decide +kernel
theorem dX2_copyFrom_82 : decode cX2_copyFrom 82 = .ok (.getfield 24, 3) := by decide +kernel
theorem dX2_copyFrom_85 : decode cX2_copyFrom 85 = .ok (.iconst 0, 1) := by decide +kernel
theorem dX2_copyFrom_86 : decode cX2_copyFrom 86 = .ok (.bipush 10, 2) := by decide +kernel
theorem dX2_copyFrom_88 : decode cX2_copyFrom 88 = .ok (.invokestatic 89, 3) := by decide +kernel
theorem dX2_copyFrom_91 : decode cX2_copyFrom 91 = .ok (.aload_n 1, 1) := by decide +kernel
theorem dX2_copyFrom_92 : decode cX2_copyFrom 92 = .ok (.getfield 27, 3) := by decide +kernel
theorem dX2_copyFrom_95 : decode cX2_copyFrom 95 = .ok (.iconst 0, 1) := by decide +kernel
theorem dX2_copyFrom_96 : decode cX2_copyFrom 96 = .ok (.aload_n 0, 1) := by decide +kernel
theorem dX2_copyFrom_97 : decode cX2_copyFrom 97 = .ok (.getfield 27, 3) := by decide +kernel
theorem dX2_copyFrom_100 : decode cX2_copyFrom 100 = .ok (.iconst 0, 1) := by decide +kernel
theorem dX2_copyFrom_101 : decode cX2_copyFrom 101 = .ok (.bipush 10, 2) := by decide +kernel
theorem dX2_copyFrom_103 : decode cX2_copyFrom 103 = .ok (.invokestatic 89, 3) := by decide +kernel
theorem dX2_copyFrom_106 : decode cX2_copyFrom 106 = .ok (.aload_n 1, 1) := by decide +kernel
theorem dX2_copyFrom_107 : decode cX2_copyFrom 107 = .ok (.getfield 30, 3) := by decide +kernel
theorem dX2_copyFrom_110 : decode cX2_copyFrom 110 = .ok (.iconst 0, 1) := by decide +kernel
theorem dX2_copyFrom_111 : decode cX2_copyFrom 111 = .ok (.aload_n 0, 1) := by decide +kernel
theorem dX2_copyFrom_112 : decode cX2_copyFrom 112 = .ok (.getfield 30, 3) := by decide +kernel
theorem dX2_copyFrom_115 : decode cX2_copyFrom 115 = .ok (.iconst 0, 1) := by decide +kernel
theorem dX2_copyFrom_116 : decode cX2_copyFrom 116 = .ok (.bipush 10, 2) := by decide +kernel
theorem dX2_copyFrom_118 : decode cX2_copyFrom 118 = .ok (.invokestatic 89, 3) := by decide +kernel
theorem dX2_copyFrom_121 : decode cX2_copyFrom 121 = .ok (.return_, 1) := by decide +kernel
theorem dX3_init_0 : decode cX3_init 0 = .ok (.aload_n 0, 1) := by decide +kernel
theorem dX3_init_1 : decode cX3_init 1 = .ok (.invokespecial 7, 3) := by decide +kernel
theorem dX3_init_4 : decode cX3_init 4 = .ok (.aload_n 0, 1) := by decide +kernel
theorem dX3_init_5 : decode cX3_init 5 = .ok (.iconst (-1), 1) := by decide +kernel
theorem dX3_init_6 : decode cX3_init 6 = .ok (.putfield 13, 3) := by decide +kernel
theorem dX3_init_9 : decode cX3_init 9 = .ok (.aload_n 0, 1) := by decide +kernel
theorem dX3_init_10 : decode cX3_init 10 = .ok (.iconst (-1), 1) := by decide +kernel
theorem dX3_init_11 : decode cX3_init 11 = .ok (.putfield 17, 3) := by decide +kernel
theorem dX3_init_14 : decode cX3_init 14 = .ok (.aload_n 0, 1) := by decide +kernel
theorem dX3_init_15 : decode cX3_init 15 = .ok (.bipush 64, 2) := by decide +kernel
theorem dX3_init_17 : decode cX3_init 17 = .ok (.newarray .int, 2) := by decide +kernel
theorem dX3_init_19 : decode cX3_init 19 = .ok (.putfield 20, 3) := by decide +kernel
theorem dX3_init_22 : decode cX3_init 22 = .ok (.aload_n 0, 1) := by decide +kernel
theorem dX3_init_23 : decode cX3_init 23 = .ok (.aload_n 1, 1) := by decide +kernel
theorem dX3_init_24 : decode cX3_init 24 = .ok (.putfield 24, 3) := by decide +kernel
theorem dX3_init_27 : decode cX3_init 27 = .ok (.return_, 1) := by decide +kernel
theorem dX3_reads_0 : decode cX3_reads 0 = .ok (.aload_n 0, 1) := by decide +kernel
theorem dX3_reads_1 : decode cX3_reads 1 = .ok (.aload_n 1, 1) := by decide +kernel
theorem dX3_reads_2 : decode cX3_reads 2 = .ok (.putfield 28, 3) := by decide +kernel
theorem dX3_reads_5 : decode cX3_reads 5 = .ok (.aload_n 0, 1) := by decide +kernel
theorem dX3_reads_6 : decode cX3_reads 6 = .ok (.getfield 28, 3) := by decide +kernel
theorem dX3_reads_9 : decode cX3_reads 9 = .ok (.invokevirtual 32, 3) := by decide +kernel
theorem dX3_reads_12 : decode cX3_reads 12 = .ok (.aload_n 0, 1) := by decide +kernel
theorem dX3_reads_13 : decode cX3_reads 13 = .ok (.getfield 24, 3) := by decide +kernel
theorem dX3_reads_16 : decode cX3_reads 16 = .ok (.invokevirtual 37, 3) := by decide +kernel
theorem dX3_reads_19 : decode cX3_reads 19 = .ok (.aload_n 0, 1) := by decide +kernel
theorem dX3_reads_20 : decode cX3_reads 20 = .ok (.iconst 0, 1) := by decide +kernel
theorem dX3_reads_21 : decode cX3_reads 21 = .ok (.putfield 13, 3) := by decide +kernel
theorem dX3_reads_24 : decode cX3_reads 24 = .ok (.aload_n 0, 1) := by decide +kernel
theorem dX3_reads_25 : decode cX3_reads 25 = .ok (.iconst (-1), 1) := by decide +kernel
theorem dX3_reads_26 : decode cX3_reads 26 = .ok (.putfield 17, 3) := by decide +kernel
theorem dX3_reads_29 : decode cX3_reads 29 = .ok (.aload_n 0, 1) := by decide +kernel
theorem dX3_reads_30 : decode cX3_reads 30 = .ok (.iconst 0, 1) := by decide +kernel
theorem dX3_reads_31 : decode cX3_reads 31 = .ok (.putfield 40, 3) := by decide +kernel
theorem dX3_reads_34 : decode cX3_reads 34 = .ok (.aload_n 0, 1) := by decide +kernel
theorem dX3_reads_35 : decode cX3_reads 35 = .ok (.aload_n 0, 1) := by decide +kernel
theorem dX3_reads_36 : decode cX3_reads 36 = .ok (.getfield 24, 3) := by decide +kernel
theorem dX3_reads_39 : decode cX3_reads 39 = .ok (.getfield 43, 3) := by decide +kernel
theorem dX3_reads_42 : decode cX3_reads 42 = .ok (.iconst 0, 1) := by decide +kernel
theorem dX3_reads_43 : decode cX3_reads 43 = .ok (.iaload, 1) := by decide +kernel
theorem dX3_reads_44 : decode cX3_reads 44 = .ok (.putfield 46, 3) := by decide +kernel
theorem dX3_reads_47 : decode cX3_reads 47 = .ok (.iconst 0, 1) := by decide +kernel
theorem dX3_reads_48 : decode cX3_reads 48 = .ok (.istore_n 2, 1) := by decide +kernel
theorem dX3_reads_49 : decode cX3_reads 49 = .ok (.iload_n 2, 1) := by decide +kernel
theorem dX3_reads_50 : decode cX3_reads 50 = .ok (.bipush 24, 2) := by decide +kernel
theorem dX3_reads_52 : decode cX3_reads 52 = .ok (.if_icmp .gt 28, 3) := by decide +kernel
theorem dX3_reads_55 : decode cX3_reads 55 = .ok (.aload_n 0, 1) := by decide +kernel
theorem dX3_reads_56 : decode cX3_reads 56 = .ok (.getfield 13, 3) := by decide +kernel
theorem dX3_reads_59 : decode cX3_reads 59 = .ok (.ifCond .ne 21, 3) := by decide +kernel
theorem dX3_reads_62 : decode cX3_reads 62 = .ok (.aload_n 0, 1) := by decide +kernel
theorem dX3_reads_63 : decode cX3_reads 63 = .ok (.getfield 46, 3) := by decide +kernel
theorem dX3_reads_66 : decode cX3_reads 66 = .ok (.iconst 1, 1) := by decide +kernel
theorem dX3_reads_67 : decode cX3_reads 67 = .ok (.if_icmp .eq 13, 3) := by decide +kernel
theorem dX3_reads_70 : decode cX3_reads 70 = .ok (.aload_n 0, 1) := by decide +kernel
theorem dX3_reads_71 : decode cX3_reads 71 = .ok (.invokevirtual 49, 3) := by decide +kernel
theorem dX3_reads_74 : decode cX3_reads 74 = .ok (.iinc 2 1, 3) := by decide +kernel
theorem dX3_reads_77 : decode cX3_reads 77 = .ok (.goto (-28), 3) := by decide +kernel
theorem dX3_reads_80 : decode cX3_reads 80 = .ok (.aload_n 0, 1) := by decide +kernel
theorem dX3_reads_81 : decode cX3_reads 81 = .ok (.getfield 24, 3) := by decide +kernel
theorem dX3_reads_84 : decode cX3_reads 84 = .ok (.iconst 0, 1) := by decide +kernel
theorem dX3_reads_85 : decode cX3_reads 85 = .ok (.putfield 52, 3) := by decide +kernel
theorem dX3_reads_88 : decode cX3_reads 88 = .ok (.aload_n 0, 1) := by decide +kernel
theorem dX3_reads_89 : decode cX3_reads 89 = .ok (.getfield 13, 3) := by decide +kernel
theorem dX3_reads_92 : decode cX3_reads 92 = .ok (.ifCond .ne 7, 3) := by decide +kernel
theorem dX3_reads_95 : decode cX3_reads 95 = .ok (.iconst 1, 1) := by decide +kernel
theorem dX3_reads_96 : decode cX3_reads 96 = .ok (.goto 4, 3) := by decide +kernel
theorem dX3_reads_99 : decode cX3_reads 99 = .ok (.iconst 0, 1) := by decide +kernel
theorem dX3_reads_100 : decode cX3_reads 100 = .ok (.ireturn, 1) := by decide +kernel
theorem dX3_advance_0 : decode cX3_advance 0 = .ok (.aload_n 0, 1) := by decide +kernel
theorem dX3_advance_1 : decode cX3_advance 1 = .ok (.getfield 40, 3) := by decide +kernel
theorem dX3_advance_4 : decode cX3_advance 4 = .ok (.sipush 300, 3) := by decide +kernel
theorem dX3_advance_7 : decode cX3_advance 7 = .ok (.if_icmp .ge 13, 3) := by decide +kernel
theorem dX3_advance_10 : decode cX3_advance 10 = .ok (.aload_n 0, 1) := by decide +kernel
