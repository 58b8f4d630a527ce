theorem dX12_endSunday_72 : decode cX12_endSunday 72 = .ok (.getfield 7, 3) := by decide +kernel
theorem dX12_endSunday_75 : decode cX12_endSunday 75 = .ok (.bipush 13, 2) := by decide +kernel
theorem dX12_endSunday_77 : decode cX12_endSunday 77 = .ok (.dup2, 1) := by decide +kernel
theorem dX12_endSunday_78 : decode cX12_endSunday 78 = .ok (.iaload, 1) := by decide +kernel
theorem dX12_endSunday_79 : decode cX12_endSunday 79 = .ok (.iconst 1, 1) := by decide +kernel
theorem dX12_endSunday_80 : decode cX12_endSunday 80 = .ok (.iadd, 1) := by decide +kernel
theorem dX12_endSunday_81 : decode cX12_endSunday 81 = .ok (.iastore, 1) := by decide +kernel
theorem dX12_endSunday_82 : decode cX12_endSunday 82 = .ok (.aload_n 0, 1) := by decide +kernel
theorem dX12_endSunday_83 : decode cX12_endSunday 83 = .ok (.getfield 7, 3) := by decide +kernel
theorem dX12_endSunday_86 : decode cX12_endSunday 86 = .ok (.bipush 14, 2) := by decide +kernel
theorem dX12_endSunday_88 : decode cX12_endSunday 88 = .ok (.iconst 0, 1) := by decide +kernel
theorem dX12_endSunday_89 : decode cX12_endSunday 89 = .ok (.iastore, 1) := by decide +kernel
theorem dX12_endSunday_90 : decode cX12_endSunday 90 = .ok (.aload_n 0, 1) := by decide +kernel
theorem dX12_endSunday_91 : decode cX12_endSunday 91 = .ok (.getfield 7, 3) := by decide +kernel
theorem dX12_endSunday_94 : decode cX12_endSunday 94 = .ok (.iload_n 1, 1) := by decide +kernel
theorem dX12_endSunday_95 : decode cX12_endSunday 95 = .ok (.iconst 3, 1) := by decide +kernel
theorem dX12_endSunday_96 : decode cX12_endSunday 96 = .ok (.iadd, 1) := by decide +kernel
theorem dX12_endSunday_97 : decode cX12_endSunday 97 = .ok (.iaload, 1) := by decide +kernel
theorem dX12_endSunday_98 : decode cX12_endSunday 98 = .ok (.ireturn, 1) := by decide +kernel
theorem dX12_sunday_0 : decode cX12_sunday 0 = .ok (.aload_n 0, 1) := by decide +kernel
theorem dX12_sunday_1 : decode cX12_sunday 1 = .ok (.invokevirtual 314, 3) := by decide +kernel
theorem dX12_sunday_4 : decode cX12_sunday 4 = .ok (.aload_n 0, 1) := by decide +kernel
theorem dX12_sunday_5 : decode cX12_sunday 5 = .ok (.invokevirtual 360, 3) := by decide +kernel
theorem dX12_sunday_8 : decode cX12_sunday 8 = .ok (.ireturn, 1) := by decide +kernel
theorem dX12_isPlayed_0 : decode cX12_isPlayed 0 = .ok (.aload_n 0, 1) := by decide +kernel
theorem dX12_isPlayed_1 : decode cX12_isPlayed 1 = .ok (.getfield 16, 3) := by decide +kernel
theorem dX12_isPlayed_4 : decode cX12_isPlayed 4 = .ok (.iload_n 1, 1) := by decide +kernel
theorem dX12_isPlayed_5 : decode cX12_isPlayed 5 = .ok (.iconst 1, 1) := by decide +kernel
theorem dX12_isPlayed_6 : decode cX12_isPlayed 6 = .ok (.iadd, 1) := by decide +kernel
theorem dX12_isPlayed_7 : decode cX12_isPlayed 7 = .ok (.iaload, 1) := by decide +kernel
theorem dX12_isPlayed_8 : decode cX12_isPlayed 8 = .ok (.istore_n 2, 1) := by decide +kernel
theorem dX12_isPlayed_9 : decode cX12_isPlayed 9 = .ok (.aload_n 0, 1) := by decide +kernel
theorem dX12_isPlayed_10 : decode cX12_isPlayed 10 = .ok (.getfield 16, 3) := by decide +kernel
theorem dX12_isPlayed_13 : decode cX12_isPlayed 13 = .ok (.iload_n 1, 1) := by decide +kernel
theorem dX12_isPlayed_14 : decode cX12_isPlayed 14 = .ok (.iaload, 1) := by decide +kernel
theorem dX12_isPlayed_15 : decode cX12_isPlayed 15 = .ok (.tableswitch 191 3 10 #[45, 75, 130, 144, 158, 165, 172, 178], 45) := by decide +kernel
theorem dX12_isPlayed_60 : decode cX12_isPlayed 60 = .ok (.aload_n 0, 1) := by decide +kernel
theorem dX12_isPlayed_61 : decode cX12_isPlayed 61 = .ok (.iload_n 2, 1) := by decide +kernel
theorem dX12_isPlayed_62 : decode cX12_isPlayed 62 = .ok (.aload_n 0, 1) := by decide +kernel
theorem dX12_isPlayed_63 : decode cX12_isPlayed 63 = .ok (.getfield 16, 3) := by decide +kernel
theorem dX12_isPlayed_66 : decode cX12_isPlayed 66 = .ok (.iload_n 1, 1) := by decide +kernel
theorem dX12_isPlayed_67 : decode cX12_isPlayed 67 = .ok (.iconst 2, 1) := by decide +kernel
theorem dX12_isPlayed_68 : decode cX12_isPlayed 68 = .ok (.iadd, 1) := by decide +kernel
theorem dX12_isPlayed_69 : decode cX12_isPlayed 69 = .ok (.iaload, 1) := by decide +kernel
theorem dX12_isPlayed_70 : decode cX12_isPlayed 70 = .ok (.aload_n 0, 1) := by decide +kernel
theorem dX12_isPlayed_71 : decode cX12_isPlayed 71 = .ok (.getfield 16, 3) := by decide +kernel
theorem dX12_isPlayed_74 : decode cX12_isPlayed 74 = .ok (.iload_n 1, 1) := by decide +kernel
theorem dX12_isPlayed_75 : decode cX12_isPlayed 75 = .ok (.iconst 3, 1) := by decide +kernel
theorem dX12_isPlayed_76 : decode cX12_isPlayed 76 = .ok (.iadd, 1) := by decide +kernel
theorem dX12_isPlayed_77 : decode cX12_isPlayed 77 = .ok (.iaload, 1) := by decide +kernel
theorem dX12_isPlayed_78 : decode cX12_isPlayed 78 = .ok (.invokevirtual 363, 3) := by decide +kernel
theorem dX12_isPlayed_81 : decode cX12_isPlayed 81 = .ok (.ifCond .lt 7, 3) := by decide +kernel
theorem dX12_isPlayed_84 : decode cX12_isPlayed 84 = .ok (.iconst 1, 1) := by decide +kernel
theorem dX12_isPlayed_85 : decode cX12_isPlayed 85 = .ok (.goto 4, 3) := by decide +kernel
theorem dX12_isPlayed_88 : decode cX12_isPlayed 88 = .ok (.iconst 0, 1) := by decide +kernel
theorem dX12_isPlayed_89 : decode cX12_isPlayed 89 = .ok (.ireturn, 1) := by decide +kernel
theorem dX12_isPlayed_90 : decode cX12_isPlayed 90 = .ok (.aload_n 0, 1) := by decide +kernel
theorem dX12_isPlayed_91 : decode cX12_isPlayed 91 = .ok (.aload_n 0, 1) := by decide +kernel
theorem dX12_isPlayed_92 : decode cX12_isPlayed 92 = .ok (.getfield 16, 3) := by decide +kernel
theorem dX12_isPlayed_95 : decode cX12_isPlayed 95 = .ok (.iload_n 1, 1) := by decide +kernel
theorem dX12_isPlayed_96 : decode cX12_isPlayed 96 = .ok (.iconst 3, 1) := by decide +kernel
theorem dX12_isPlayed_97 : decode cX12_isPlayed 97 = .ok (.iadd, 1) := by decide +kernel
theorem dX12_isPlayed_98 : decode cX12_isPlayed 98 = .ok (.iaload, 1) := by decide +kernel
theorem dX12_isPlayed_99 : decode cX12_isPlayed 99 = .ok (.aload_n 0, 1) := by decide +kernel
theorem dX12_isPlayed_100 : decode cX12_isPlayed 100 = .ok (.getfield 16, 3) := by decide +kernel
theorem dX12_isPlayed_103 : decode cX12_isPlayed 103 = .ok (.iload_n 1, 1) := by decide +kernel
theorem dX12_isPlayed_104 : decode cX12_isPlayed 104 = .ok (.iconst 4, 1) := by decide +kernel
theorem dX12_isPlayed_105 : decode cX12_isPlayed 105 = .ok (.iadd, 1) := by decide +kernel
theorem dX12_isPlayed_106 : decode cX12_isPlayed 106 = .ok (.iaload, 1) := by decide +kernel
theorem dX12_isPlayed_107 : decode cX12_isPlayed 107 = .ok (.aload_n 0, 1) := by decide +kernel
theorem dX12_isPlayed_108 : decode cX12_isPlayed 108 = .ok (.getfield 16, 3) := by decide +kernel
theorem dX12_isPlayed_111 : decode cX12_isPlayed 111 = .ok (.iload_n 1, 1) := by decide +kernel
theorem dX12_isPlayed_112 : decode cX12_isPlayed 112 = .ok (.iconst 5, 1) := by decide +kernel
theorem dX12_isPlayed_113 : decode cX12_isPlayed 113 = .ok (.iadd, 1) := by decide +kernel
theorem dX12_isPlayed_114 : decode cX12_isPlayed 114 = .ok (.iaload, 1) := by decide +kernel
theorem dX12_isPlayed_115 : decode cX12_isPlayed 115 = .ok (.aload_n 0, 1) := by decide +kernel
theorem dX12_isPlayed_116 : decode cX12_isPlayed 116 = .ok (.getfield 16, 3) := by decide +kernel
theorem dX12_isPlayed_119 : decode cX12_isPlayed 119 = .ok (.iload_n 1, 1) := by decide +kernel
theorem dX12_isPlayed_120 : decode cX12_isPlayed 120 = .ok (.bipush 6, 2) := by decide +kernel
theorem dX12_isPlayed_122 : decode cX12_isPlayed 122 = .ok (.iadd, 1) := by decide +kernel
theorem dX12_isPlayed_123 : decode cX12_isPlayed 123 = .ok (.iaload, 1) := by decide +kernel
theorem dX12_isPlayed_124 : decode cX12_isPlayed 124 = .ok (.iload_n 2, 1) := by decide +kernel
theorem dX12_isPlayed_125 : decode cX12_isPlayed 125 = .ok (.aload_n 0, 1) := by decide +kernel
theorem dX12_isPlayed_126 : decode cX12_isPlayed 126 = .ok (.getfield 16, 3) := by decide +kernel
theorem dX12_isPlayed_129 : decode cX12_isPlayed 129 = .ok (.iload_n 1, 1) := by decide +kernel
theorem dX12_isPlayed_130 : decode cX12_isPlayed 130 = .ok (.iconst 2, 1) := by decide +kernel
theorem dX12_isPlayed_131 : decode cX12_isPlayed 131 = .ok (.iadd, 1) := by decide +kernel
theorem dX12_isPlayed_132 : decode cX12_isPlayed 132 = .ok (.iaload, 1) := by decide +kernel
theorem dX12_isPlayed_133 : decode cX12_isPlayed 133 = .ok (.invokevirtual 366, 3) := by decide +kernel
theorem dX12_isPlayed_136 : decode cX12_isPlayed 136 = .ok (.ifCond .lt 7, 3) := by decide +kernel
theorem dX12_isPlayed_139 : decode cX12_isPlayed 139 = .ok (.iconst 1, 1) := by decide +kernel
theorem dX12_isPlayed_140 : decode cX12_isPlayed 140 = .ok (.goto 4, 3) := by decide +kernel
theorem dX12_isPlayed_143 : decode cX12_isPlayed 143 = .ok (.iconst 0, 1) := by decide +kernel
theorem dX12_isPlayed_144 : decode cX12_isPlayed 144 = .ok (.ireturn, 1) := by decide +kernel
theorem dX12_isPlayed_145 : decode cX12_isPlayed 145 = .ok (.aload_n 0, 1) := by decide +kernel
theorem dX12_isPlayed_146 : decode cX12_isPlayed 146 = .ok (.iload_n 2, 1) := by decide +kernel
theorem dX12_isPlayed_147 : decode cX12_isPlayed 147 = .ok (.invokevirtual 369, 3) := by decide +kernel
theorem dX12_isPlayed_150 : decode cX12_isPlayed 150 = .ok (.ifCond .lt 7, 3) := by decide +kernel
theorem dX12_isPlayed_153 : decode cX12_isPlayed 153 = .ok (.iconst 1, 1) := by decide +kernel
theorem dX12_isPlayed_154 : decode cX12_isPlayed 154 = .ok (.goto 4, 3) := by decide +kernel
theorem dX12_isPlayed_157 : decode cX12_isPlayed 157 = .ok (.iconst 0, 1) := by decide +kernel
theorem dX12_isPlayed_158 : decode cX12_isPlayed 158 = .ok (.ireturn, 1) := by decide +kernel
theorem dX12_isPlayed_159 : decode cX12_isPlayed 159 = .ok (.aload_n 0, 1) := by decide +kernel
theorem dX12_isPlayed_160 : decode cX12_isPlayed 160 = .ok (.iload_n 2, 1) := by decide +kernel
theorem dX12_isPlayed_161 : decode cX12_isPlayed 161 = .ok (.invokevirtual 372, 3) := by decide +kernel
theorem dX12_isPlayed_164 : decode cX12_isPlayed 164 = .ok (.ifCond .lt 7, 3) := by decide +kernel
theorem dX12_isPlayed_167 : decode cX12_isPlayed 167 = .ok (.iconst 1, 1) := by decide +kernel
theorem dX12_isPlayed_168 : decode cX12_isPlayed 168 = .ok (.goto 4, 3) := by decide +kernel
theorem dX12_isPlayed_171 : decode cX12_isPlayed 171 = .ok (.iconst 0, 1) := by decide +kernel
theorem dX12_isPlayed_172 : decode cX12_isPlayed 172 = .ok (.ireturn, 1) := by decide +kernel
theorem dX12_isPlayed_173 : decode cX12_isPlayed 173 = .ok (.aload_n 0, 1) := by decide +kernel
theorem dX12_isPlayed_174 : decode cX12_isPlayed 174 = .ok (.iconst 0, 1) := by decide +kernel
theorem dX12_isPlayed_175 : decode cX12_isPlayed 175 = .ok (.iload_n 2, 1) := by decide +kernel
theorem dX12_isPlayed_176 : decode cX12_isPlayed 176 = .ok (.invokevirtual 375, 3) := by decide +kernel
theorem dX12_isPlayed_179 : decode cX12_isPlayed 179 = .ok (.ireturn, 1) := by decide +kernel
theorem dX12_isPlayed_180 : decode cX12_isPlayed 180 = .ok (.aload_n 0, 1) := by decide +kernel
theorem dX12_isPlayed_181 : decode cX12_isPlayed 181 = .ok (.iconst 1, 1) := by decide +kernel
theorem dX12_isPlayed_182 : decode cX12_isPlayed 182 = .ok (.iload_n 2, 1) := by decide +kernel
theorem dX12_isPlayed_183 : decode cX12_isPlayed 183 = .ok (.invokevirtual 375, 3) := by decide +kernel
theorem dX12_isPlayed_186 : decode cX12_isPlayed 186 = .ok (.ireturn, 1) := by decide +kernel
theorem dX12_isPlayed_187 : decode cX12_isPlayed 187 = .ok (.aload_n 0, 1) := by decide +kernel
theorem dX12_isPlayed_188 : decode cX12_isPlayed 188 = .ok (.iload_n 2, 1) := by decide +kernel
theorem dX12_isPlayed_189 : decode cX12_isPlayed 189 = .ok (.invokevirtual 350, 3) := by decide +kernel
theorem dX12_isPlayed_192 : decode cX12_isPlayed 192 = .ok (.ireturn, 1) := by decide +kernel
theorem dX12_isPlayed_193 : decode cX12_isPlayed 193 = .ok (.aload_n 0, 1) := by decide +kernel
theorem dX12_isPlayed_194 : decode cX12_isPlayed 194 = .ok (.invokevirtual 379, 3) := by decide +kernel
theorem dX12_isPlayed_197 : decode cX12_isPlayed 197 = .ok (.ifCond .lt 7, 3) := by decide +kernel
theorem dX12_isPlayed_200 : decode cX12_isPlayed 200 = .ok (.iconst 1, 1) := by decide +kernel
theorem dX12_isPlayed_201 : decode cX12_isPlayed 201 = .ok (.goto 4, 3) := by decide +kernel
theorem dX12_isPlayed_204 : decode cX12_isPlayed 204 = .ok (.iconst 0, 1) := by decide +kernel
theorem dX12_isPlayed_205 : decode cX12_isPlayed 205 = .ok (.ireturn, 1) := by decide +kernel
theorem dX12_isPlayed_206 : decode cX12_isPlayed 206 = .ok (.iconst 1, 1) := by decide +kernel
theorem dX12_isPlayed_207 : decode cX12_isPlayed 207 = .ok (.ireturn, 1) := by decide +kernel
theorem dX12_played_0 : decode cX12_played 0 = .ok (.iload_n 1, 1) := by decide +kernel
theorem dX12_played_1 : decode cX12_played 1 = .ok (.iconst 0, 1) := by decide +kernel
theorem dX12_played_2 : decode cX12_played 2 = .ok (.aload_n 0, 1) := by decide +kernel
theorem dX12_played_3 : decode cX12_played 3 = .ok (.getfield 7, 3) := by decide +kernel
theorem dX12_played_6 : decode cX12_played 6 = .ok (.iconst 2, 1) := by decide +kernel
theorem dX12_played_7 : decode cX12_played 7 = .ok (.iaload, 1) := by decide +kernel
theorem dX12_played_8 : decode cX12_played 8 = .ok (.iconst 1, 1) := by decide +kernel
theorem dX12_played_9 : decode cX12_played 9 = .ok (.isub, 1) := by decide +kernel
theorem dX12_played_10 : decode cX12_played 10 = .ok (.invokestatic 80, 3) := by decide +kernel
theorem dX12_played_13 : decode cX12_played 13 = .ok (.ifCond .ne 6, 3) := by decide +kernel
theorem dX12_played_16 : decode cX12_played 16 = .ok (.bipush (-2), 2) := by decide +kernel
theorem dX12_played_18 : decode cX12_played 18 = .ok (.ireturn, 1) := by decide +kernel
theorem dX12_played_19 : decode cX12_played 19 = .ok (.iconst 0, 1) := by decide +kernel
theorem dX12_played_20 : decode cX12_played 20 = .ok (.istore_n 2, 1) := by decide +kernel
theorem dX12_played_21 : decode cX12_played 21 = .ok (.iload_n 2, 1) := by decide +kernel
theorem dX12_played_22 : decode cX12_played 22 = .ok (.aload_n 0, 1) := by decide +kernel
theorem dX12_played_23 : decode cX12_played 23 = .ok (.getfield 16, 3) := by decide +kernel
theorem dX12_played_26 : decode cX12_played 26 = .ok (.sipush 801, 3) := by decide +kernel
theorem dX12_played_29 : decode cX12_played 29 = .ok (.iload_n 1, 1) := by decide +kernel
theorem dX12_played_30 : decode cX12_played 30 = .ok (.imul, 1) := by decide +kernel
theorem dX12_played_31 : decode cX12_played 31 = .ok (.iaload, 1) := by decide +kernel
theorem dX12_played_32 : decode cX12_played 32 = .ok (.if_icmp .ge 30, 3) := by decide +kernel
theorem dX12_played_35 : decode cX12_played 35 = .ok (.aload_n 0, 1) := by decide +kernel
theorem dX12_played_36 : decode cX12_played 36 = .ok (.sipush 801, 3) := by decide +kernel
theorem dX12_played_39 : decode cX12_played 39 = .ok (.iload_n 1, 1) := by decide +kernel
theorem dX12_played_40 : decode cX12_played 40 = .ok (.imul, 1) := by decide +kernel
theorem dX12_played_41 : decode cX12_played 41 = .ok (.iconst 1, 1) := by decide +kernel
theorem dX12_played_42 : decode cX12_played 42 = .ok (.iadd, 1) := by decide +kernel
theorem dX12_played_43 : decode cX12_played 43 = .ok (.bipush 8, 2) := by decide +kernel
theorem dX12_played_45 : decode cX12_played 45 = .ok (.iload_n 2, 1) := by decide +kernel
theorem dX12_played_46 : decode cX12_played 46 = .ok (.imul, 1) := by decide +kernel
theorem dX12_played_47 : decode cX12_played 47 = .ok (.iadd, 1) := by decide +kernel
theorem dX12_played_48 : decode cX12_played 48 = .ok (.invokevirtual 382, 3) := by decide +kernel
theorem dX12_played_51 : decode cX12_played 51 = .ok (.ifCond .ne 5, 3) := by decide +kernel
theorem dX12_played_54 : decode cX12_played 54 = .ok (.iload_n 2, 1) := by decide +kernel
theorem dX12_played_55 : decode cX12_played 55 = .ok (.ireturn, 1) := by decide +kernel
theorem dX12_played_56 : decode cX12_played 56 = .ok (.iinc 2 1, 3) := by decide +kernel
theorem dX12_played_59 : decode cX12_played 59 = .ok (.goto (-38), 3) := by decide +kernel
theorem dX12_played_62 : decode cX12_played 62 = .ok (.iconst (-1), 1) := by decide +kernel
theorem dX12_played_63 : decode cX12_played 63 = .ok (.ireturn, 1) := by decide +kernel
theorem dX12_happens_0 : decode cX12_happens 0 = .ok (.iload_n 1, 1) := by decide +kernel
theorem dX12_happens_1 : decode cX12_happens 1 = .ok (.aload_n 0, 1) := by decide +kernel
theorem dX12_happens_2 : decode cX12_happens 2 = .ok (.getfield 7, 3) := by decide +kernel
theorem dX12_happens_5 : decode cX12_happens 5 = .ok (.iconst 0, 1) := by decide +kernel
theorem dX12_happens_6 : decode cX12_happens 6 = .ok (.iaload, 1) := by decide +kernel
theorem dX12_happens_7 : decode cX12_happens 7 = .ok (.irem, 1) := by decide +kernel
theorem dX12_happens_8 : decode cX12_happens 8 = .ok (.istore_n 2, 1) := by decide +kernel
theorem dX12_happens_9 : decode cX12_happens 9 = .ok (.iload_n 1, 1) := by decide +kernel
theorem dX12_happens_10 : decode cX12_happens 10 = .ok (.aload_n 0, 1) := by decide +kernel
theorem dX12_happens_11 : decode cX12_happens 11 = .ok (.getfield 7, 3) := by decide +kernel
theorem dX12_happens_14 : decode cX12_happens 14 = .ok (.iconst 1, 1) := by decide +kernel
theorem dX12_happens_15 : decode cX12_happens 15 = .ok (.iaload, 1) := by decide +kernel
theorem dX12_happens_16 : decode cX12_happens 16 = .ok (.irem, 1) := by decide +kernel
theorem dX12_happens_17 : decode cX12_happens 17 = .ok (.istore_n 3, 1) := by decide +kernel
theorem dX12_happens_18 : decode cX12_happens 18 = .ok (.iload_n 1, 1) := by decide +kernel
theorem dX12_happens_19 : decode cX12_happens 19 = .ok (.iconst 5, 1) := by decide +kernel
theorem dX12_happens_20 : decode cX12_happens 20 = .ok (.irem, 1) := by decide +kernel
theorem dX12_happens_21 : decode cX12_happens 21 = .ok (.tableswitch 69 0 2 #[27, 44, 61], 27) := by decide +kernel
theorem dX12_happens_48 : decode cX12_happens 48 = .ok (.aload_n 0, 1) := by decide +kernel
theorem dX12_happens_49 : decode cX12_happens 49 = .ok (.iload_n 2, 1) := by decide +kernel
theorem dX12_happens_50 : decode cX12_happens 50 = .ok (.invokevirtual 311, 3) := by decide +kernel
theorem dX12_happens_53 : decode cX12_happens 53 = .ok (.ifCond .eq 54, 3) := by decide +kernel
theorem dX12_happens_56 : decode cX12_happens 56 = .ok (.aload_n 0, 1) := by decide +kernel
theorem dX12_happens_57 : decode cX12_happens 57 = .ok (.iload_n 2, 1) := by decide +kernel
theorem dX12_happens_58 : decode cX12_happens 58 = .ok (.invokevirtual 317, 3) := by decide +kernel
theorem dX12_happens_61 : decode cX12_happens 61 = .ok (.pop, 1) := by decide +kernel
theorem dX12_happens_62 : decode cX12_happens 62 = .ok (.goto 45, 3) := by decide +kernel
theorem dX12_happens_65 : decode cX12_happens 65 = .ok (.aload_n 0, 1) := by decide +kernel
theorem dX12_happens_66 : decode cX12_happens 66 = .ok (.iload_n 3, 1) := by decide +kernel
theorem dX12_happens_67 : decode cX12_happens 67 = .ok (.invokevirtual 329, 3) := by decide +kernel
theorem dX12_happens_70 : decode cX12_happens 70 = .ok (.ifCond .eq 37, 3) := by decide +kernel
theorem dX12_happens_73 : decode cX12_happens 73 = .ok (.aload_n 0, 1) := by decide +kernel
theorem dX12_happens_74 : decode cX12_happens 74 = .ok (.iload_n 3, 1) := by decide +kernel
theorem dX12_happens_75 : decode cX12_happens 75 = .ok (.invokevirtual 332, 3) := by decide +kernel
theorem dX12_happens_78 : decode cX12_happens 78 = .ok (.pop, 1) := by decide +kernel
theorem dX12_happens_79 : decode cX12_happens 79 = .ok (.goto 28, 3) := by decide +kernel
theorem dX12_happens_82 : decode cX12_happens 82 = .ok (.aload_n 0, 1) := by decide +kernel
theorem dX12_happens_83 : decode cX12_happens 83 = .ok (.invokevirtual 360, 3) := by decide +kernel
theorem dX12_happens_86 : decode cX12_happens 86 = .ok (.pop, 1) := by decide +kernel
theorem dX12_happens_87 : decode cX12_happens 87 = .ok (.goto 20, 3) := by decide +kernel
theorem dX12_happens_90 : decode cX12_happens 90 = .ok (.aload_n 0, 1) := by decide +kernel
theorem dX12_happens_91 : decode cX12_happens 91 = .ok (.getfield 7, 3) := by decide +kernel
theorem dX12_happens_94 : decode cX12_happens 94 = .ok (.bipush 10, 2) := by decide +kernel
theorem dX12_happens_96 : decode cX12_happens 96 = .ok (.iaload, 1) := by decide +kernel
theorem dX12_happens_97 : decode cX12_happens 97 = .ok (.sipush 9999, 3) := by decide +kernel
theorem dX12_happens_100 : decode cX12_happens 100 = .ok (.if_icmp .ge 7, 3) := by decide +kernel
theorem dX12_happens_103 : decode cX12_happens 103 = .ok (.aload_n 0, 1) := by decide +kernel
theorem dX12_happens_104 : decode cX12_happens 104 = .ok (.invokevirtual 347, 3) := by decide +kernel
theorem dX12_happens_107 : decode cX12_happens 107 = .ok (.return_, 1) := by decide +kernel
theorem dX12_centuries_0 : decode cX12_centuries 0 = .ok (.iload_n 1, 1) := by decide +kernel
theorem dX12_centuries_1 : decode cX12_centuries 1 = .ok (.iconst 0, 1) := by decide +kernel
theorem dX12_centuries_2 : decode cX12_centuries 2 = .ok (.sipush 9999, 3) := by decide +kernel
theorem dX12_centuries_5 : decode cX12_centuries 5 = .ok (.invokestatic 80, 3) := by decide +kernel
theorem dX12_centuries_8 : decode cX12_centuries 8 = .ok (.ifCond .eq 31, 3) := by decide +kernel
theorem dX12_centuries_11 : decode cX12_centuries 11 = .ok (.iload_n 2, 1) := by decide +kernel
theorem dX12_centuries_12 : decode cX12_centuries 12 = .ok (.iconst 1, 1) := by decide +kernel
theorem dX12_centuries_13 : decode cX12_centuries 13 = .ok (.bipush 40, 2) := by decide +kernel
theorem dX12_centuries_15 : decode cX12_centuries 15 = .ok (.invokestatic 80, 3) := by decide +kernel
theorem dX12_centuries_18 : decode cX12_centuries 18 = .ok (.ifCond .eq 21, 3) := by decide +kernel
theorem dX12_centuries_21 : decode cX12_centuries 21 = .ok (.aload_n 0, 1) := by decide +kernel
theorem dX12_centuries_22 : decode cX12_centuries 22 = .ok (.getfield 7, 3) := by decide +kernel
theorem dX12_centuries_25 : decode cX12_centuries 25 = .ok (.iconst 0, 1) := by decide +kernel
theorem dX12_centuries_26 : decode cX12_centuries 26 = .ok (.iaload, 1) := by decide +kernel
theorem dX12_centuries_27 : decode cX12_centuries 27 = .ok (.ifCond .eq 12, 3) := by decide +kernel
theorem dX12_centuries_30 : decode cX12_centuries 30 = .ok (.aload_n 0, 1) := by decide +kernel
theorem dX12_centuries_31 : decode cX12_centuries 31 = .ok (.getfield 7, 3) := by decide +kernel
theorem dX12_centuries_34 : decode cX12_centuries 34 = .ok (.iconst 1, 1) := by decide +kernel
theorem dX12_centuries_35 : decode cX12_centuries 35 = .ok (.iaload, 1) := by decide +kernel
theorem dX12_centuries_36 : decode cX12_centuries 36 = .ok (.ifCond .ne 5, 3) := by decide +kernel
theorem dX12_centuries_39 : decode cX12_centuries 39 = .ok (.iconst (-1), 1) := by decide +kernel
theorem dX12_centuries_40 : decode cX12_centuries 40 = .ok (.ireturn, 1) := by decide +kernel
theorem dX12_centuries_41 : decode cX12_centuries 41 = .ok (.aload_n 0, 1) := by decide +kernel
theorem dX12_centuries_42 : decode cX12_centuries 42 = .ok (.invokevirtual 314, 3) := by decide +kernel
theorem dX12_centuries_45 : decode cX12_centuries 45 = .ok (.aload_n 0, 1) := by decide +kernel
theorem dX12_centuries_46 : decode cX12_centuries 46 = .ok (.getfield 7, 3) := by decide +kernel
theorem dX12_centuries_49 : decode cX12_centuries 49 = .ok (.bipush 12, 2) := by decide +kernel
theorem dX12_centuries_51 : decode cX12_centuries 51 = .ok (.iload_n 1, 1) := by decide +kernel
theorem dX12_centuries_52 : decode cX12_centuries 52 = .ok (.iconst 2, 1) := by decide +kernel
theorem dX12_centuries_53 : decode cX12_centuries 53 = .ok (.imul, 1) := by decide +kernel
theorem dX12_centuries_54 : decode cX12_centuries 54 = .ok (.bipush 101, 2) := by decide +kernel
theorem dX12_centuries_56 : decode cX12_centuries 56 = .ok (.iadd, 1) := by decide +kernel
theorem dX12_centuries_57 : decode cX12_centuries 57 = .ok (.iastore, 1) := by decide +kernel
theorem dX12_centuries_58 : decode cX12_centuries 58 = .ok (.iconst 0, 1) := by decide +kernel
theorem dX12_centuries_59 : decode cX12_centuries 59 = .ok (.istore_n 3, 1) := by decide +kernel
theorem dX12_centuries_60 : decode cX12_centuries 60 = .ok (.iload_n 3, 1) := by decide +kernel
theorem dX12_centuries_61 : decode cX12_centuries 61 = .ok (.iload_n 2, 1) := by decide +kernel
theorem dX12_centuries_62 : decode cX12_centuries 62 = .ok (.if_icmp .ge 28, 3) := by decide +kernel
theorem dX12_centuries_65 : decode cX12_centuries 65 = .ok (.aload_n 0, 1) := by decide +kernel
theorem dX12_centuries_66 : decode cX12_centuries 66 = .ok (.getfield 7, 3) := by decide +kernel
theorem dX12_centuries_69 : decode cX12_centuries 69 = .ok (.bipush 12, 2) := by decide +kernel
theorem dX12_centuries_71 : decode cX12_centuries 71 = .ok (.iaload, 1) := by decide +kernel
theorem dX12_centuries_72 : decode cX12_centuries 72 = .ok (.istore 4, 2) := by decide +kernel
theorem dX12_centuries_74 : decode cX12_centuries 74 = .ok (.aload_n 0, 1) := by decide +kernel
theorem dX12_centuries_75 : decode cX12_centuries 75 = .ok (.invokevirtual 335, 3) := by decide +kernel
theorem dX12_centuries_78 : decode cX12_centuries 78 = .ok (.aload_n 0, 1) := by decide +kernel
theorem dX12_centuries_79 : decode cX12_centuries 79 = .ok (.iload 4, 2) := by decide +kernel
theorem dX12_centuries_81 : decode cX12_centuries 81 = .ok (.invokevirtual 385, 3) := by decide +kernel
theorem dX12_centuries_84 : decode cX12_centuries 84 = .ok (.iinc 3 1, 3) := by decide +kernel
theorem dX12_centuries_87 : decode cX12_centuries 87 = .ok (.goto (-27), 3) := by decide +kernel
theorem dX12_centuries_90 : decode cX12_centuries 90 = .ok (.aload_n 0, 1) := by decide +kernel
theorem dX12_centuries_91 : decode cX12_centuries 91 = .ok (.getfield 7, 3) := by decide +kernel
theorem dX12_centuries_94 : decode cX12_centuries 94 = .ok (.bipush 10, 2) := by decide +kernel
theorem dX12_centuries_96 : decode cX12_centuries 96 = .ok (.iaload, 1) := by decide +kernel
theorem dX12_centuries_97 : decode cX12_centuries 97 = .ok (.ireturn, 1) := by decide +kernel
theorem dX12_ofBell_0 : decode cX12_ofBell 0 = .ok (.aload_n 0, 1) := by decide +kernel
theorem dX12_ofBell_1 : decode cX12_ofBell 1 = .ok (.iload_n 1, 1) := by decide +kernel
theorem dX12_ofBell_2 : decode cX12_ofBell 2 = .ok (.invokevirtual 88, 3) := by decide +kernel
theorem dX12_ofBell_5 : decode cX12_ofBell 5 = .ok (.ifCond .eq 12, 3) := by decide +kernel
theorem dX12_ofBell_8 : decode cX12_ofBell 8 = .ok (.iload_n 2, 1) := by decide +kernel
theorem dX12_ofBell_9 : decode cX12_ofBell 9 = .ok (.iconst 0, 1) := by decide +kernel
theorem dX12_ofBell_10 : decode cX12_ofBell 10 = .ok (.iconst 3, 1) := by decide +kernel
theorem dX12_ofBell_11 : decode cX12_ofBell 11 = .ok (.invokestatic 80, 3) := by decide +kernel
theorem dX12_ofBell_14 : decode cX12_ofBell 14 = .ok (.ifCond .ne 5, 3) := by decide +kernel
theorem dX12_ofBell_17 : decode cX12_ofBell 17 = .ok (.iconst (-1), 1) := by decide +kernel
theorem dX12_ofBell_18 : decode cX12_ofBell 18 = .ok (.ireturn, 1) := by decide +kernel
theorem dX12_ofBell_19 : decode cX12_ofBell 19 = .ok (.iload_n 2, 1) := by decide +kernel
theorem dX12_ofBell_20 : decode cX12_ofBell 20 = .ok (.iconst 3, 1) := by decide +kernel
theorem dX12_ofBell_21 : decode cX12_ofBell 21 = .ok (.if_icmp .ge 19, 3) := by decide +kernel
theorem dX12_ofBell_24 : decode cX12_ofBell 24 = .ok (.aload_n 0, 1) := by decide +kernel
theorem dX12_ofBell_25 : decode cX12_ofBell 25 = .ok (.getfield 7, 3) := by decide +kernel
theorem dX12_ofBell_28 : decode cX12_ofBell 28 = .ok (.bipush 16, 2) := by decide +kernel
theorem dX12_ofBell_30 : decode cX12_ofBell 30 = .ok (.iconst 3, 1) := by decide +kernel
theorem dX12_ofBell_31 : decode cX12_ofBell 31 = .ok (.iload_n 1, 1) := by decide +kernel
theorem dX12_ofBell_32 : decode cX12_ofBell 32 = .ok (.imul, 1) := by decide +kernel
theorem dX12_ofBell_33 : decode cX12_ofBell 33 = .ok (.iadd, 1) := by decide +kernel
theorem dX12_ofBell_34 : decode cX12_ofBell 34 = .ok (.iload_n 2, 1) := by decide +kernel
theorem dX12_ofBell_35 : decode cX12_ofBell 35 = .ok (.iadd, 1) := by decide +kernel
theorem dX12_ofBell_36 : decode cX12_ofBell 36 = .ok (.iaload, 1) := by decide +kernel
theorem dX12_ofBell_37 : decode cX12_ofBell 37 = .ok (.goto 30, 3) := by decide +kernel
theorem dX12_ofBell_40 : decode cX12_ofBell 40 = .ok (.aload_n 0, 1) := by decide +kernel
theorem dX12_ofBell_41 : decode cX12_ofBell 41 = .ok (.iload_n 1, 1) := by decide +kernel
theorem dX12_ofBell_42 : decode cX12_ofBell 42 = .ok (.aload_n 0, 1) := by decide +kernel
theorem dX12_ofBell_43 : decode cX12_ofBell 43 = .ok (.getfield 7, 3) := by decide +kernel
theorem dX12_ofBell_46 : decode cX12_ofBell 46 = .ok (.bipush 8, 2) := by decide +kernel
theorem dX12_ofBell_48 : decode cX12_ofBell 48 = .ok (.iaload, 1) := by decide +kernel
theorem dX12_ofBell_49 : decode cX12_ofBell 49 = .ok (.aload_n 0, 1) := by decide +kernel
theorem dX12_ofBell_50 : decode cX12_ofBell 50 = .ok (.getfield 7, 3) := by decide +kernel
theorem dX12_ofBell_53 : decode cX12_ofBell 53 = .ok (.bipush 14, 2) := by decide +kernel
theorem dX12_ofBell_55 : decode cX12_ofBell 55 = .ok (.iaload, 1) := by decide +kernel
theorem dX12_ofBell_56 : decode cX12_ofBell 56 = .ok (.invokevirtual 308, 3) := by decide +kernel
theorem dX12_ofBell_59 : decode cX12_ofBell 59 = .ok (.ifCond .eq 7, 3) := by decide +kernel
theorem dX12_ofBell_62 : decode cX12_ofBell 62 = .ok (.iconst 1, 1) := by decide +kernel
theorem dX12_ofBell_63 : decode cX12_ofBell 63 = .ok (.goto 4, 3) := by decide +kernel
theorem dX12_ofBell_66 : decode cX12_ofBell 66 = .ok (.iconst 0, 1) := by decide +kernel
theorem dX12_ofBell_67 : decode cX12_ofBell 67 = .ok (.ireturn, 1) := by decide +kernel
theorem dX12_ofWord_0 : decode cX12_ofWord 0 = .ok (.aload_n 0, 1) := by decide +kernel
theorem dX12_ofWord_1 : decode cX12_ofWord 1 = .ok (.iload_n 1, 1) := by decide +kernel
theorem dX12_ofWord_2 : decode cX12_ofWord 2 = .ok (.invokevirtual 326, 3) := by decide +kernel
theorem dX12_ofWord_5 : decode cX12_ofWord 5 = .ok (.ifCond .eq 13, 3) := by decide +kernel
theorem dX12_ofWord_8 : decode cX12_ofWord 8 = .ok (.iload_n 2, 1) := by decide +kernel
theorem dX12_ofWord_9 : decode cX12_ofWord 9 = .ok (.iconst 0, 1) := by decide +kernel
theorem dX12_ofWord_10 : decode cX12_ofWord 10 = .ok (.bipush 7, 2) := by decide +kernel
theorem dX12_ofWord_12 : decode cX12_ofWord 12 = .ok (.invokestatic 80, 3) := by decide +kernel
theorem dX12_ofWord_15 : decode cX12_ofWord 15 = .ok (.ifCond .ne 6, 3) := by decide +kernel
theorem dX12_ofWord_18 : decode cX12_ofWord 18 = .ok (.bipush (-2), 2) := by decide +kernel
theorem dX12_ofWord_20 : decode cX12_ofWord 20 = .ok (.ireturn, 1) := by decide +kernel
theorem dX12_ofWord_21 : decode cX12_ofWord 21 = .ok (.iload_n 2, 1) := by decide +kernel
theorem dX12_ofWord_22 : decode cX12_ofWord 22 = .ok (.iconst 3, 1) := by decide +kernel
theorem dX12_ofWord_23 : decode cX12_ofWord 23 = .ok (.if_icmp .ge 12, 3) := by decide +kernel
theorem dX12_ofWord_26 : decode cX12_ofWord 26 = .ok (.aload_n 0, 1) := by decide +kernel
theorem dX12_ofWord_27 : decode cX12_ofWord 27 = .ok (.iload_n 1, 1) := by decide +kernel
theorem dX12_ofWord_28 : decode cX12_ofWord 28 = .ok (.iload_n 2, 1) := by decide +kernel
theorem dX12_ofWord_29 : decode cX12_ofWord 29 = .ok (.invokevirtual 84, 3) := by decide +kernel
theorem dX12_ofWord_32 : decode cX12_ofWord 32 = .ok (.goto 24, 3) := by decide +kernel
theorem dX12_ofWord_35 : decode cX12_ofWord 35 = .ok (.iload_n 2, 1) := by decide +kernel
theorem dX12_ofWord_36 : decode cX12_ofWord 36 = .ok (.iconst 3, 1) := by decide +kernel
theorem dX12_ofWord_37 : decode cX12_ofWord 37 = .ok (.if_icmp .ne 11, 3) := by decide +kernel
theorem dX12_ofWord_40 : decode cX12_ofWord 40 = .ok (.aload_n 0, 1) := by decide +kernel
theorem dX12_ofWord_41 : decode cX12_ofWord 41 = .ok (.iload_n 1, 1) := by decide +kernel
theorem dX12_ofWord_42 : decode cX12_ofWord 42 = .ok (.invokevirtual 323, 3) := by decide +kernel
theorem dX12_ofWord_45 : decode cX12_ofWord 45 = .ok (.goto 11, 3) := by decide +kernel
theorem dX12_ofWord_48 : decode cX12_ofWord 48 = .ok (.aload_n 0, 1) := by decide +kernel
theorem dX12_ofWord_49 : decode cX12_ofWord 49 = .ok (.iload_n 1, 1) := by decide +kernel
theorem dX12_ofWord_50 : decode cX12_ofWord 50 = .ok (.iload_n 2, 1) := by decide +kernel
theorem dX12_ofWord_51 : decode cX12_ofWord 51 = .ok (.iconst 4, 1) := by decide +kernel
theorem dX12_ofWord_52 : decode cX12_ofWord 52 = .ok (.isub, 1) := by decide +kernel
theorem dX12_ofWord_53 : decode cX12_ofWord 53 = .ok (.invokevirtual 320, 3) := by decide +kernel
theorem dX12_ofWord_56 : decode cX12_ofWord 56 = .ok (.ireturn, 1) := by decide +kernel
theorem dX12_is_0 : decode cX12_is 0 = .ok (.iload_n 1, 1) := by decide +kernel
theorem dX12_is_1 : decode cX12_is 1 = .ok (.iconst 0, 1) := by decide +kernel
theorem dX12_is_2 : decode cX12_is 2 = .ok (.iconst 4, 1) := by decide +kernel
theorem dX12_is_3 : decode cX12_is 3 = .ok (.invokestatic 80, 3) := by decide +kernel
theorem dX12_is_6 : decode cX12_is 6 = .ok (.ifCond .eq 15, 3) := by decide +kernel
theorem dX12_is_9 : decode cX12_is 9 = .ok (.aload_n 0, 1) := by decide +kernel
theorem dX12_is_10 : decode cX12_is 10 = .ok (.getfield 7, 3) := by decide +kernel
theorem dX12_is_13 : decode cX12_is 13 = .ok (.bipush 8, 2) := by decide +kernel
theorem dX12_is_15 : decode cX12_is 15 = .ok (.iload_n 1, 1) := by decide +kernel
theorem dX12_is_16 : decode cX12_is 16 = .ok (.iadd, 1) := by decide +kernel
theorem dX12_is_17 : decode cX12_is 17 = .ok (.iaload, 1) := by decide +kernel
theorem dX12_is_18 : decode cX12_is 18 = .ok (.goto 5, 3) := by decide +kernel
theorem dX12_is_21 : decode cX12_is 21 = .ok (.bipush (-2), 2) := by decide +kernel
theorem dX12_is_23 : decode cX12_is 23 = .ok (.ireturn, 1) := by decide +kernel
theorem dX12_rung_0 : decode cX12_rung 0 = .ok (.iload_n 1, 1) := by decide +kernel
theorem dX12_rung_1 : decode cX12_rung 1 = .ok (.iconst (-1), 1) := by decide +kernel
theorem dX12_rung_2 : decode cX12_rung 2 = .ok (.if_icmp .ne 13, 3) := by decide +kernel
theorem dX12_rung_5 : decode cX12_rung 5 = .ok (.aload_n 0, 1) := by decide +kernel
theorem dX12_rung_6 : decode cX12_rung 6 = .ok (.getfield 7, 3) := by decide +kernel
theorem dX12_rung_9 : decode cX12_rung 9 = .ok (.bipush 14, 2) := by decide +kernel
theorem dX12_rung_11 : decode cX12_rung 11 = .ok (.iaload, 1) := by decide +kernel
theorem dX12_rung_12 : decode cX12_rung 12 = .ok (.goto 35, 3) := by decide +kernel
theorem dX12_rung_15 : decode cX12_rung 15 = .ok (.iload_n 1, 1) := by decide +kernel
theorem dX12_rung_16 : decode cX12_rung 16 = .ok (.iconst 0, 1) := by decide +kernel
theorem dX12_rung_17 : decode cX12_rung 17 = .ok (.aload_n 0, 1) := by decide +kernel
theorem dX12_rung_18 : decode cX12_rung 18 = .ok (.getfield 7, 3) := by decide +kernel
theorem dX12_rung_21 : decode cX12_rung 21 = .ok (.bipush 14, 2) := by decide +kernel
theorem dX12_rung_23 : decode cX12_rung 23 = .ok (.iaload, 1) := by decide +kernel
theorem dX12_rung_24 : decode cX12_rung 24 = .ok (.iconst 1, 1) := by decide +kernel
theorem dX12_rung_25 : decode cX12_rung 25 = .ok (.isub, 1) := by decide +kernel
theorem dX12_rung_26 : decode cX12_rung 26 = .ok (.invokestatic 80, 3) := by decide +kernel
theorem dX12_rung_29 : decode cX12_rung 29 = .ok (.ifCond .eq 16, 3) := by decide +kernel
theorem dX12_rung_32 : decode cX12_rung 32 = .ok (.aload_n 0, 1) := by decide +kernel
theorem dX12_rung_33 : decode cX12_rung 33 = .ok (.getfield 7, 3) := by decide +kernel
theorem dX12_rung_36 : decode cX12_rung 36 = .ok (.sipush 164, 3) := by decide +kernel
theorem dX12_rung_39 : decode cX12_rung 39 = .ok (.iload_n 1, 1) := by decide +kernel
theorem dX12_rung_40 : decode cX12_rung 40 = .ok (.iadd, 1) := by decide +kernel
theorem dX12_rung_41 : decode cX12_rung 41 = .ok (.iaload, 1) := by decide +kernel
theorem dX12_rung_42 : decode cX12_rung 42 = .ok (.goto 5, 3) := by decide +kernel
theorem dX12_rung_45 : decode cX12_rung 45 = .ok (.bipush (-2), 2) := by decide +kernel
theorem dX12_rung_47 : decode cX12_rung 47 = .ok (.ireturn, 1) := by decide +kernel
theorem dX12_layHeard_0 : decode cX12_layHeard 0 = .ok (.iconst 0, 1) := by decide +kernel
theorem dX12_layHeard_1 : decode cX12_layHeard 1 = .ok (.istore_n 1, 1) := by decide +kernel
theorem dX12_layHeard_2 : decode cX12_layHeard 2 = .ok (.iconst 0, 1) := by decide +kernel
theorem dX12_layHeard_3 : decode cX12_layHeard 3 = .ok (.istore_n 2, 1) := by decide +kernel
theorem dX12_layHeard_4 : decode cX12_layHeard 4 = .ok (.iload_n 2, 1) := by decide +kernel
theorem dX12_layHeard_5 : decode cX12_layHeard 5 = .ok (.aload_n 0, 1) := by decide +kernel
theorem dX12_layHeard_6 : decode cX12_layHeard 6 = .ok (.getfield 7, 3) := by decide +kernel
theorem dX12_layHeard_9 : decode cX12_layHeard 9 = .ok (.bipush 14, 2) := by decide +kernel
theorem dX12_layHeard_11 : decode cX12_layHeard 11 = .ok (.iaload, 1) := by decide +kernel
theorem dX12_layHeard_12 : decode cX12_layHeard 12 = .ok (.if_icmp .ge 49, 3) := by decide +kernel
theorem dX12_layHeard_15 : decode cX12_layHeard 15 = .ok (.aload_n 0, 1) := by decide +kernel
theorem dX12_layHeard_16 : decode cX12_layHeard 16 = .ok (.getfield 7, 3) := by decide +kernel
theorem dX12_layHeard_19 : decode cX12_layHeard 19 = .ok (.sipush 164, 3) := by decide +kernel
theorem dX12_layHeard_22 : decode cX12_layHeard 22 = .ok (.iload_n 2, 1) := by decide +kernel
theorem dX12_layHeard_23 : decode cX12_layHeard 23 = .ok (.iadd, 1) := by decide +kernel
theorem dX12_layHeard_24 : decode cX12_layHeard 24 = .ok (.iaload, 1) := by decide +kernel
theorem dX12_layHeard_25 : decode cX12_layHeard 25 = .ok (.bipush 10, 2) := by decide +kernel
theorem dX12_layHeard_27 : decode cX12_layHeard 27 = .ok (.if_icmp .ge 6, 3) := by decide +kernel
theorem dX12_layHeard_30 : decode cX12_layHeard 30 = .ok (.goto 25, 3) := by decide +kernel
theorem dX12_layHeard_33 : decode cX12_layHeard 33 = .ok (.aload_n 0, 1) := by decide +kernel
theorem dX12_layHeard_34 : decode cX12_layHeard 34 = .ok (.getfield 46, 3) := by decide +kernel
theorem dX12_layHeard_37 : decode cX12_layHeard 37 = .ok (.iload_n 1, 1) := by decide +kernel
theorem dX12_layHeard_38 : decode cX12_layHeard 38 = .ok (.aload_n 0, 1) := by decide +kernel
theorem dX12_layHeard_39 : decode cX12_layHeard 39 = .ok (.getfield 7, 3) := by decide +kernel
theorem dX12_layHeard_42 : decode cX12_layHeard 42 = .ok (.sipush 164, 3) := by decide +kernel
theorem dX12_layHeard_45 : decode cX12_layHeard 45 = .ok (.iload_n 2, 1) := by decide +kernel
theorem dX12_layHeard_46 : decode cX12_layHeard 46 = .ok (.iadd, 1) := by decide +kernel
theorem dX12_layHeard_47 : decode cX12_layHeard 47 = .ok (.iaload, 1) := by decide +kernel
theorem dX12_layHeard_48 : decode cX12_layHeard 48 = .ok (.bipush 10, 2) := by decide +kernel
theorem dX12_layHeard_50 : decode cX12_layHeard 50 = .ok (.isub, 1) := by decide +kernel
theorem dX12_layHeard_51 : decode cX12_layHeard 51 = .ok (.iastore, 1) := by decide +kernel
theorem dX12_layHeard_52 : decode cX12_layHeard 52 = .ok (.iinc 1 1, 3) := by decide +kernel
theorem dX12_layHeard_55 : decode cX12_layHeard 55 = .ok (.iinc 2 1, 3) := by decide +kernel
theorem dX12_layHeard_58 : decode cX12_layHeard 58 = .ok (.goto (-54), 3) := by decide +kernel
theorem dX12_layHeard_61 : decode cX12_layHeard 61 = .ok (.iload_n 1, 1) := by decide +kernel
theorem dX12_layHeard_62 : decode cX12_layHeard 62 = .ok (.ireturn, 1) := by decide +kernel
theorem dX12_heard_0 : decode cX12_heard 0 = .ok (.aload_n 0, 1) := by decide +kernel
theorem dX12_heard_1 : decode cX12_heard 1 = .ok (.invokevirtual 353, 3) := by decide +kernel
theorem dX12_heard_4 : decode cX12_heard 4 = .ok (.istore_n 2, 1) := by decide +kernel
theorem dX12_heard_5 : decode cX12_heard 5 = .ok (.iload_n 1, 1) := by decide +kernel
theorem dX12_heard_6 : decode cX12_heard 6 = .ok (.iconst (-1), 1) := by decide +kernel
theorem dX12_heard_7 : decode cX12_heard 7 = .ok (.if_icmp .ne 7, 3) := by decide +kernel
theorem dX12_heard_10 : decode cX12_heard 10 = .ok (.iload_n 2, 1) := by decide +kernel
theorem dX12_heard_11 : decode cX12_heard 11 = .ok (.goto 25, 3) := by decide +kernel
theorem dX12_heard_14 : decode cX12_heard 14 = .ok (.iload_n 1, 1) := by decide +kernel
theorem dX12_heard_15 : decode cX12_heard 15 = .ok (.iconst 0, 1) := by decide +kernel
theorem dX12_heard_16 : decode cX12_heard 16 = .ok (.iload_n 2, 1) := by decide +kernel
theorem dX12_heard_17 : decode cX12_heard 17 = .ok (.iconst 1, 1) := by decide +kernel
theorem dX12_heard_18 : decode cX12_heard 18 = .ok (.isub, 1) := by decide +kernel
theorem dX12_heard_19 : decode cX12_heard 19 = .ok (.invokestatic 80, 3) := by decide +kernel
theorem dX12_heard_22 : decode cX12_heard 22 = .ok (.ifCond .eq 12, 3) := by decide +kernel
theorem dX12_heard_25 : decode cX12_heard 25 = .ok (.aload_n 0, 1) := by decide +kernel
theorem dX12_heard_26 : decode cX12_heard 26 = .ok (.getfield 46, 3) := by decide +kernel
theorem dX12_heard_29 : decode cX12_heard 29 = .ok (.iload_n 1, 1) := by decide +kernel
theorem dX12_heard_30 : decode cX12_heard 30 = .ok (.iaload, 1) := by decide +kernel
theorem dX12_heard_31 : decode cX12_heard 31 = .ok (.goto 5, 3) := by decide +kernel
theorem dX12_heard_34 : decode cX12_heard 34 = .ok (.bipush (-2), 2) := by decide +kernel
theorem dX12_heard_36 : decode cX12_heard 36 = .ok (.ireturn, 1) := by decide +kernel
theorem dX12_shown_0 : decode cX12_shown 0 = .ok (.aload_n 0, 1) := by decide +kernel
theorem dX12_shown_1 : decode cX12_shown 1 = .ok (.getfield 7, 3) := by decide +kernel
theorem dX12_shown_4 : decode cX12_shown 4 = .ok (.bipush 13, 2) := by decide +kernel
theorem dX12_shown_6 : decode cX12_shown 6 = .ok (.iaload, 1) := by decide +kernel
theorem dX12_shown_7 : decode cX12_shown 7 = .ok (.bipush 20, 2) := by decide +kernel
theorem dX12_shown_9 : decode cX12_shown 9 = .ok (.if_icmp .ge 13, 3) := by decide +kernel
theorem dX12_shown_12 : decode cX12_shown 12 = .ok (.aload_n 0, 1) := by decide +kernel
theorem dX12_shown_13 : decode cX12_shown 13 = .ok (.getfield 7, 3) := by decide +kernel
theorem dX12_shown_16 : decode cX12_shown 16 = .ok (.bipush 13, 2) := by decide +kernel
theorem dX12_shown_18 : decode cX12_shown 18 = .ok (.iaload, 1) := by decide +kernel
theorem dX12_shown_19 : decode cX12_shown 19 = .ok (.goto 5, 3) := by decide +kernel
theorem dX12_shown_22 : decode cX12_shown 22 = .ok (.bipush 20, 2) := by decide +kernel
theorem dX12_shown_24 : decode cX12_shown 24 = .ok (.ireturn, 1) := by decide +kernel
theorem dX12_book_0 : decode cX12_book 0 = .ok (.iload_n 1, 1) := by decide +kernel
theorem dX12_book_1 : decode cX12_book 1 = .ok (.iconst (-1), 1) := by decide +kernel
theorem dX12_book_2 : decode cX12_book 2 = .ok (.if_icmp .ne 8, 3) := by decide +kernel
theorem dX12_book_5 : decode cX12_book 5 = .ok (.aload_n 0, 1) := by decide +kernel
theorem dX12_book_6 : decode cX12_book 6 = .ok (.invokevirtual 388, 3) := by decide +kernel
theorem dX12_book_9 : decode cX12_book 9 = .ok (.ireturn, 1) := by decide +kernel
theorem dX12_book_10 : decode cX12_book 10 = .ok (.iload_n 1, 1) := by decide +kernel
theorem dX12_book_11 : decode cX12_book 11 = .ok (.iconst 0, 1) := by decide +kernel
theorem dX12_book_12 : decode cX12_book 12 = .ok (.aload_n 0, 1) := by decide +kernel
theorem dX12_book_13 : decode cX12_book 13 = .ok (.invokevirtual 388, 3) := by decide +kernel
theorem dX12_book_16 : decode cX12_book 16 = .ok (.iconst 1, 1) := by decide +kernel
theorem dX12_book_17 : decode cX12_book 17 = .ok (.isub, 1) := by decide +kernel
theorem dX12_book_18 : decode cX12_book 18 = .ok (.invokestatic 80, 3) := by decide +kernel
theorem dX12_book_21 : decode cX12_book 21 = .ok (.ifCond .eq 46, 3) := by decide +kernel
theorem dX12_book_24 : decode cX12_book 24 = .ok (.iload_n 2, 1) := by decide +kernel
theorem dX12_book_25 : decode cX12_book 25 = .ok (.iconst 0, 1) := by decide +kernel
theorem dX12_book_26 : decode cX12_book 26 = .ok (.iconst 3, 1) := by decide +kernel
theorem dX12_book_27 : decode cX12_book 27 = .ok (.invokestatic 80, 3) := by decide +kernel
theorem dX12_book_30 : decode cX12_book 30 = .ok (.ifCond .eq 37, 3) := by decide +kernel
theorem dX12_book_33 : decode cX12_book 33 = .ok (.aload_n 0, 1) := by decide +kernel
theorem dX12_book_34 : decode cX12_book 34 = .ok (.getfield 7, 3) := by decide +kernel
theorem dX12_book_37 : decode cX12_book 37 = .ok (.sipush 1088, 3) := by decide +kernel
theorem dX12_book_40 : decode cX12_book 40 = .ok (.iconst 4, 1) := by decide +kernel
theorem dX12_book_41 : decode cX12_book 41 = .ok (.aload_n 0, 1) := by decide +kernel
theorem dX12_book_42 : decode cX12_book 42 = .ok (.getfield 7, 3) := by decide +kernel
theorem dX12_book_45 : decode cX12_book 45 = .ok (.bipush 13, 2) := by decide +kernel
theorem dX12_book_47 : decode cX12_book 47 = .ok (.iaload, 1) := by decide +kernel
theorem dX12_book_48 : decode cX12_book 48 = .ok (.aload_n 0, 1) := by decide +kernel
theorem dX12_book_49 : decode cX12_book 49 = .ok (.invokevirtual 388, 3) := by decide +kernel
theorem dX12_book_52 : decode cX12_book 52 = .ok (.isub, 1) := by decide +kernel
theorem dX12_book_53 : decode cX12_book 53 = .ok (.iload_n 1, 1) := by decide +kernel
theorem dX12_book_54 : decode cX12_book 54 = .ok (.iadd, 1) := by decide +kernel
theorem dX12_book_55 : decode cX12_book 55 = .ok (.sipush 1220, 3) := by decide +kernel
theorem dX12_book_58 : decode cX12_book 58 = .ok (.irem, 1) := by decide +kernel
theorem dX12_book_59 : decode cX12_book 59 = .ok (.imul, 1) := by decide +kernel
theorem dX12_book_60 : decode cX12_book 60 = .ok (.iadd, 1) := by decide +kernel
theorem dX12_book_61 : decode cX12_book 61 = .ok (.iload_n 2, 1) := by decide +kernel
theorem dX12_book_62 : decode cX12_book 62 = .ok (.iadd, 1) := by decide +kernel
theorem dX12_book_63 : decode cX12_book 63 = .ok (.iaload, 1) := by decide +kernel
theorem dX12_book_64 : decode cX12_book 64 = .ok (.goto 5, 3) := by decide +kernel
theorem dX12_book_67 : decode cX12_book 67 = .ok (.bipush (-2), 2) := by decide +kernel
theorem dX12_book_69 : decode cX12_book 69 = .ok (.ireturn, 1) := by decide +kernel
theorem dX12_isHere_0 : decode cX12_isHere 0 = .ok (.iload_n 2, 1) := by decide +kernel
theorem dX12_isHere_1 : decode cX12_isHere 1 = .ok (.aload_n 0, 1) := by decide +kernel
theorem dX12_isHere_2 : decode cX12_isHere 2 = .ok (.iload_n 1, 1) := by decide +kernel
theorem dX12_isHere_3 : decode cX12_isHere 3 = .ok (.iconst 2, 1) := by decide +kernel
theorem dX12_isHere_4 : decode cX12_isHere 4 = .ok (.invokevirtual 84, 3) := by decide +kernel
theorem dX12_isHere_7 : decode cX12_isHere 7 = .ok (.iadd, 1) := by decide +kernel
theorem dX12_isHere_8 : decode cX12_isHere 8 = .ok (.iload_n 3, 1) := by decide +kernel
theorem dX12_isHere_9 : decode cX12_isHere 9 = .ok (.if_icmp .le 5, 3) := by decide +kernel
theorem dX12_isHere_12 : decode cX12_isHere 12 = .ok (.iconst 0, 1) := by decide +kernel
theorem dX12_isHere_13 : decode cX12_isHere 13 = .ok (.ireturn, 1) := by decide +kernel
theorem dX12_isHere_14 : decode cX12_isHere 14 = .ok (.iconst 0, 1) := by decide +kernel
theorem dX12_isHere_15 : decode cX12_isHere 15 = .ok (.istore 4, 2) := by decide +kernel
theorem dX12_isHere_17 : decode cX12_isHere 17 = .ok (.iload 4, 2) := by decide +kernel
theorem dX12_isHere_19 : decode cX12_isHere 19 = .ok (.aload_n 0, 1) := by decide +kernel
theorem dX12_isHere_20 : decode cX12_isHere 20 = .ok (.iload_n 1, 1) := by decide +kernel
theorem dX12_isHere_21 : decode cX12_isHere 21 = .ok (.iconst 2, 1) := by decide +kernel
theorem dX12_isHere_22 : decode cX12_isHere 22 = .ok (.invokevirtual 84, 3) := by decide +kernel
theorem dX12_isHere_25 : decode cX12_isHere 25 = .ok (.if_icmp .ge 30, 3) := by decide +kernel
theorem dX12_isHere_28 : decode cX12_isHere 28 = .ok (.aload_n 0, 1) := by decide +kernel
theorem dX12_isHere_29 : decode cX12_isHere 29 = .ok (.getfield 46, 3) := by decide +kernel
theorem dX12_isHere_32 : decode cX12_isHere 32 = .ok (.iload_n 2, 1) := by decide +kernel
theorem dX12_isHere_33 : decode cX12_isHere 33 = .ok (.iload 4, 2) := by decide +kernel
theorem dX12_isHere_35 : decode cX12_isHere 35 = .ok (.iadd, 1) := by decide +kernel
theorem dX12_isHere_36 : decode cX12_isHere 36 = .ok (.iaload, 1) := by decide +kernel
theorem dX12_isHere_37 : decode cX12_isHere 37 = .ok (.aload_n 0, 1) := by decide +kernel
theorem dX12_isHere_38 : decode cX12_isHere 38 = .ok (.iload_n 1, 1) := by decide +kernel
theorem dX12_isHere_39 : decode cX12_isHere 39 = .ok (.iload 4, 2) := by decide +kernel
theorem dX12_isHere_41 : decode cX12_isHere 41 = .ok (.invokevirtual 320, 3) := by decide +kernel
theorem dX12_isHere_44 : decode cX12_isHere 44 = .ok (.if_icmp .eq 5, 3) := by decide +kernel
theorem dX12_isHere_47 : decode cX12_isHere 47 = .ok (.iconst 0, 1) := by decide +kernel
theorem dX12_isHere_48 : decode cX12_isHere 48 = .ok (.ireturn, 1) := by decide +kernel
theorem dX12_isHere_49 : decode cX12_isHere 49 = .ok (.iinc 4 1, 3) := by decide +kernel
theorem dX12_isHere_52 : decode cX12_isHere 52 = .ok (.goto (-35), 3) := by decide +kernel
theorem dX12_isHere_55 : decode cX12_isHere 55 = .ok (.iconst 1, 1) := by decide +kernel
theorem dX12_isHere_56 : decode cX12_isHere 56 = .ok (.ireturn, 1) := by decide +kernel
theorem dX12_laySense_0 : decode cX12_laySense 0 = .ok (.iconst 0, 1) := by decide +kernel
theorem dX12_laySense_1 : decode cX12_laySense 1 = .ok (.istore_n 3, 1) := by decide +kernel
theorem dX12_laySense_2 : decode cX12_laySense 2 = .ok (.iload_n 3, 1) := by decide +kernel
theorem dX12_laySense_3 : decode cX12_laySense 3 = .ok (.aload_n 0, 1) := by decide +kernel
theorem dX12_laySense_4 : decode cX12_laySense 4 = .ok (.getfield 7, 3) := by decide +kernel
theorem dX12_laySense_7 : decode cX12_laySense 7 = .ok (.iconst 1, 1) := by decide +kernel
theorem dX12_laySense_8 : decode cX12_laySense 8 = .ok (.iaload, 1) := by decide +kernel
theorem dX12_laySense_9 : decode cX12_laySense 9 = .ok (.if_icmp .ge 113, 3) := by decide +kernel
theorem dX12_laySense_12 : decode cX12_laySense 12 = .ok (.aload_n 0, 1) := by decide +kernel
theorem dX12_laySense_13 : decode cX12_laySense 13 = .ok (.getfield 55, 3) := by decide +kernel
theorem dX12_laySense_16 : decode cX12_laySense 16 = .ok (.iload_n 3, 1) := by decide +kernel
theorem dX12_laySense_17 : decode cX12_laySense 17 = .ok (.iload_n 1, 1) := by decide +kernel
theorem dX12_laySense_18 : decode cX12_laySense 18 = .ok (.ifCond .eq 11, 3) := by decide +kernel
theorem dX12_laySense_21 : decode cX12_laySense 21 = .ok (.aload_n 0, 1) := by decide +kernel
theorem dX12_laySense_22 : decode cX12_laySense 22 = .ok (.iload_n 3, 1) := by decide +kernel
theorem dX12_laySense_23 : decode cX12_laySense 23 = .ok (.invokevirtual 391, 3) := by decide +kernel
theorem dX12_laySense_26 : decode cX12_laySense 26 = .ok (.ifCond .eq 7, 3) := by decide +kernel
theorem dX12_laySense_29 : decode cX12_laySense 29 = .ok (.iconst 1, 1) := by decide +kernel
theorem dX12_laySense_30 : decode cX12_laySense 30 = .ok (.goto 4, 3) := by decide +kernel
theorem dX12_laySense_33 : decode cX12_laySense 33 = .ok (.iconst 0, 1) := by decide +kernel
theorem dX12_laySense_34 : decode cX12_laySense 34 = .ok (.bastore, 1) := by decide +kernel
theorem dX12_laySense_35 : decode cX12_laySense 35 = .ok (.iconst 0, 1) := by decide +kernel
theorem dX12_laySense_36 : decode cX12_laySense 36 = .ok (.istore 4, 2) := by decide +kernel
theorem dX12_laySense_38 : decode cX12_laySense 38 = .ok (.iload 4, 2) := by decide +kernel
theorem dX12_laySense_40 : decode cX12_laySense 40 = .ok (.aload_n 0, 1) := by decide +kernel
theorem dX12_laySense_41 : decode cX12_laySense 41 = .ok (.getfield 7, 3) := by decide +kernel
theorem dX12_laySense_44 : decode cX12_laySense 44 = .ok (.iconst 1, 1) := by decide +kernel
theorem dX12_laySense_45 : decode cX12_laySense 45 = .ok (.iaload, 1) := by decide +kernel
theorem dX12_laySense_46 : decode cX12_laySense 46 = .ok (.if_icmp .ge 70, 3) := by decide +kernel
theorem dX12_laySense_49 : decode cX12_laySense 49 = .ok (.iconst 1, 1) := by decide +kernel
theorem dX12_laySense_50 : decode cX12_laySense 50 = .ok (.istore 5, 2) := by decide +kernel
theorem dX12_laySense_52 : decode cX12_laySense 52 = .ok (.iload 5, 2) := by decide +kernel
theorem dX12_laySense_54 : decode cX12_laySense 54 = .ok (.iload_n 2, 1) := by decide +kernel
theorem dX12_laySense_55 : decode cX12_laySense 55 = .ok (.if_icmp .gt 55, 3) := by decide +kernel
theorem dX12_laySense_58 : decode cX12_laySense 58 = .ok (.aload_n 0, 1) := by decide +kernel
theorem dX12_laySense_59 : decode cX12_laySense 59 = .ok (.getfield 52, 3) := by decide +kernel
theorem dX12_laySense_62 : decode cX12_laySense 62 = .ok (.sipush 250, 3) := by decide +kernel
theorem dX12_laySense_65 : decode cX12_laySense 65 = .ok (.iload_n 3, 1) := by decide +kernel
theorem dX12_laySense_66 : decode cX12_laySense 66 = .ok (.imul, 1) := by decide +kernel
theorem dX12_laySense_67 : decode cX12_laySense 67 = .ok (.bipush 25, 2) := by decide +kernel
theorem dX12_laySense_69 : decode cX12_laySense 69 = .ok (.iload 4, 2) := by decide +kernel
theorem dX12_laySense_71 : decode cX12_laySense 71 = .ok (.imul, 1) := by decide +kernel
theorem dX12_laySense_72 : decode cX12_laySense 72 = .ok (.iadd, 1) := by decide +kernel
theorem dX12_laySense_73 : decode cX12_laySense 73 = .ok (.iload 5, 2) := by decide +kernel
theorem dX12_laySense_75 : decode cX12_laySense 75 = .ok (.iadd, 1) := by decide +kernel
theorem dX12_laySense_76 : decode cX12_laySense 76 = .ok (.iload_n 1, 1) := by decide +kernel
theorem dX12_laySense_77 : decode cX12_laySense 77 = .ok (.ifCond .eq 21, 3) := by decide +kernel
theorem dX12_laySense_80 : decode cX12_laySense 80 = .ok (.aload_n 0, 1) := by decide +kernel
theorem dX12_laySense_81 : decode cX12_laySense 81 = .ok (.aload_n 0, 1) := by decide +kernel
theorem dX12_laySense_82 : decode cX12_laySense 82 = .ok (.getfield 7, 3) := by decide +kernel
theorem dX12_laySense_85 : decode cX12_laySense 85 = .ok (.iconst 3, 1) := by decide +kernel
theorem dX12_laySense_86 : decode cX12_laySense 86 = .ok (.iaload, 1) := by decide +kernel
theorem dX12_laySense_87 : decode cX12_laySense 87 = .ok (.iload_n 3, 1) := by decide +kernel
theorem dX12_laySense_88 : decode cX12_laySense 88 = .ok (.iload 4, 2) := by decide +kernel
theorem dX12_laySense_90 : decode cX12_laySense 90 = .ok (.iload 5, 2) := by decide +kernel
theorem dX12_laySense_92 : decode cX12_laySense 92 = .ok (.invokevirtual 394, 3) := by decide +kernel
theorem dX12_laySense_95 : decode cX12_laySense 95 = .ok (.ifCond .eq 7, 3) := by decide +kernel
theorem dX12_laySense_98 : decode cX12_laySense 98 = .ok (.iconst 1, 1) := by decide +kernel
theorem dX12_laySense_99 : decode cX12_laySense 99 = .ok (.goto 4, 3) := by decide +kernel
theorem dX12_laySense_102 : decode cX12_laySense 102 = .ok (.iconst 0, 1) := by decide +kernel
theorem dX12_laySense_103 : decode cX12_laySense 103 = .ok (.bastore, 1) := by decide +kernel
theorem dX12_laySense_104 : decode cX12_laySense 104 = .ok (.iinc 5 1, 3) := by decide +kernel
theorem dX12_laySense_107 : decode cX12_laySense 107 = .ok (.goto (-55), 3) := by decide +kernel
theorem dX12_laySense_110 : decode cX12_laySense 110 = .ok (.iinc 4 1, 3) := by decide +kernel
theorem dX12_laySense_113 : decode cX12_laySense 113 = .ok (.goto (-75), 3) := by decide +kernel
theorem dX12_laySense_116 : decode cX12_laySense 116 = .ok (.iinc 3 1, 3) := by decide +kernel
theorem dX12_laySense_119 : decode cX12_laySense 119 = .ok (.goto (-117), 3) := by decide +kernel
theorem dX12_laySense_122 : decode cX12_laySense 122 = .ok (.return_, 1) := by decide +kernel
theorem dX12_isSense_0 : decode cX12_isSense 0 = .ok (.iload_n 1, 1) := by decide +kernel
theorem dX12_isSense_1 : decode cX12_isSense 1 = .ok (.bipush 10, 2) := by decide +kernel
theorem dX12_isSense_3 : decode cX12_isSense 3 = .ok (.if_icmp .ne 12, 3) := by decide +kernel
theorem dX12_isSense_6 : decode cX12_isSense 6 = .ok (.aload_n 0, 1) := by decide +kernel
theorem dX12_isSense_7 : decode cX12_isSense 7 = .ok (.getfield 55, 3) := by decide +kernel
theorem dX12_isSense_10 : decode cX12_isSense 10 = .ok (.iload_n 2, 1) := by decide +kernel
theorem dX12_isSense_11 : decode cX12_isSense 11 = .ok (.baload, 1) := by decide +kernel
theorem dX12_isSense_12 : decode cX12_isSense 12 = .ok (.goto 20, 3) := by decide +kernel
theorem dX12_isSense_15 : decode cX12_isSense 15 = .ok (.aload_n 0, 1) := by decide +kernel
theorem dX12_isSense_16 : decode cX12_isSense 16 = .ok (.getfield 52, 3) := by decide +kernel
theorem dX12_isSense_19 : decode cX12_isSense 19 = .ok (.sipush 250, 3) := by decide +kernel
theorem dX12_isSense_22 : decode cX12_isSense 22 = .ok (.iload_n 1, 1) := by decide +kernel
theorem dX12_isSense_23 : decode cX12_isSense 23 = .ok (.imul, 1) := by decide +kernel
theorem dX12_isSense_24 : decode cX12_isSense 24 = .ok (.bipush 25, 2) := by decide +kernel
theorem dX12_isSense_26 : decode cX12_isSense 26 = .ok (.iload_n 2, 1) := by decide +kernel
theorem dX12_isSense_27 : decode cX12_isSense 27 = .ok (.imul, 1) := by decide +kernel
theorem dX12_isSense_28 : decode cX12_isSense 28 = .ok (.iadd, 1) := by decide +kernel
theorem dX12_isSense_29 : decode cX12_isSense 29 = .ok (.iload_n 3, 1) := by decide +kernel
theorem dX12_isSense_30 : decode cX12_isSense 30 = .ok (.iadd, 1) := by decide +kernel
theorem dX12_isSense_31 : decode cX12_isSense 31 = .ok (.baload, 1) := by decide +kernel
theorem dX12_isSense_32 : decode cX12_isSense 32 = .ok (.ireturn, 1) := by decide +kernel
theorem dX12_wayAt_0 : decode cX12_wayAt 0 = .ok (.sipush 275, 3) := by decide +kernel
theorem dX12_wayAt_3 : decode cX12_wayAt 3 = .ok (.iload_n 0, 1) := by decide +kernel
theorem dX12_wayAt_4 : decode cX12_wayAt 4 = .ok (.imul, 1) := by decide +kernel
theorem dX12_wayAt_5 : decode cX12_wayAt 5 = .ok (.bipush 25, 2) := by decide +kernel
theorem dX12_wayAt_7 : decode cX12_wayAt 7 = .ok (.iload_n 1, 1) := by decide +kernel
theorem dX12_wayAt_8 : decode cX12_wayAt 8 = .ok (.imul, 1) := by decide +kernel
theorem dX12_wayAt_9 : decode cX12_wayAt 9 = .ok (.iadd, 1) := by decide +kernel
theorem dX12_wayAt_10 : decode cX12_wayAt 10 = .ok (.iload_n 2, 1) := by decide +kernel
theorem dX12_wayAt_11 : decode cX12_wayAt 11 = .ok (.iadd, 1) := by decide +kernel
theorem dX12_wayAt_12 : decode cX12_wayAt 12 = .ok (.ireturn, 1) := by decide +kernel
theorem dX12_waysFrom_0 : decode cX12_waysFrom 0 = .ok (.iload_n 1, 1) := by decide +kernel
theorem dX12_waysFrom_1 : decode cX12_waysFrom 1 = .ok (.iload 4, 2) := by decide +kernel
theorem dX12_waysFrom_3 : decode cX12_waysFrom 3 = .ok (.if_icmp .ne 5, 3) := by decide +kernel
theorem dX12_waysFrom_6 : decode cX12_waysFrom 6 = .ok (.iconst 1, 1) := by decide +kernel
theorem dX12_waysFrom_7 : decode cX12_waysFrom 7 = .ok (.ireturn, 1) := by decide +kernel
theorem dX12_waysFrom_8 : decode cX12_waysFrom 8 = .ok (.iconst 0, 1) := by decide +kernel
theorem dX12_waysFrom_9 : decode cX12_waysFrom 9 = .ok (.istore 5, 2) := by decide +kernel
theorem dX12_waysFrom_11 : decode cX12_waysFrom 11 = .ok (.iconst 0, 1) := by decide +kernel
theorem dX12_waysFrom_12 : decode cX12_waysFrom 12 = .ok (.istore 6, 2) := by decide +kernel
theorem dX12_waysFrom_14 : decode cX12_waysFrom 14 = .ok (.iload 6, 2) := by decide +kernel
theorem dX12_waysFrom_16 : decode cX12_waysFrom 16 = .ok (.aload_n 0, 1) := by decide +kernel
theorem dX12_waysFrom_17 : decode cX12_waysFrom 17 = .ok (.getfield 7, 3) := by decide +kernel
theorem dX12_waysFrom_20 : decode cX12_waysFrom 20 = .ok (.iconst 1, 1) := by decide +kernel
theorem dX12_waysFrom_21 : decode cX12_waysFrom 21 = .ok (.iaload, 1) := by decide +kernel
theorem dX12_waysFrom_22 : decode cX12_waysFrom 22 = .ok (.if_icmp .ge 80, 3) := by decide +kernel
theorem dX12_waysFrom_25 : decode cX12_waysFrom 25 = .ok (.aload_n 0, 1) := by decide +kernel
theorem dX12_waysFrom_26 : decode cX12_waysFrom 26 = .ok (.iload 6, 2) := by decide +kernel
theorem dX12_waysFrom_28 : decode cX12_waysFrom 28 = .ok (.iload_n 1, 1) := by decide +kernel
theorem dX12_waysFrom_29 : decode cX12_waysFrom 29 = .ok (.iload 4, 2) := by decide +kernel
theorem dX12_waysFrom_31 : decode cX12_waysFrom 31 = .ok (.invokevirtual 398, 3) := by decide +kernel
theorem dX12_waysFrom_34 : decode cX12_waysFrom 34 = .ok (.ifCond .eq 62, 3) := by decide +kernel
theorem dX12_waysFrom_37 : decode cX12_waysFrom 37 = .ok (.aload_n 0, 1) := by decide +kernel
theorem dX12_waysFrom_38 : decode cX12_waysFrom 38 = .ok (.iload_n 2, 1) := by decide +kernel
theorem dX12_waysFrom_39 : decode cX12_waysFrom 39 = .ok (.iload 6, 2) := by decide +kernel
theorem dX12_waysFrom_41 : decode cX12_waysFrom 41 = .ok (.iload_n 3, 1) := by decide +kernel
theorem dX12_waysFrom_42 : decode cX12_waysFrom 42 = .ok (.invokevirtual 401, 3) := by decide +kernel
theorem dX12_waysFrom_45 : decode cX12_waysFrom 45 = .ok (.ifCond .ne 6, 3) := by decide +kernel
theorem dX12_waysFrom_48 : decode cX12_waysFrom 48 = .ok (.goto 48, 3) := by decide +kernel
theorem dX12_waysFrom_51 : decode cX12_waysFrom 51 = .ok (.iload 5, 2) := by decide +kernel
theorem dX12_waysFrom_53 : decode cX12_waysFrom 53 = .ok (.aload_n 0, 1) := by decide +kernel
theorem dX12_waysFrom_54 : decode cX12_waysFrom 54 = .ok (.getfield 49, 3) := by decide +kernel
theorem dX12_waysFrom_57 : decode cX12_waysFrom 57 = .ok (.iload_n 1, 1) := by decide +kernel
theorem dX12_waysFrom_58 : decode cX12_waysFrom 58 = .ok (.aload_n 0, 1) := by decide +kernel
theorem dX12_waysFrom_59 : decode cX12_waysFrom 59 = .ok (.iload 6, 2) := by decide +kernel
theorem dX12_waysFrom_61 : decode cX12_waysFrom 61 = .ok (.iconst 2, 1) := by decide +kernel
theorem dX12_waysFrom_62 : decode cX12_waysFrom 62 = .ok (.invokevirtual 84, 3) := by decide +kernel
theorem dX12_waysFrom_65 : decode cX12_waysFrom 65 = .ok (.iadd, 1) := by decide +kernel
theorem dX12_waysFrom_66 : decode cX12_waysFrom 66 = .ok (.iload 6, 2) := by decide +kernel
theorem dX12_waysFrom_68 : decode cX12_waysFrom 68 = .ok (.iload_n 3, 1) := by decide +kernel
theorem dX12_waysFrom_69 : decode cX12_waysFrom 69 = .ok (.iconst 1, 1) := by decide +kernel
theorem dX12_waysFrom_70 : decode cX12_waysFrom 70 = .ok (.iadd, 1) := by decide +kernel
theorem dX12_waysFrom_71 : decode cX12_waysFrom 71 = .ok (.invokestatic 404, 3) := by decide +kernel
theorem dX12_waysFrom_74 : decode cX12_waysFrom 74 = .ok (.iaload, 1) := by decide +kernel
theorem dX12_waysFrom_75 : decode cX12_waysFrom 75 = .ok (.iadd, 1) := by decide +kernel
theorem dX12_waysFrom_76 : decode cX12_waysFrom 76 = .ok (.istore 5, 2) := by decide +kernel
theorem dX12_waysFrom_78 : decode cX12_waysFrom 78 = .ok (.iload 5, 2) := by decide +kernel
theorem dX12_waysFrom_80 : decode cX12_waysFrom 80 = .ok (.ldc_w 407, 3) := by decide +kernel
theorem dX12_waysFrom_83 : decode cX12_waysFrom 83 = .ok (.if_icmp .le 9, 3) := by decide +kernel
theorem dX12_waysFrom_86 : decode cX12_waysFrom 86 = .ok (.ldc_w 407, 3) := by decide +kernel
theorem dX12_waysFrom_89 : decode cX12_waysFrom 89 = .ok (.goto 5, 3) := by decide +kernel
theorem dX12_waysFrom_92 : decode cX12_waysFrom 92 = .ok (.iload 5, 2) := by decide +kernel
theorem dX12_waysFrom_94 : decode cX12_waysFrom 94 = .ok (.istore 5, 2) := by decide +kernel
theorem dX12_waysFrom_96 : decode cX12_waysFrom 96 = .ok (.iinc 6 1, 3) := by decide +kernel
theorem dX12_waysFrom_99 : decode cX12_waysFrom 99 = .ok (.goto (-85), 3) := by decide +kernel
theorem dX12_waysFrom_102 : decode cX12_waysFrom 102 = .ok (.iload 5, 2) := by decide +kernel
theorem dX12_waysFrom_104 : decode cX12_waysFrom 104 = .ok (.ireturn, 1) := by decide +kernel
theorem dX12_layWays_0 : decode cX12_layWays 0 = .ok (.aload_n 0, 1) := by decide +kernel
theorem dX12_layWays_1 : decode cX12_layWays 1 = .ok (.invokevirtual 353, 3) := by decide +kernel
theorem dX12_layWays_4 : decode cX12_layWays 4 = .ok (.istore_n 2, 1) := by decide +kernel
theorem dX12_layWays_5 : decode cX12_layWays 5 = .ok (.aload_n 0, 1) := by decide +kernel
theorem dX12_layWays_6 : decode cX12_layWays 6 = .ok (.iload_n 1, 1) := by decide +kernel
theorem dX12_layWays_7 : decode cX12_layWays 7 = .ok (.iload_n 2, 1) := by decide +kernel
theorem dX12_layWays_8 : decode cX12_layWays 8 = .ok (.invokevirtual 408, 3) := by decide +kernel
theorem dX12_layWays_11 : decode cX12_layWays 11 = .ok (.iload_n 2, 1) := by decide +kernel
theorem dX12_layWays_12 : decode cX12_layWays 12 = .ok (.istore_n 3, 1) := by decide +kernel
theorem dX12_layWays_13 : decode cX12_layWays 13 = .ok (.iload_n 3, 1) := by decide +kernel
theorem dX12_layWays_14 : decode cX12_layWays 14 = .ok (.ifCond .lt 109, 3) := by decide +kernel
theorem dX12_layWays_17 : decode cX12_layWays 17 = .ok (.iconst 0, 1) := by decide +kernel
theorem dX12_layWays_18 : decode cX12_layWays 18 = .ok (.istore 4, 2) := by decide +kernel
theorem dX12_layWays_20 : decode cX12_layWays 20 = .ok (.iload 4, 2) := by decide +kernel
theorem dX12_layWays_22 : decode cX12_layWays 22 = .ok (.iload_n 3, 1) := by decide +kernel
theorem dX12_layWays_23 : decode cX12_layWays 23 = .ok (.if_icmp .gt 94, 3) := by decide +kernel
theorem dX12_layWays_26 : decode cX12_layWays 26 = .ok (.iconst 0, 1) := by decide +kernel
theorem dX12_layWays_27 : decode cX12_layWays 27 = .ok (.istore 5, 2) := by decide +kernel
theorem dX12_layWays_29 : decode cX12_layWays 29 = .ok (.iload 5, 2) := by decide +kernel
theorem dX12_layWays_31 : decode cX12_layWays 31 = .ok (.bipush 11, 2) := by decide +kernel
theorem dX12_layWays_33 : decode cX12_layWays 33 = .ok (.if_icmp .ge 78, 3) := by decide +kernel
theorem dX12_layWays_36 : decode cX12_layWays 36 = .ok (.iload 5, 2) := by decide +kernel
theorem dX12_layWays_38 : decode cX12_layWays 38 = .ok (.bipush 10, 2) := by decide +kernel
theorem dX12_layWays_40 : decode cX12_layWays 40 = .ok (.if_icmp .ge 14, 3) := by decide +kernel
theorem dX12_layWays_43 : decode cX12_layWays 43 = .ok (.iload 5, 2) := by decide +kernel
theorem dX12_layWays_45 : decode cX12_layWays 45 = .ok (.aload_n 0, 1) := by decide +kernel
theorem dX12_layWays_46 : decode cX12_layWays 46 = .ok (.getfield 7, 3) := by decide +kernel
theorem dX12_layWays_49 : decode cX12_layWays 49 = .ok (.iconst 1, 1) := by decide +kernel
theorem dX12_layWays_50 : decode cX12_layWays 50 = .ok (.iaload, 1) := by decide +kernel
theorem dX12_layWays_51 : decode cX12_layWays 51 = .ok (.if_icmp .ge 54, 3) := by decide +kernel
theorem dX12_layWays_54 : decode cX12_layWays 54 = .ok (.iload 4, 2) := by decide +kernel
theorem dX12_layWays_56 : decode cX12_layWays 56 = .ok (.ifCond .ne 7, 3) := by decide +kernel
theorem dX12_layWays_59 : decode cX12_layWays 59 = .ok (.iconst 1, 1) := by decide +kernel
theorem dX12_layWays_60 : decode cX12_layWays 60 = .ok (.goto 4, 3) := by decide +kernel
theorem dX12_layWays_63 : decode cX12_layWays 63 = .ok (.iconst 0, 1) := by decide +kernel
theorem dX12_layWays_64 : decode cX12_layWays 64 = .ok (.iload 5, 2) := by decide +kernel
theorem dX12_layWays_66 : decode cX12_layWays 66 = .ok (.bipush 10, 2) := by decide +kernel
theorem dX12_layWays_68 : decode cX12_layWays 68 = .ok (.if_icmp .ne 7, 3) := by decide +kernel
theorem dX12_layWays_71 : decode cX12_layWays 71 = .ok (.iconst 1, 1) := by decide +kernel
theorem dX12_layWays_72 : decode cX12_layWays 72 = .ok (.goto 4, 3) := by decide +kernel
theorem dX12_layWays_75 : decode cX12_layWays 75 = .ok (.iconst 0, 1) := by decide +kernel
theorem dX12_layWays_76 : decode cX12_layWays 76 = .ok (.if_icmp .eq 6, 3) := by decide +kernel
theorem dX12_layWays_79 : decode cX12_layWays 79 = .ok (.goto 26, 3) := by decide +kernel
theorem dX12_layWays_82 : decode cX12_layWays 82 = .ok (.aload_n 0, 1) := by decide +kernel
theorem dX12_layWays_83 : decode cX12_layWays 83 = .ok (.getfield 49, 3) := by decide +kernel
theorem dX12_layWays_86 : decode cX12_layWays 86 = .ok (.iload_n 3, 1) := by decide +kernel
theorem dX12_layWays_87 : decode cX12_layWays 87 = .ok (.iload 5, 2) := by decide +kernel
theorem dX12_layWays_89 : decode cX12_layWays 89 = .ok (.iload 4, 2) := by decide +kernel
theorem dX12_layWays_91 : decode cX12_layWays 91 = .ok (.invokestatic 404, 3) := by decide +kernel
theorem dX12_layWays_94 : decode cX12_layWays 94 = .ok (.aload_n 0, 1) := by decide +kernel
theorem dX12_layWays_95 : decode cX12_layWays 95 = .ok (.iload_n 3, 1) := by decide +kernel
theorem dX12_layWays_96 : decode cX12_layWays 96 = .ok (.iload 5, 2) := by decide +kernel
theorem dX12_layWays_98 : decode cX12_layWays 98 = .ok (.iload 4, 2) := by decide +kernel
theorem dX12_layWays_100 : decode cX12_layWays 100 = .ok (.iload_n 2, 1) := by decide +kernel
theorem dX12_layWays_101 : decode cX12_layWays 101 = .ok (.invokevirtual 412, 3) := by decide +kernel
theorem dX12_layWays_104 : decode cX12_layWays 104 = .ok (.iastore, 1) := by decide +kernel
theorem dX12_layWays_105 : decode cX12_layWays 105 = .ok (.iinc 5 1, 3) := by decide +kernel
theorem dX12_layWays_108 : decode cX12_layWays 108 = .ok (.goto (-79), 3) := by decide +kernel
theorem dX12_layWays_111 : decode cX12_layWays 111 = .ok (.iinc 4 1, 3) := by decide +kernel
theorem dX12_layWays_114 : decode cX12_layWays 114 = .ok (.goto (-94), 3) := by decide +kernel
theorem dX12_layWays_117 : decode cX12_layWays 117 = .ok (.iinc 3 (-1), 3) := by decide +kernel
theorem dX12_layWays_120 : decode cX12_layWays 120 = .ok (.goto (-107), 3) := by decide +kernel
theorem dX12_layWays_123 : decode cX12_layWays 123 = .ok (.iload_n 2, 1) := by decide +kernel
theorem dX12_layWays_124 : decode cX12_layWays 124 = .ok (.ireturn, 1) := by decide +kernel
theorem dX12_readings_0 : decode cX12_readings 0 = .ok (.aload_n 0, 1) := by decide +kernel
theorem dX12_readings_1 : decode cX12_readings 1 = .ok (.iload_n 1, 1) := by decide +kernel
theorem dX12_readings_2 : decode cX12_readings 2 = .ok (.invokevirtual 416, 3) := by decide +kernel
theorem dX12_readings_5 : decode cX12_readings 5 = .ok (.pop, 1) := by decide +kernel
theorem dX12_readings_6 : decode cX12_readings 6 = .ok (.aload_n 0, 1) := by decide +kernel
theorem dX12_readings_7 : decode cX12_readings 7 = .ok (.getfield 49, 3) := by decide +kernel
theorem dX12_readings_10 : decode cX12_readings 10 = .ok (.iconst 0, 1) := by decide +kernel
theorem dX12_readings_11 : decode cX12_readings 11 = .ok (.bipush 10, 2) := by decide +kernel
theorem dX12_readings_13 : decode cX12_readings 13 = .ok (.iconst 0, 1) := by decide +kernel
theorem dX12_readings_14 : decode cX12_readings 14 = .ok (.invokestatic 404, 3) := by decide +kernel
theorem dX12_readings_17 : decode cX12_readings 17 = .ok (.iaload, 1) := by decide +kernel
theorem dX12_readings_18 : decode cX12_readings 18 = .ok (.ireturn, 1) := by decide +kernel
theorem dX12_reading_0 : decode cX12_reading 0 = .ok (.aload_n 0, 1) := by decide +kernel
theorem dX12_reading_1 : decode cX12_reading 1 = .ok (.iload_n 1, 1) := by decide +kernel
theorem dX12_reading_2 : decode cX12_reading 2 = .ok (.invokevirtual 416, 3) := by decide +kernel
theorem dX12_reading_5 : decode cX12_reading 5 = .ok (.istore_n 3, 1) := by decide +kernel
theorem dX12_reading_6 : decode cX12_reading 6 = .ok (.iload_n 2, 1) := by decide +kernel
theorem dX12_reading_7 : decode cX12_reading 7 = .ok (.iconst (-1), 1) := by decide +kernel
theorem dX12_reading_8 : decode cX12_reading 8 = .ok (.if_icmp .lt 18, 3) := by decide +kernel
theorem dX12_reading_11 : decode cX12_reading 11 = .ok (.aload_n 0, 1) := by decide +kernel
theorem dX12_reading_12 : decode cX12_reading 12 = .ok (.getfield 49, 3) := by decide +kernel
theorem dX12_reading_15 : decode cX12_reading 15 = .ok (.iconst 0, 1) := by decide +kernel
theorem dX12_reading_16 : decode cX12_reading 16 = .ok (.bipush 10, 2) := by decide +kernel
theorem dX12_reading_18 : decode cX12_reading 18 = .ok (.iconst 0, 1) := by decide +kernel
theorem dX12_reading_19 : decode cX12_reading 19 = .ok (.invokestatic 404, 3) := by decide +kernel
theorem dX12_reading_22 : decode cX12_reading 22 = .ok (.iaload, 1) := by decide +kernel
theorem dX12_reading_23 : decode cX12_reading 23 = .ok (.ifCond .ne 6, 3) := by decide +kernel
theorem dX12_reading_26 : decode cX12_reading 26 = .ok (.bipush (-2), 2) := by decide +kernel
theorem dX12_reading_28 : decode cX12_reading 28 = .ok (.ireturn, 1) := by decide +kernel
theorem dX12_reading_29 : decode cX12_reading 29 = .ok (.iconst 0, 1) := by decide +kernel
theorem dX12_reading_30 : decode cX12_reading 30 = .ok (.istore 4, 2) := by decide +kernel
theorem dX12_reading_32 : decode cX12_reading 32 = .ok (.bipush 10, 2) := by decide +kernel
theorem dX12_reading_34 : decode cX12_reading 34 = .ok (.istore 5, 2) := by decide +kernel
theorem dX12_reading_36 : decode cX12_reading 36 = .ok (.iconst 0, 1) := by decide +kernel
theorem dX12_reading_37 : decode cX12_reading 37 = .ok (.istore 6, 2) := by decide +kernel
theorem dX12_reading_39 : decode cX12_reading 39 = .ok (.iload 4, 2) := by decide +kernel
theorem dX12_reading_41 : decode cX12_reading 41 = .ok (.iload_n 3, 1) := by decide +kernel
theorem dX12_reading_42 : decode cX12_reading 42 = .ok (.if_icmp .ge 95, 3) := by decide +kernel
theorem dX12_reading_45 : decode cX12_reading 45 = .ok (.iconst 0, 1) := by decide +kernel
theorem dX12_reading_46 : decode cX12_reading 46 = .ok (.istore 7, 2) := by decide +kernel
theorem dX12_reading_48 : decode cX12_reading 48 = .ok (.aload_n 0, 1) := by decide +kernel
theorem dX12_reading_49 : decode cX12_reading 49 = .ok (.iload 7, 2) := by decide +kernel
theorem dX12_reading_51 : decode cX12_reading 51 = .ok (.iload 4, 2) := by decide +kernel
theorem dX12_reading_53 : decode cX12_reading 53 = .ok (.iload_n 3, 1) := by decide +kernel
theorem dX12_reading_54 : decode cX12_reading 54 = .ok (.invokevirtual 398, 3) := by decide +kernel
theorem dX12_reading_57 : decode cX12_reading 57 = .ok (.ifCond .eq 43, 3) := by decide +kernel
theorem dX12_reading_60 : decode cX12_reading 60 = .ok (.aload_n 0, 1) := by decide +kernel
theorem dX12_reading_61 : decode cX12_reading 61 = .ok (.iload 5, 2) := by decide +kernel
theorem dX12_reading_63 : decode cX12_reading 63 = .ok (.iload 7, 2) := by decide +kernel
