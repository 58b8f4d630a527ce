theorem dX12_emit_33 : decode cX12_emit 33 = .ok (.iconst 2, 1) := by decide +kernel
theorem dX12_emit_34 : decode cX12_emit 34 = .ok (.aload_n 0, 1) := by decide +kernel
theorem dX12_emit_35 : decode cX12_emit 35 = .ok (.getfield 154, 3) := by decide +kernel
theorem dX12_emit_38 : decode cX12_emit 38 = .ok (.imul, 1) := by decide +kernel
theorem dX12_emit_39 : decode cX12_emit 39 = .ok (.iadd, 1) := by decide +kernel
theorem dX12_emit_40 : decode cX12_emit 40 = .ok (.iconst 1, 1) := by decide +kernel
theorem dX12_emit_41 : decode cX12_emit 41 = .ok (.iadd, 1) := by decide +kernel
theorem dX12_emit_42 : decode cX12_emit 42 = .ok (.iload_n 2, 1) := by decide +kernel
theorem dX12_emit_43 : decode cX12_emit 43 = .ok (.iastore, 1) := by decide +kernel
theorem dX12_emit_44 : decode cX12_emit 44 = .ok (.aload_n 0, 1) := by decide +kernel
theorem dX12_emit_45 : decode cX12_emit 45 = .ok (.dup, 1) := by decide +kernel
theorem dX12_emit_46 : decode cX12_emit 46 = .ok (.getfield 154, 3) := by decide +kernel
theorem dX12_emit_49 : decode cX12_emit 49 = .ok (.iconst 1, 1) := by decide +kernel
theorem dX12_emit_50 : decode cX12_emit 50 = .ok (.iadd, 1) := by decide +kernel
theorem dX12_emit_51 : decode cX12_emit 51 = .ok (.putfield 154, 3) := by decide +kernel
theorem dX12_emit_54 : decode cX12_emit 54 = .ok (.return_, 1) := by decide +kernel
theorem dX12_isLong_0 : decode cX12_isLong 0 = .ok (.aload_n 0, 1) := by decide +kernel
theorem dX12_isLong_1 : decode cX12_isLong 1 = .ok (.getfield 113, 3) := by decide +kernel
theorem dX12_isLong_4 : decode cX12_isLong 4 = .ok (.iconst 2, 1) := by decide +kernel
theorem dX12_isLong_5 : decode cX12_isLong 5 = .ok (.if_icmp .ne 16, 3) := by decide +kernel
theorem dX12_isLong_8 : decode cX12_isLong 8 = .ok (.aload_n 0, 1) := by decide +kernel
theorem dX12_isLong_9 : decode cX12_isLong 9 = .ok (.getfield 103, 3) := by decide +kernel
theorem dX12_isLong_12 : decode cX12_isLong 12 = .ok (.aload_n 0, 1) := by decide +kernel
theorem dX12_isLong_13 : decode cX12_isLong 13 = .ok (.getfield 110, 3) := by decide +kernel
theorem dX12_isLong_16 : decode cX12_isLong 16 = .ok (.isub, 1) := by decide +kernel
theorem dX12_isLong_17 : decode cX12_isLong 17 = .ok (.iload_n 1, 1) := by decide +kernel
theorem dX12_isLong_18 : decode cX12_isLong 18 = .ok (.if_icmp .eq 5, 3) := by decide +kernel
theorem dX12_isLong_21 : decode cX12_isLong 21 = .ok (.iconst 0, 1) := by decide +kernel
theorem dX12_isLong_22 : decode cX12_isLong 22 = .ok (.ireturn, 1) := by decide +kernel
theorem dX12_isLong_23 : decode cX12_isLong 23 = .ok (.aload_n 0, 1) := by decide +kernel
theorem dX12_isLong_24 : decode cX12_isLong 24 = .ok (.aload_n 0, 1) := by decide +kernel
theorem dX12_isLong_25 : decode cX12_isLong 25 = .ok (.getfield 110, 3) := by decide +kernel
theorem dX12_isLong_28 : decode cX12_isLong 28 = .ok (.invokevirtual 106, 3) := by decide +kernel
theorem dX12_isLong_31 : decode cX12_isLong 31 = .ok (.aload_n 0, 1) := by decide +kernel
theorem dX12_isLong_32 : decode cX12_isLong 32 = .ok (.aload_n 0, 1) := by decide +kernel
theorem dX12_isLong_33 : decode cX12_isLong 33 = .ok (.getfield 110, 3) := by decide +kernel
theorem dX12_isLong_36 : decode cX12_isLong 36 = .ok (.iconst 1, 1) := by decide +kernel
theorem dX12_isLong_37 : decode cX12_isLong 37 = .ok (.iadd, 1) := by decide +kernel
theorem dX12_isLong_38 : decode cX12_isLong 38 = .ok (.invokevirtual 106, 3) := by decide +kernel
theorem dX12_isLong_41 : decode cX12_isLong 41 = .ok (.aload_n 0, 1) := by decide +kernel
theorem dX12_isLong_42 : decode cX12_isLong 42 = .ok (.aload_n 0, 1) := by decide +kernel
theorem dX12_isLong_43 : decode cX12_isLong 43 = .ok (.getfield 110, 3) := by decide +kernel
theorem dX12_isLong_46 : decode cX12_isLong 46 = .ok (.iconst 2, 1) := by decide +kernel
theorem dX12_isLong_47 : decode cX12_isLong 47 = .ok (.iadd, 1) := by decide +kernel
theorem dX12_isLong_48 : decode cX12_isLong 48 = .ok (.invokevirtual 106, 3) := by decide +kernel
theorem dX12_isLong_51 : decode cX12_isLong 51 = .ok (.aload_n 0, 1) := by decide +kernel
theorem dX12_isLong_52 : decode cX12_isLong 52 = .ok (.aload_n 0, 1) := by decide +kernel
theorem dX12_isLong_53 : decode cX12_isLong 53 = .ok (.getfield 110, 3) := by decide +kernel
theorem dX12_isLong_56 : decode cX12_isLong 56 = .ok (.iconst 3, 1) := by decide +kernel
theorem dX12_isLong_57 : decode cX12_isLong 57 = .ok (.iadd, 1) := by decide +kernel
theorem dX12_isLong_58 : decode cX12_isLong 58 = .ok (.invokevirtual 106, 3) := by decide +kernel
theorem dX12_isLong_61 : decode cX12_isLong 61 = .ok (.invokestatic 143, 3) := by decide +kernel
theorem dX12_isLong_64 : decode cX12_isLong 64 = .ok (.lload_n 2, 1) := by decide +kernel
theorem dX12_isLong_65 : decode cX12_isLong 65 = .ok (.lcmp, 1) := by decide +kernel
theorem dX12_isLong_66 : decode cX12_isLong 66 = .ok (.ifCond .ne 47, 3) := by decide +kernel
theorem dX12_isLong_69 : decode cX12_isLong 69 = .ok (.aload_n 0, 1) := by decide +kernel
theorem dX12_isLong_70 : decode cX12_isLong 70 = .ok (.aload_n 0, 1) := by decide +kernel
theorem dX12_isLong_71 : decode cX12_isLong 71 = .ok (.getfield 110, 3) := by decide +kernel
theorem dX12_isLong_74 : decode cX12_isLong 74 = .ok (.iconst 4, 1) := by decide +kernel
theorem dX12_isLong_75 : decode cX12_isLong 75 = .ok (.iadd, 1) := by decide +kernel
theorem dX12_isLong_76 : decode cX12_isLong 76 = .ok (.invokevirtual 106, 3) := by decide +kernel
theorem dX12_isLong_79 : decode cX12_isLong 79 = .ok (.aload_n 0, 1) := by decide +kernel
theorem dX12_isLong_80 : decode cX12_isLong 80 = .ok (.aload_n 0, 1) := by decide +kernel
theorem dX12_isLong_81 : decode cX12_isLong 81 = .ok (.getfield 110, 3) := by decide +kernel
theorem dX12_isLong_84 : decode cX12_isLong 84 = .ok (.iconst 5, 1) := by decide +kernel
theorem dX12_isLong_85 : decode cX12_isLong 85 = .ok (.iadd, 1) := by decide +kernel
theorem dX12_isLong_86 : decode cX12_isLong 86 = .ok (.invokevirtual 106, 3) := by decide +kernel
theorem dX12_isLong_89 : decode cX12_isLong 89 = .ok (.aload_n 0, 1) := by decide +kernel
theorem dX12_isLong_90 : decode cX12_isLong 90 = .ok (.aload_n 0, 1) := by decide +kernel
theorem dX12_isLong_91 : decode cX12_isLong 91 = .ok (.getfield 110, 3) := by decide +kernel
theorem dX12_isLong_94 : decode cX12_isLong 94 = .ok (.bipush 6, 2) := by decide +kernel
theorem dX12_isLong_96 : decode cX12_isLong 96 = .ok (.iadd, 1) := by decide +kernel
theorem dX12_isLong_97 : decode cX12_isLong 97 = .ok (.invokevirtual 106, 3) := by decide +kernel
theorem dX12_isLong_100 : decode cX12_isLong 100 = .ok (.invokestatic 139, 3) := by decide +kernel
theorem dX12_isLong_103 : decode cX12_isLong 103 = .ok (.lload 4, 2) := by decide +kernel
theorem dX12_isLong_105 : decode cX12_isLong 105 = .ok (.lcmp, 1) := by decide +kernel
theorem dX12_isLong_106 : decode cX12_isLong 106 = .ok (.ifCond .ne 7, 3) := by decide +kernel
theorem dX12_isLong_109 : decode cX12_isLong 109 = .ok (.iconst 1, 1) := by decide +kernel
theorem dX12_isLong_110 : decode cX12_isLong 110 = .ok (.goto 4, 3) := by decide +kernel
theorem dX12_isLong_113 : decode cX12_isLong 113 = .ok (.iconst 0, 1) := by decide +kernel
theorem dX12_isLong_114 : decode cX12_isLong 114 = .ok (.ireturn, 1) := by decide +kernel
theorem dX12_isStrokes_0 : decode cX12_isStrokes 0 = .ok (.aload_n 0, 1) := by decide +kernel
theorem dX12_isStrokes_1 : decode cX12_isStrokes 1 = .ok (.bipush 7, 2) := by decide +kernel
theorem dX12_isStrokes_3 : decode cX12_isStrokes 3 = .ok (.bipush 115, 2) := by decide +kernel
theorem dX12_isStrokes_5 : decode cX12_isStrokes 5 = .ok (.bipush 116, 2) := by decide +kernel
theorem dX12_isStrokes_7 : decode cX12_isStrokes 7 = .ok (.bipush 114, 2) := by decide +kernel
theorem dX12_isStrokes_9 : decode cX12_isStrokes 9 = .ok (.bipush 111, 2) := by decide +kernel
theorem dX12_isStrokes_11 : decode cX12_isStrokes 11 = .ok (.invokestatic 143, 3) := by decide +kernel
theorem dX12_isStrokes_14 : decode cX12_isStrokes 14 = .ok (.bipush 107, 2) := by decide +kernel
theorem dX12_isStrokes_16 : decode cX12_isStrokes 16 = .ok (.bipush 101, 2) := by decide +kernel
theorem dX12_isStrokes_18 : decode cX12_isStrokes 18 = .ok (.bipush 115, 2) := by decide +kernel
theorem dX12_isStrokes_20 : decode cX12_isStrokes 20 = .ok (.invokestatic 139, 3) := by decide +kernel
theorem dX12_isStrokes_23 : decode cX12_isStrokes 23 = .ok (.invokevirtual 157, 3) := by decide +kernel
theorem dX12_isStrokes_26 : decode cX12_isStrokes 26 = .ok (.ireturn, 1) := by decide +kernel
theorem dX12_isFollows_0 : decode cX12_isFollows 0 = .ok (.aload_n 0, 1) := by decide +kernel
theorem dX12_isFollows_1 : decode cX12_isFollows 1 = .ok (.bipush 7, 2) := by decide +kernel
theorem dX12_isFollows_3 : decode cX12_isFollows 3 = .ok (.bipush 102, 2) := by decide +kernel
theorem dX12_isFollows_5 : decode cX12_isFollows 5 = .ok (.bipush 111, 2) := by decide +kernel
theorem dX12_isFollows_7 : decode cX12_isFollows 7 = .ok (.bipush 108, 2) := by decide +kernel
theorem dX12_isFollows_9 : decode cX12_isFollows 9 = .ok (.bipush 108, 2) := by decide +kernel
theorem dX12_isFollows_11 : decode cX12_isFollows 11 = .ok (.invokestatic 143, 3) := by decide +kernel
theorem dX12_isFollows_14 : decode cX12_isFollows 14 = .ok (.bipush 111, 2) := by decide +kernel
theorem dX12_isFollows_16 : decode cX12_isFollows 16 = .ok (.bipush 119, 2) := by decide +kernel
theorem dX12_isFollows_18 : decode cX12_isFollows 18 = .ok (.bipush 115, 2) := by decide +kernel
theorem dX12_isFollows_20 : decode cX12_isFollows 20 = .ok (.invokestatic 139, 3) := by decide +kernel
theorem dX12_isFollows_23 : decode cX12_isFollows 23 = .ok (.invokevirtual 157, 3) := by decide +kernel
theorem dX12_isFollows_26 : decode cX12_isFollows 26 = .ok (.ireturn, 1) := by decide +kernel
theorem dX12_isMeaning_0 : decode cX12_isMeaning 0 = .ok (.aload_n 0, 1) := by decide +kernel
theorem dX12_isMeaning_1 : decode cX12_isMeaning 1 = .ok (.bipush 7, 2) := by decide +kernel
theorem dX12_isMeaning_3 : decode cX12_isMeaning 3 = .ok (.bipush 109, 2) := by decide +kernel
theorem dX12_isMeaning_5 : decode cX12_isMeaning 5 = .ok (.bipush 101, 2) := by decide +kernel
theorem dX12_isMeaning_7 : decode cX12_isMeaning 7 = .ok (.bipush 97, 2) := by decide +kernel
theorem dX12_isMeaning_9 : decode cX12_isMeaning 9 = .ok (.bipush 110, 2) := by decide +kernel
theorem dX12_isMeaning_11 : decode cX12_isMeaning 11 = .ok (.invokestatic 143, 3) := by decide +kernel
theorem dX12_isMeaning_14 : decode cX12_isMeaning 14 = .ok (.bipush 105, 2) := by decide +kernel
theorem dX12_isMeaning_16 : decode cX12_isMeaning 16 = .ok (.bipush 110, 2) := by decide +kernel
theorem dX12_isMeaning_18 : decode cX12_isMeaning 18 = .ok (.bipush 103, 2) := by decide +kernel
theorem dX12_isMeaning_20 : decode cX12_isMeaning 20 = .ok (.invokestatic 139, 3) := by decide +kernel
theorem dX12_isMeaning_23 : decode cX12_isMeaning 23 = .ok (.invokevirtual 157, 3) := by decide +kernel
theorem dX12_isMeaning_26 : decode cX12_isMeaning 26 = .ok (.ireturn, 1) := by decide +kernel
theorem dX12_nameOf_0 : decode cX12_nameOf 0 = .ok (.aload_n 0, 1) := by decide +kernel
theorem dX12_nameOf_1 : decode cX12_nameOf 1 = .ok (.getfield 113, 3) := by decide +kernel
theorem dX12_nameOf_4 : decode cX12_nameOf 4 = .ok (.iconst 2, 1) := by decide +kernel
theorem dX12_nameOf_5 : decode cX12_nameOf 5 = .ok (.if_icmp .eq 5, 3) := by decide +kernel
theorem dX12_nameOf_8 : decode cX12_nameOf 8 = .ok (.iconst (-1), 1) := by decide +kernel
theorem dX12_nameOf_9 : decode cX12_nameOf 9 = .ok (.ireturn, 1) := by decide +kernel
theorem dX12_nameOf_10 : decode cX12_nameOf 10 = .ok (.aload_n 0, 1) := by decide +kernel
theorem dX12_nameOf_11 : decode cX12_nameOf 11 = .ok (.getfield 126, 3) := by decide +kernel
theorem dX12_nameOf_14 : decode cX12_nameOf 14 = .ok (.bipush 108, 2) := by decide +kernel
theorem dX12_nameOf_16 : decode cX12_nameOf 16 = .ok (.bipush 111, 2) := by decide +kernel
theorem dX12_nameOf_18 : decode cX12_nameOf 18 = .ok (.bipush 117, 2) := by decide +kernel
theorem dX12_nameOf_20 : decode cX12_nameOf 20 = .ok (.bipush 100, 2) := by decide +kernel
theorem dX12_nameOf_22 : decode cX12_nameOf 22 = .ok (.invokestatic 143, 3) := by decide +kernel
theorem dX12_nameOf_25 : decode cX12_nameOf 25 = .ok (.lcmp, 1) := by decide +kernel
theorem dX12_nameOf_26 : decode cX12_nameOf 26 = .ok (.ifCond .ne 5, 3) := by decide +kernel
theorem dX12_nameOf_29 : decode cX12_nameOf 29 = .ok (.iconst 0, 1) := by decide +kernel
theorem dX12_nameOf_30 : decode cX12_nameOf 30 = .ok (.ireturn, 1) := by decide +kernel
theorem dX12_nameOf_31 : decode cX12_nameOf 31 = .ok (.aload_n 0, 1) := by decide +kernel
theorem dX12_nameOf_32 : decode cX12_nameOf 32 = .ok (.getfield 126, 3) := by decide +kernel
theorem dX12_nameOf_35 : decode cX12_nameOf 35 = .ok (.bipush 112, 2) := by decide +kernel
theorem dX12_nameOf_37 : decode cX12_nameOf 37 = .ok (.bipush 105, 2) := by decide +kernel
theorem dX12_nameOf_39 : decode cX12_nameOf 39 = .ok (.bipush 116, 2) := by decide +kernel
theorem dX12_nameOf_41 : decode cX12_nameOf 41 = .ok (.bipush 99, 2) := by decide +kernel
theorem dX12_nameOf_43 : decode cX12_nameOf 43 = .ok (.bipush 104, 2) := by decide +kernel
theorem dX12_nameOf_45 : decode cX12_nameOf 45 = .ok (.invokestatic 147, 3) := by decide +kernel
theorem dX12_nameOf_48 : decode cX12_nameOf 48 = .ok (.lcmp, 1) := by decide +kernel
theorem dX12_nameOf_49 : decode cX12_nameOf 49 = .ok (.ifCond .ne 5, 3) := by decide +kernel
theorem dX12_nameOf_52 : decode cX12_nameOf 52 = .ok (.iconst 1, 1) := by decide +kernel
theorem dX12_nameOf_53 : decode cX12_nameOf 53 = .ok (.ireturn, 1) := by decide +kernel
theorem dX12_nameOf_54 : decode cX12_nameOf 54 = .ok (.aload_n 0, 1) := by decide +kernel
theorem dX12_nameOf_55 : decode cX12_nameOf 55 = .ok (.getfield 126, 3) := by decide +kernel
theorem dX12_nameOf_58 : decode cX12_nameOf 58 = .ok (.bipush 109, 2) := by decide +kernel
theorem dX12_nameOf_60 : decode cX12_nameOf 60 = .ok (.bipush 101, 2) := by decide +kernel
theorem dX12_nameOf_62 : decode cX12_nameOf 62 = .ok (.bipush 110, 2) := by decide +kernel
theorem dX12_nameOf_64 : decode cX12_nameOf 64 = .ok (.invokestatic 139, 3) := by decide +kernel
theorem dX12_nameOf_67 : decode cX12_nameOf 67 = .ok (.lcmp, 1) := by decide +kernel
theorem dX12_nameOf_68 : decode cX12_nameOf 68 = .ok (.ifCond .ne 5, 3) := by decide +kernel
theorem dX12_nameOf_71 : decode cX12_nameOf 71 = .ok (.iconst 2, 1) := by decide +kernel
theorem dX12_nameOf_72 : decode cX12_nameOf 72 = .ok (.ireturn, 1) := by decide +kernel
theorem dX12_nameOf_73 : decode cX12_nameOf 73 = .ok (.aload_n 0, 1) := by decide +kernel
theorem dX12_nameOf_74 : decode cX12_nameOf 74 = .ok (.getfield 126, 3) := by decide +kernel
theorem dX12_nameOf_77 : decode cX12_nameOf 77 = .ok (.bipush 119, 2) := by decide +kernel
theorem dX12_nameOf_79 : decode cX12_nameOf 79 = .ok (.bipush 105, 2) := by decide +kernel
theorem dX12_nameOf_81 : decode cX12_nameOf 81 = .ok (.bipush 110, 2) := by decide +kernel
theorem dX12_nameOf_83 : decode cX12_nameOf 83 = .ok (.bipush 100, 2) := by decide +kernel
theorem dX12_nameOf_85 : decode cX12_nameOf 85 = .ok (.invokestatic 143, 3) := by decide +kernel
theorem dX12_nameOf_88 : decode cX12_nameOf 88 = .ok (.lcmp, 1) := by decide +kernel
theorem dX12_nameOf_89 : decode cX12_nameOf 89 = .ok (.ifCond .ne 5, 3) := by decide +kernel
theorem dX12_nameOf_92 : decode cX12_nameOf 92 = .ok (.iconst 3, 1) := by decide +kernel
theorem dX12_nameOf_93 : decode cX12_nameOf 93 = .ok (.ireturn, 1) := by decide +kernel
theorem dX12_nameOf_94 : decode cX12_nameOf 94 = .ok (.aload_n 0, 1) := by decide +kernel
theorem dX12_nameOf_95 : decode cX12_nameOf 95 = .ok (.getfield 126, 3) := by decide +kernel
theorem dX12_nameOf_98 : decode cX12_nameOf 98 = .ok (.bipush 102, 2) := by decide +kernel
theorem dX12_nameOf_100 : decode cX12_nameOf 100 = .ok (.bipush 114, 2) := by decide +kernel
theorem dX12_nameOf_102 : decode cX12_nameOf 102 = .ok (.bipush 111, 2) := by decide +kernel
theorem dX12_nameOf_104 : decode cX12_nameOf 104 = .ok (.bipush 115, 2) := by decide +kernel
theorem dX12_nameOf_106 : decode cX12_nameOf 106 = .ok (.bipush 116, 2) := by decide +kernel
theorem dX12_nameOf_108 : decode cX12_nameOf 108 = .ok (.invokestatic 147, 3) := by decide +kernel
theorem dX12_nameOf_111 : decode cX12_nameOf 111 = .ok (.lcmp, 1) := by decide +kernel
theorem dX12_nameOf_112 : decode cX12_nameOf 112 = .ok (.ifCond .ne 5, 3) := by decide +kernel
theorem dX12_nameOf_115 : decode cX12_nameOf 115 = .ok (.iconst 4, 1) := by decide +kernel
theorem dX12_nameOf_116 : decode cX12_nameOf 116 = .ok (.ireturn, 1) := by decide +kernel
theorem dX12_nameOf_117 : decode cX12_nameOf 117 = .ok (.aload_n 0, 1) := by decide +kernel
theorem dX12_nameOf_118 : decode cX12_nameOf 118 = .ok (.getfield 126, 3) := by decide +kernel
theorem dX12_nameOf_121 : decode cX12_nameOf 121 = .ok (.bipush 104, 2) := by decide +kernel
theorem dX12_nameOf_123 : decode cX12_nameOf 123 = .ok (.bipush 111, 2) := by decide +kernel
theorem dX12_nameOf_125 : decode cX12_nameOf 125 = .ok (.bipush 117, 2) := by decide +kernel
theorem dX12_nameOf_127 : decode cX12_nameOf 127 = .ok (.bipush 114, 2) := by decide +kernel
theorem dX12_nameOf_129 : decode cX12_nameOf 129 = .ok (.invokestatic 143, 3) := by decide +kernel
theorem dX12_nameOf_132 : decode cX12_nameOf 132 = .ok (.lcmp, 1) := by decide +kernel
theorem dX12_nameOf_133 : decode cX12_nameOf 133 = .ok (.ifCond .ne 5, 3) := by decide +kernel
theorem dX12_nameOf_136 : decode cX12_nameOf 136 = .ok (.iconst 5, 1) := by decide +kernel
theorem dX12_nameOf_137 : decode cX12_nameOf 137 = .ok (.ireturn, 1) := by decide +kernel
theorem dX12_nameOf_138 : decode cX12_nameOf 138 = .ok (.aload_n 0, 1) := by decide +kernel
theorem dX12_nameOf_139 : decode cX12_nameOf 139 = .ok (.invokevirtual 161, 3) := by decide +kernel
theorem dX12_nameOf_142 : decode cX12_nameOf 142 = .ok (.ifCond .eq 6, 3) := by decide +kernel
theorem dX12_nameOf_145 : decode cX12_nameOf 145 = .ok (.bipush 6, 2) := by decide +kernel
theorem dX12_nameOf_147 : decode cX12_nameOf 147 = .ok (.ireturn, 1) := by decide +kernel
theorem dX12_nameOf_148 : decode cX12_nameOf 148 = .ok (.aload_n 0, 1) := by decide +kernel
theorem dX12_nameOf_149 : decode cX12_nameOf 149 = .ok (.getfield 126, 3) := by decide +kernel
theorem dX12_nameOf_152 : decode cX12_nameOf 152 = .ok (.bipush 98, 2) := by decide +kernel
theorem dX12_nameOf_154 : decode cX12_nameOf 154 = .ok (.bipush 101, 2) := by decide +kernel
theorem dX12_nameOf_156 : decode cX12_nameOf 156 = .ok (.bipush 108, 2) := by decide +kernel
theorem dX12_nameOf_158 : decode cX12_nameOf 158 = .ok (.bipush 108, 2) := by decide +kernel
theorem dX12_nameOf_160 : decode cX12_nameOf 160 = .ok (.invokestatic 143, 3) := by decide +kernel
theorem dX12_nameOf_163 : decode cX12_nameOf 163 = .ok (.lcmp, 1) := by decide +kernel
theorem dX12_nameOf_164 : decode cX12_nameOf 164 = .ok (.ifCond .ne 6, 3) := by decide +kernel
theorem dX12_nameOf_167 : decode cX12_nameOf 167 = .ok (.bipush 7, 2) := by decide +kernel
theorem dX12_nameOf_169 : decode cX12_nameOf 169 = .ok (.ireturn, 1) := by decide +kernel
theorem dX12_nameOf_170 : decode cX12_nameOf 170 = .ok (.aload_n 0, 1) := by decide +kernel
theorem dX12_nameOf_171 : decode cX12_nameOf 171 = .ok (.getfield 126, 3) := by decide +kernel
theorem dX12_nameOf_174 : decode cX12_nameOf 174 = .ok (.bipush 107, 2) := by decide +kernel
theorem dX12_nameOf_176 : decode cX12_nameOf 176 = .ok (.bipush 105, 2) := by decide +kernel
theorem dX12_nameOf_178 : decode cX12_nameOf 178 = .ok (.bipush 110, 2) := by decide +kernel
theorem dX12_nameOf_180 : decode cX12_nameOf 180 = .ok (.bipush 100, 2) := by decide +kernel
theorem dX12_nameOf_182 : decode cX12_nameOf 182 = .ok (.invokestatic 143, 3) := by decide +kernel
theorem dX12_nameOf_185 : decode cX12_nameOf 185 = .ok (.lcmp, 1) := by decide +kernel
theorem dX12_nameOf_186 : decode cX12_nameOf 186 = .ok (.ifCond .ne 6, 3) := by decide +kernel
theorem dX12_nameOf_189 : decode cX12_nameOf 189 = .ok (.bipush 8, 2) := by decide +kernel
theorem dX12_nameOf_191 : decode cX12_nameOf 191 = .ok (.ireturn, 1) := by decide +kernel
theorem dX12_nameOf_192 : decode cX12_nameOf 192 = .ok (.aload_n 0, 1) := by decide +kernel
theorem dX12_nameOf_193 : decode cX12_nameOf 193 = .ok (.getfield 126, 3) := by decide +kernel
theorem dX12_nameOf_196 : decode cX12_nameOf 196 = .ok (.bipush 109, 2) := by decide +kernel
theorem dX12_nameOf_198 : decode cX12_nameOf 198 = .ok (.bipush 101, 2) := by decide +kernel
theorem dX12_nameOf_200 : decode cX12_nameOf 200 = .ok (.bipush 97, 2) := by decide +kernel
theorem dX12_nameOf_202 : decode cX12_nameOf 202 = .ok (.bipush 110, 2) := by decide +kernel
theorem dX12_nameOf_204 : decode cX12_nameOf 204 = .ok (.bipush 115, 2) := by decide +kernel
theorem dX12_nameOf_206 : decode cX12_nameOf 206 = .ok (.invokestatic 147, 3) := by decide +kernel
theorem dX12_nameOf_209 : decode cX12_nameOf 209 = .ok (.lcmp, 1) := by decide +kernel
theorem dX12_nameOf_210 : decode cX12_nameOf 210 = .ok (.ifCond .ne 6, 3) := by decide +kernel
theorem dX12_nameOf_213 : decode cX12_nameOf 213 = .ok (.bipush 9, 2) := by decide +kernel
theorem dX12_nameOf_215 : decode cX12_nameOf 215 = .ok (.ireturn, 1) := by decide +kernel
theorem dX12_nameOf_216 : decode cX12_nameOf 216 = .ok (.aload_n 0, 1) := by decide +kernel
theorem dX12_nameOf_217 : decode cX12_nameOf 217 = .ok (.getfield 126, 3) := by decide +kernel
theorem dX12_nameOf_220 : decode cX12_nameOf 220 = .ok (.bipush 110, 2) := by decide +kernel
theorem dX12_nameOf_222 : decode cX12_nameOf 222 = .ok (.bipush 101, 2) := by decide +kernel
theorem dX12_nameOf_224 : decode cX12_nameOf 224 = .ok (.bipush 120, 2) := by decide +kernel
theorem dX12_nameOf_226 : decode cX12_nameOf 226 = .ok (.bipush 116, 2) := by decide +kernel
theorem dX12_nameOf_228 : decode cX12_nameOf 228 = .ok (.invokestatic 143, 3) := by decide +kernel
theorem dX12_nameOf_231 : decode cX12_nameOf 231 = .ok (.lcmp, 1) := by decide +kernel
theorem dX12_nameOf_232 : decode cX12_nameOf 232 = .ok (.ifCond .ne 6, 3) := by decide +kernel
theorem dX12_nameOf_235 : decode cX12_nameOf 235 = .ok (.bipush 10, 2) := by decide +kernel
theorem dX12_nameOf_237 : decode cX12_nameOf 237 = .ok (.ireturn, 1) := by decide +kernel
theorem dX12_nameOf_238 : decode cX12_nameOf 238 = .ok (.aload_n 0, 1) := by decide +kernel
theorem dX12_nameOf_239 : decode cX12_nameOf 239 = .ok (.invokevirtual 165, 3) := by decide +kernel
theorem dX12_nameOf_242 : decode cX12_nameOf 242 = .ok (.ifCond .eq 8, 3) := by decide +kernel
theorem dX12_nameOf_245 : decode cX12_nameOf 245 = .ok (.bipush 11, 2) := by decide +kernel
theorem dX12_nameOf_247 : decode cX12_nameOf 247 = .ok (.goto 30, 3) := by decide +kernel
theorem dX12_nameOf_250 : decode cX12_nameOf 250 = .ok (.aload_n 0, 1) := by decide +kernel
theorem dX12_nameOf_251 : decode cX12_nameOf 251 = .ok (.getfield 126, 3) := by decide +kernel
theorem dX12_nameOf_254 : decode cX12_nameOf 254 = .ok (.bipush 112, 2) := by decide +kernel
theorem dX12_nameOf_256 : decode cX12_nameOf 256 = .ok (.bipush 108, 2) := by decide +kernel
theorem dX12_nameOf_258 : decode cX12_nameOf 258 = .ok (.bipush 97, 2) := by decide +kernel
theorem dX12_nameOf_260 : decode cX12_nameOf 260 = .ok (.bipush 99, 2) := by decide +kernel
theorem dX12_nameOf_262 : decode cX12_nameOf 262 = .ok (.bipush 101, 2) := by decide +kernel
theorem dX12_nameOf_264 : decode cX12_nameOf 264 = .ok (.invokestatic 147, 3) := by decide +kernel
theorem dX12_nameOf_267 : decode cX12_nameOf 267 = .ok (.lcmp, 1) := by decide +kernel
theorem dX12_nameOf_268 : decode cX12_nameOf 268 = .ok (.ifCond .ne 8, 3) := by decide +kernel
theorem dX12_nameOf_271 : decode cX12_nameOf 271 = .ok (.bipush 12, 2) := by decide +kernel
theorem dX12_nameOf_273 : decode cX12_nameOf 273 = .ok (.goto 4, 3) := by decide +kernel
theorem dX12_nameOf_276 : decode cX12_nameOf 276 = .ok (.iconst (-1), 1) := by decide +kernel
theorem dX12_nameOf_277 : decode cX12_nameOf 277 = .ok (.ireturn, 1) := by decide +kernel
theorem dX12_isOf_0 : decode cX12_isOf 0 = .ok (.iload_n 1, 1) := by decide +kernel
theorem dX12_isOf_1 : decode cX12_isOf 1 = .ok (.bipush 8, 2) := by decide +kernel
theorem dX12_isOf_3 : decode cX12_isOf 3 = .ok (.if_icmp .ge 18, 3) := by decide +kernel
theorem dX12_isOf_6 : decode cX12_isOf 6 = .ok (.aload_n 0, 1) := by decide +kernel
theorem dX12_isOf_7 : decode cX12_isOf 7 = .ok (.getfield 168, 3) := by decide +kernel
theorem dX12_isOf_10 : decode cX12_isOf 10 = .ok (.ifCond .ne 7, 3) := by decide +kernel
theorem dX12_isOf_13 : decode cX12_isOf 13 = .ok (.iconst 1, 1) := by decide +kernel
theorem dX12_isOf_14 : decode cX12_isOf 14 = .ok (.goto 41, 3) := by decide +kernel
theorem dX12_isOf_17 : decode cX12_isOf 17 = .ok (.iconst 0, 1) := by decide +kernel
theorem dX12_isOf_18 : decode cX12_isOf 18 = .ok (.goto 37, 3) := by decide +kernel
theorem dX12_isOf_21 : decode cX12_isOf 21 = .ok (.iload_n 1, 1) := by decide +kernel
theorem dX12_isOf_22 : decode cX12_isOf 22 = .ok (.bipush 10, 2) := by decide +kernel
theorem dX12_isOf_24 : decode cX12_isOf 24 = .ok (.if_icmp .ge 18, 3) := by decide +kernel
theorem dX12_isOf_27 : decode cX12_isOf 27 = .ok (.aload_n 0, 1) := by decide +kernel
theorem dX12_isOf_28 : decode cX12_isOf 28 = .ok (.getfield 168, 3) := by decide +kernel
theorem dX12_isOf_31 : decode cX12_isOf 31 = .ok (.ifCond .eq 7, 3) := by decide +kernel
theorem dX12_isOf_34 : decode cX12_isOf 34 = .ok (.iconst 1, 1) := by decide +kernel
theorem dX12_isOf_35 : decode cX12_isOf 35 = .ok (.goto 20, 3) := by decide +kernel
theorem dX12_isOf_38 : decode cX12_isOf 38 = .ok (.iconst 0, 1) := by decide +kernel
theorem dX12_isOf_39 : decode cX12_isOf 39 = .ok (.goto 16, 3) := by decide +kernel
theorem dX12_isOf_42 : decode cX12_isOf 42 = .ok (.aload_n 0, 1) := by decide +kernel
theorem dX12_isOf_43 : decode cX12_isOf 43 = .ok (.getfield 168, 3) := by decide +kernel
theorem dX12_isOf_46 : decode cX12_isOf 46 = .ok (.iconst 1, 1) := by decide +kernel
theorem dX12_isOf_47 : decode cX12_isOf 47 = .ok (.if_icmp .ne 7, 3) := by decide +kernel
theorem dX12_isOf_50 : decode cX12_isOf 50 = .ok (.iconst 1, 1) := by decide +kernel
theorem dX12_isOf_51 : decode cX12_isOf 51 = .ok (.goto 4, 3) := by decide +kernel
theorem dX12_isOf_54 : decode cX12_isOf 54 = .ok (.iconst 0, 1) := by decide +kernel
theorem dX12_isOf_55 : decode cX12_isOf 55 = .ok (.ireturn, 1) := by decide +kernel
theorem dX12_rank_0 : decode cX12_rank 0 = .ok (.iload_n 0, 1) := by decide +kernel
theorem dX12_rank_1 : decode cX12_rank 1 = .ok (.bipush 40, 2) := by decide +kernel
theorem dX12_rank_3 : decode cX12_rank 3 = .ok (.if_icmp .lt 7, 3) := by decide +kernel
theorem dX12_rank_6 : decode cX12_rank 6 = .ok (.iconst 0, 1) := by decide +kernel
theorem dX12_rank_7 : decode cX12_rank 7 = .ok (.goto 75, 3) := by decide +kernel
theorem dX12_rank_10 : decode cX12_rank 10 = .ok (.iload_n 0, 1) := by decide +kernel
theorem dX12_rank_11 : decode cX12_rank 11 = .ok (.bipush 22, 2) := by decide +kernel
theorem dX12_rank_13 : decode cX12_rank 13 = .ok (.if_icmp .ne 7, 3) := by decide +kernel
theorem dX12_rank_16 : decode cX12_rank 16 = .ok (.iconst 1, 1) := by decide +kernel
theorem dX12_rank_17 : decode cX12_rank 17 = .ok (.goto 65, 3) := by decide +kernel
theorem dX12_rank_20 : decode cX12_rank 20 = .ok (.iload_n 0, 1) := by decide +kernel
theorem dX12_rank_21 : decode cX12_rank 21 = .ok (.bipush 21, 2) := by decide +kernel
theorem dX12_rank_23 : decode cX12_rank 23 = .ok (.if_icmp .ne 7, 3) := by decide +kernel
theorem dX12_rank_26 : decode cX12_rank 26 = .ok (.iconst 2, 1) := by decide +kernel
theorem dX12_rank_27 : decode cX12_rank 27 = .ok (.goto 55, 3) := by decide +kernel
theorem dX12_rank_30 : decode cX12_rank 30 = .ok (.iload_n 0, 1) := by decide +kernel
theorem dX12_rank_31 : decode cX12_rank 31 = .ok (.bipush 20, 2) := by decide +kernel
theorem dX12_rank_33 : decode cX12_rank 33 = .ok (.if_icmp .ne 7, 3) := by decide +kernel
theorem dX12_rank_36 : decode cX12_rank 36 = .ok (.iconst 3, 1) := by decide +kernel
theorem dX12_rank_37 : decode cX12_rank 37 = .ok (.goto 45, 3) := by decide +kernel
theorem dX12_rank_40 : decode cX12_rank 40 = .ok (.iload_n 0, 1) := by decide +kernel
theorem dX12_rank_41 : decode cX12_rank 41 = .ok (.bipush 10, 2) := by decide +kernel
theorem dX12_rank_43 : decode cX12_rank 43 = .ok (.if_icmp .lt 7, 3) := by decide +kernel
theorem dX12_rank_46 : decode cX12_rank 46 = .ok (.iconst 4, 1) := by decide +kernel
theorem dX12_rank_47 : decode cX12_rank 47 = .ok (.goto 35, 3) := by decide +kernel
theorem dX12_rank_50 : decode cX12_rank 50 = .ok (.iload_n 0, 1) := by decide +kernel
theorem dX12_rank_51 : decode cX12_rank 51 = .ok (.iconst 2, 1) := by decide +kernel
theorem dX12_rank_52 : decode cX12_rank 52 = .ok (.if_icmp .ne 8, 3) := by decide +kernel
theorem dX12_rank_55 : decode cX12_rank 55 = .ok (.bipush 8, 2) := by decide +kernel
theorem dX12_rank_57 : decode cX12_rank 57 = .ok (.goto 25, 3) := by decide +kernel
theorem dX12_rank_60 : decode cX12_rank 60 = .ok (.iload_n 0, 1) := by decide +kernel
theorem dX12_rank_61 : decode cX12_rank 61 = .ok (.bipush 7, 2) := by decide +kernel
theorem dX12_rank_63 : decode cX12_rank 63 = .ok (.if_icmp .ne 8, 3) := by decide +kernel
theorem dX12_rank_66 : decode cX12_rank 66 = .ok (.bipush 7, 2) := by decide +kernel
theorem dX12_rank_68 : decode cX12_rank 68 = .ok (.goto 14, 3) := by decide +kernel
theorem dX12_rank_71 : decode cX12_rank 71 = .ok (.iload_n 0, 1) := by decide +kernel
theorem dX12_rank_72 : decode cX12_rank 72 = .ok (.iconst 5, 1) := by decide +kernel
theorem dX12_rank_73 : decode cX12_rank 73 = .ok (.if_icmp .lt 8, 3) := by decide +kernel
theorem dX12_rank_76 : decode cX12_rank 76 = .ok (.bipush 6, 2) := by decide +kernel
theorem dX12_rank_78 : decode cX12_rank 78 = .ok (.goto 4, 3) := by decide +kernel
theorem dX12_rank_81 : decode cX12_rank 81 = .ok (.iconst 5, 1) := by decide +kernel
theorem dX12_rank_82 : decode cX12_rank 82 = .ok (.ireturn, 1) := by decide +kernel
theorem dX12_settle_0 : decode cX12_settle 0 = .ok (.aload_n 0, 1) := by decide +kernel
theorem dX12_settle_1 : decode cX12_settle 1 = .ok (.getfield 171, 3) := by decide +kernel
theorem dX12_settle_4 : decode cX12_settle 4 = .ok (.ifCond .le 99, 3) := by decide +kernel
theorem dX12_settle_7 : decode cX12_settle 7 = .ok (.aload_n 0, 1) := by decide +kernel
theorem dX12_settle_8 : decode cX12_settle 8 = .ok (.getfield 32, 3) := by decide +kernel
theorem dX12_settle_11 : decode cX12_settle 11 = .ok (.aload_n 0, 1) := by decide +kernel
theorem dX12_settle_12 : decode cX12_settle 12 = .ok (.getfield 171, 3) := by decide +kernel
theorem dX12_settle_15 : decode cX12_settle 15 = .ok (.iconst 1, 1) := by decide +kernel
theorem dX12_settle_16 : decode cX12_settle 16 = .ok (.isub, 1) := by decide +kernel
theorem dX12_settle_17 : decode cX12_settle 17 = .ok (.iaload, 1) := by decide +kernel
theorem dX12_settle_18 : decode cX12_settle 18 = .ok (.invokestatic 174, 3) := by decide +kernel
theorem dX12_settle_21 : decode cX12_settle 21 = .ok (.iload_n 1, 1) := by decide +kernel
theorem dX12_settle_22 : decode cX12_settle 22 = .ok (.if_icmp .lt 81, 3) := by decide +kernel
theorem dX12_settle_25 : decode cX12_settle 25 = .ok (.aload_n 0, 1) := by decide +kernel
theorem dX12_settle_26 : decode cX12_settle 26 = .ok (.dup, 1) := by decide +kernel
theorem dX12_settle_27 : decode cX12_settle 27 = .ok (.getfield 171, 3) := by decide +kernel
theorem dX12_settle_30 : decode cX12_settle 30 = .ok (.iconst 1, 1) := by decide +kernel
theorem dX12_settle_31 : decode cX12_settle 31 = .ok (.isub, 1) := by decide +kernel
theorem dX12_settle_32 : decode cX12_settle 32 = .ok (.putfield 171, 3) := by decide +kernel
theorem dX12_settle_35 : decode cX12_settle 35 = .ok (.aload_n 0, 1) := by decide +kernel
theorem dX12_settle_36 : decode cX12_settle 36 = .ok (.aload_n 0, 1) := by decide +kernel
theorem dX12_settle_37 : decode cX12_settle 37 = .ok (.getfield 32, 3) := by decide +kernel
theorem dX12_settle_40 : decode cX12_settle 40 = .ok (.aload_n 0, 1) := by decide +kernel
theorem dX12_settle_41 : decode cX12_settle 41 = .ok (.getfield 171, 3) := by decide +kernel
theorem dX12_settle_44 : decode cX12_settle 44 = .ok (.iaload, 1) := by decide +kernel
theorem dX12_settle_45 : decode cX12_settle 45 = .ok (.iconst 0, 1) := by decide +kernel
theorem dX12_settle_46 : decode cX12_settle 46 = .ok (.invokevirtual 177, 3) := by decide +kernel
theorem dX12_settle_49 : decode cX12_settle 49 = .ok (.aload_n 0, 1) := by decide +kernel
theorem dX12_settle_50 : decode cX12_settle 50 = .ok (.getfield 32, 3) := by decide +kernel
theorem dX12_settle_53 : decode cX12_settle 53 = .ok (.aload_n 0, 1) := by decide +kernel
theorem dX12_settle_54 : decode cX12_settle 54 = .ok (.getfield 171, 3) := by decide +kernel
theorem dX12_settle_57 : decode cX12_settle 57 = .ok (.iaload, 1) := by decide +kernel
theorem dX12_settle_58 : decode cX12_settle 58 = .ok (.iconst 2, 1) := by decide +kernel
theorem dX12_settle_59 : decode cX12_settle 59 = .ok (.if_icmp .eq 31, 3) := by decide +kernel
theorem dX12_settle_62 : decode cX12_settle 62 = .ok (.aload_n 0, 1) := by decide +kernel
theorem dX12_settle_63 : decode cX12_settle 63 = .ok (.getfield 32, 3) := by decide +kernel
theorem dX12_settle_66 : decode cX12_settle 66 = .ok (.aload_n 0, 1) := by decide +kernel
theorem dX12_settle_67 : decode cX12_settle 67 = .ok (.getfield 171, 3) := by decide +kernel
theorem dX12_settle_70 : decode cX12_settle 70 = .ok (.iaload, 1) := by decide +kernel
theorem dX12_settle_71 : decode cX12_settle 71 = .ok (.bipush 20, 2) := by decide +kernel
theorem dX12_settle_73 : decode cX12_settle 73 = .ok (.if_icmp .eq 17, 3) := by decide +kernel
theorem dX12_settle_76 : decode cX12_settle 76 = .ok (.aload_n 0, 1) := by decide +kernel
theorem dX12_settle_77 : decode cX12_settle 77 = .ok (.getfield 32, 3) := by decide +kernel
theorem dX12_settle_80 : decode cX12_settle 80 = .ok (.aload_n 0, 1) := by decide +kernel
theorem dX12_settle_81 : decode cX12_settle 81 = .ok (.getfield 171, 3) := by decide +kernel
theorem dX12_settle_84 : decode cX12_settle 84 = .ok (.iaload, 1) := by decide +kernel
theorem dX12_settle_85 : decode cX12_settle 85 = .ok (.bipush 7, 2) := by decide +kernel
theorem dX12_settle_87 : decode cX12_settle 87 = .ok (.if_icmp .ne (-87), 3) := by decide +kernel
theorem dX12_settle_90 : decode cX12_settle 90 = .ok (.aload_n 0, 1) := by decide +kernel
theorem dX12_settle_91 : decode cX12_settle 91 = .ok (.dup, 1) := by decide +kernel
theorem dX12_settle_92 : decode cX12_settle 92 = .ok (.getfield 181, 3) := by decide +kernel
theorem dX12_settle_95 : decode cX12_settle 95 = .ok (.iconst 1, 1) := by decide +kernel
theorem dX12_settle_96 : decode cX12_settle 96 = .ok (.isub, 1) := by decide +kernel
theorem dX12_settle_97 : decode cX12_settle 97 = .ok (.putfield 181, 3) := by decide +kernel
theorem dX12_settle_100 : decode cX12_settle 100 = .ok (.goto (-100), 3) := by decide +kernel
theorem dX12_settle_103 : decode cX12_settle 103 = .ok (.return_, 1) := by decide +kernel
theorem dX12_isOpen_0 : decode cX12_isOpen 0 = .ok (.aload_n 0, 1) := by decide +kernel
theorem dX12_isOpen_1 : decode cX12_isOpen 1 = .ok (.getfield 171, 3) := by decide +kernel
theorem dX12_isOpen_4 : decode cX12_isOpen 4 = .ok (.iconst 1, 1) := by decide +kernel
theorem dX12_isOpen_5 : decode cX12_isOpen 5 = .ok (.isub, 1) := by decide +kernel
theorem dX12_isOpen_6 : decode cX12_isOpen 6 = .ok (.istore_n 1, 1) := by decide +kernel
theorem dX12_isOpen_7 : decode cX12_isOpen 7 = .ok (.iload_n 1, 1) := by decide +kernel
theorem dX12_isOpen_8 : decode cX12_isOpen 8 = .ok (.ifCond .lt 20, 3) := by decide +kernel
theorem dX12_isOpen_11 : decode cX12_isOpen 11 = .ok (.aload_n 0, 1) := by decide +kernel
theorem dX12_isOpen_12 : decode cX12_isOpen 12 = .ok (.getfield 32, 3) := by decide +kernel
theorem dX12_isOpen_15 : decode cX12_isOpen 15 = .ok (.iload_n 1, 1) := by decide +kernel
theorem dX12_isOpen_16 : decode cX12_isOpen 16 = .ok (.iaload, 1) := by decide +kernel
theorem dX12_isOpen_17 : decode cX12_isOpen 17 = .ok (.bipush 40, 2) := by decide +kernel
theorem dX12_isOpen_19 : decode cX12_isOpen 19 = .ok (.if_icmp .ge 9, 3) := by decide +kernel
theorem dX12_isOpen_22 : decode cX12_isOpen 22 = .ok (.iinc 1 (-1), 3) := by decide +kernel
theorem dX12_isOpen_25 : decode cX12_isOpen 25 = .ok (.goto (-18), 3) := by decide +kernel
theorem dX12_isOpen_28 : decode cX12_isOpen 28 = .ok (.iload_n 1, 1) := by decide +kernel
theorem dX12_isOpen_29 : decode cX12_isOpen 29 = .ok (.ifCond .lt 7, 3) := by decide +kernel
theorem dX12_isOpen_32 : decode cX12_isOpen 32 = .ok (.iconst 1, 1) := by decide +kernel
theorem dX12_isOpen_33 : decode cX12_isOpen 33 = .ok (.goto 4, 3) := by decide +kernel
theorem dX12_isOpen_36 : decode cX12_isOpen 36 = .ok (.iconst 0, 1) := by decide +kernel
theorem dX12_isOpen_37 : decode cX12_isOpen 37 = .ok (.ireturn, 1) := by decide +kernel
theorem dX12_isCompared_0 : decode cX12_isCompared 0 = .ok (.aload_n 0, 1) := by decide +kernel
theorem dX12_isCompared_1 : decode cX12_isCompared 1 = .ok (.getfield 171, 3) := by decide +kernel
theorem dX12_isCompared_4 : decode cX12_isCompared 4 = .ok (.iconst 1, 1) := by decide +kernel
theorem dX12_isCompared_5 : decode cX12_isCompared 5 = .ok (.isub, 1) := by decide +kernel
theorem dX12_isCompared_6 : decode cX12_isCompared 6 = .ok (.istore_n 1, 1) := by decide +kernel
theorem dX12_isCompared_7 : decode cX12_isCompared 7 = .ok (.iload_n 1, 1) := by decide +kernel
theorem dX12_isCompared_8 : decode cX12_isCompared 8 = .ok (.ifCond .lt 22, 3) := by decide +kernel
theorem dX12_isCompared_11 : decode cX12_isCompared 11 = .ok (.aload_n 0, 1) := by decide +kernel
theorem dX12_isCompared_12 : decode cX12_isCompared 12 = .ok (.getfield 32, 3) := by decide +kernel
theorem dX12_isCompared_15 : decode cX12_isCompared 15 = .ok (.iload_n 1, 1) := by decide +kernel
theorem dX12_isCompared_16 : decode cX12_isCompared 16 = .ok (.iaload, 1) := by decide +kernel
theorem dX12_isCompared_17 : decode cX12_isCompared 17 = .ok (.invokestatic 174, 3) := by decide +kernel
theorem dX12_isCompared_20 : decode cX12_isCompared 20 = .ok (.iconst 4, 1) := by decide +kernel
theorem dX12_isCompared_21 : decode cX12_isCompared 21 = .ok (.if_icmp .le 9, 3) := by decide +kernel
theorem dX12_isCompared_24 : decode cX12_isCompared 24 = .ok (.iinc 1 (-1), 3) := by decide +kernel
theorem dX12_isCompared_27 : decode cX12_isCompared 27 = .ok (.goto (-20), 3) := by decide +kernel
theorem dX12_isCompared_30 : decode cX12_isCompared 30 = .ok (.iload_n 1, 1) := by decide +kernel
theorem dX12_isCompared_31 : decode cX12_isCompared 31 = .ok (.ifCond .lt 20, 3) := by decide +kernel
theorem dX12_isCompared_34 : decode cX12_isCompared 34 = .ok (.aload_n 0, 1) := by decide +kernel
theorem dX12_isCompared_35 : decode cX12_isCompared 35 = .ok (.getfield 32, 3) := by decide +kernel
theorem dX12_isCompared_38 : decode cX12_isCompared 38 = .ok (.iload_n 1, 1) := by decide +kernel
theorem dX12_isCompared_39 : decode cX12_isCompared 39 = .ok (.iaload, 1) := by decide +kernel
theorem dX12_isCompared_40 : decode cX12_isCompared 40 = .ok (.invokestatic 174, 3) := by decide +kernel
theorem dX12_isCompared_43 : decode cX12_isCompared 43 = .ok (.iconst 4, 1) := by decide +kernel
theorem dX12_isCompared_44 : decode cX12_isCompared 44 = .ok (.if_icmp .ne 7, 3) := by decide +kernel
theorem dX12_isCompared_47 : decode cX12_isCompared 47 = .ok (.iconst 1, 1) := by decide +kernel
theorem dX12_isCompared_48 : decode cX12_isCompared 48 = .ok (.goto 4, 3) := by decide +kernel
theorem dX12_isCompared_51 : decode cX12_isCompared 51 = .ok (.iconst 0, 1) := by decide +kernel
theorem dX12_isCompared_52 : decode cX12_isCompared 52 = .ok (.ireturn, 1) := by decide +kernel
theorem dX12_isAskAhead_0 : decode cX12_isAskAhead 0 = .ok (.aload_n 0, 1) := by decide +kernel
theorem dX12_isAskAhead_1 : decode cX12_isAskAhead 1 = .ok (.invokevirtual 184, 3) := by decide +kernel
theorem dX12_isAskAhead_4 : decode cX12_isAskAhead 4 = .ok (.ifCond .ne 36, 3) := by decide +kernel
theorem dX12_isAskAhead_7 : decode cX12_isAskAhead 7 = .ok (.aload_n 0, 1) := by decide +kernel
theorem dX12_isAskAhead_8 : decode cX12_isAskAhead 8 = .ok (.getfield 171, 3) := by decide +kernel
theorem dX12_isAskAhead_11 : decode cX12_isAskAhead 11 = .ok (.ifCond .eq 25, 3) := by decide +kernel
theorem dX12_isAskAhead_14 : decode cX12_isAskAhead 14 = .ok (.aload_n 0, 1) := by decide +kernel
theorem dX12_isAskAhead_15 : decode cX12_isAskAhead 15 = .ok (.getfield 32, 3) := by decide +kernel
theorem dX12_isAskAhead_18 : decode cX12_isAskAhead 18 = .ok (.aload_n 0, 1) := by decide +kernel
theorem dX12_isAskAhead_19 : decode cX12_isAskAhead 19 = .ok (.getfield 171, 3) := by decide +kernel
theorem dX12_isAskAhead_22 : decode cX12_isAskAhead 22 = .ok (.iconst 1, 1) := by decide +kernel
theorem dX12_isAskAhead_23 : decode cX12_isAskAhead 23 = .ok (.isub, 1) := by decide +kernel
theorem dX12_isAskAhead_24 : decode cX12_isAskAhead 24 = .ok (.iaload, 1) := by decide +kernel
theorem dX12_isAskAhead_25 : decode cX12_isAskAhead 25 = .ok (.invokestatic 174, 3) := by decide +kernel
theorem dX12_isAskAhead_28 : decode cX12_isAskAhead 28 = .ok (.iconst 1, 1) := by decide +kernel
theorem dX12_isAskAhead_29 : decode cX12_isAskAhead 29 = .ok (.iconst 3, 1) := by decide +kernel
theorem dX12_isAskAhead_30 : decode cX12_isAskAhead 30 = .ok (.invokestatic 80, 3) := by decide +kernel
theorem dX12_isAskAhead_33 : decode cX12_isAskAhead 33 = .ok (.ifCond .eq 7, 3) := by decide +kernel
theorem dX12_isAskAhead_36 : decode cX12_isAskAhead 36 = .ok (.iconst 1, 1) := by decide +kernel
theorem dX12_isAskAhead_37 : decode cX12_isAskAhead 37 = .ok (.goto 4, 3) := by decide +kernel
theorem dX12_isAskAhead_40 : decode cX12_isAskAhead 40 = .ok (.iconst 0, 1) := by decide +kernel
theorem dX12_isAskAhead_41 : decode cX12_isAskAhead 41 = .ok (.ireturn, 1) := by decide +kernel
theorem dX12_opened_0 : decode cX12_opened 0 = .ok (.aload_n 0, 1) := by decide +kernel
theorem dX12_opened_1 : decode cX12_opened 1 = .ok (.getfield 181, 3) := by decide +kernel
theorem dX12_opened_4 : decode cX12_opened 4 = .ok (.bipush 8, 2) := by decide +kernel
theorem dX12_opened_6 : decode cX12_opened 6 = .ok (.if_icmp .ne 5, 3) := by decide +kernel
theorem dX12_opened_9 : decode cX12_opened 9 = .ok (.iconst 3, 1) := by decide +kernel
theorem dX12_opened_10 : decode cX12_opened 10 = .ok (.ireturn, 1) := by decide +kernel
theorem dX12_opened_11 : decode cX12_opened 11 = .ok (.aload_n 0, 1) := by decide +kernel
theorem dX12_opened_12 : decode cX12_opened 12 = .ok (.dup, 1) := by decide +kernel
theorem dX12_opened_13 : decode cX12_opened 13 = .ok (.getfield 181, 3) := by decide +kernel
theorem dX12_opened_16 : decode cX12_opened 16 = .ok (.iconst 1, 1) := by decide +kernel
theorem dX12_opened_17 : decode cX12_opened 17 = .ok (.iadd, 1) := by decide +kernel
theorem dX12_opened_18 : decode cX12_opened 18 = .ok (.putfield 181, 3) := by decide +kernel
theorem dX12_opened_21 : decode cX12_opened 21 = .ok (.aload_n 0, 1) := by decide +kernel
theorem dX12_opened_22 : decode cX12_opened 22 = .ok (.getfield 32, 3) := by decide +kernel
theorem dX12_opened_25 : decode cX12_opened 25 = .ok (.aload_n 0, 1) := by decide +kernel
theorem dX12_opened_26 : decode cX12_opened 26 = .ok (.getfield 171, 3) := by decide +kernel
theorem dX12_opened_29 : decode cX12_opened 29 = .ok (.iload_n 1, 1) := by decide +kernel
theorem dX12_opened_30 : decode cX12_opened 30 = .ok (.iastore, 1) := by decide +kernel
theorem dX12_opened_31 : decode cX12_opened 31 = .ok (.aload_n 0, 1) := by decide +kernel
theorem dX12_opened_32 : decode cX12_opened 32 = .ok (.dup, 1) := by decide +kernel
theorem dX12_opened_33 : decode cX12_opened 33 = .ok (.getfield 171, 3) := by decide +kernel
theorem dX12_opened_36 : decode cX12_opened 36 = .ok (.iconst 1, 1) := by decide +kernel
theorem dX12_opened_37 : decode cX12_opened 37 = .ok (.iadd, 1) := by decide +kernel
theorem dX12_opened_38 : decode cX12_opened 38 = .ok (.putfield 171, 3) := by decide +kernel
theorem dX12_opened_41 : decode cX12_opened 41 = .ok (.aload_n 0, 1) := by decide +kernel
theorem dX12_opened_42 : decode cX12_opened 42 = .ok (.invokevirtual 187, 3) := by decide +kernel
theorem dX12_opened_45 : decode cX12_opened 45 = .ok (.iconst 0, 1) := by decide +kernel
theorem dX12_opened_46 : decode cX12_opened 46 = .ok (.ireturn, 1) := by decide +kernel
theorem dX12_beginOne_0 : decode cX12_beginOne 0 = .ok (.aload_n 0, 1) := by decide +kernel
theorem dX12_beginOne_1 : decode cX12_beginOne 1 = .ok (.getfield 113, 3) := by decide +kernel
theorem dX12_beginOne_4 : decode cX12_beginOne 4 = .ok (.iconst 1, 1) := by decide +kernel
theorem dX12_beginOne_5 : decode cX12_beginOne 5 = .ok (.if_icmp .ne 15, 3) := by decide +kernel
theorem dX12_beginOne_8 : decode cX12_beginOne 8 = .ok (.aload_n 0, 1) := by decide +kernel
theorem dX12_beginOne_9 : decode cX12_beginOne 9 = .ok (.getfield 119, 3) := by decide +kernel
theorem dX12_beginOne_12 : decode cX12_beginOne 12 = .ok (.sipush 9999, 3) := by decide +kernel
theorem dX12_beginOne_15 : decode cX12_beginOne 15 = .ok (.if_icmp .le 5, 3) := by decide +kernel
theorem dX12_beginOne_18 : decode cX12_beginOne 18 = .ok (.iconst 2, 1) := by decide +kernel
theorem dX12_beginOne_19 : decode cX12_beginOne 19 = .ok (.ireturn, 1) := by decide +kernel
theorem dX12_beginOne_20 : decode cX12_beginOne 20 = .ok (.aload_n 0, 1) := by decide +kernel
theorem dX12_beginOne_21 : decode cX12_beginOne 21 = .ok (.invokevirtual 190, 3) := by decide +kernel
theorem dX12_beginOne_24 : decode cX12_beginOne 24 = .ok (.istore_n 1, 1) := by decide +kernel
theorem dX12_beginOne_25 : decode cX12_beginOne 25 = .ok (.iload_n 1, 1) := by decide +kernel
theorem dX12_beginOne_26 : decode cX12_beginOne 26 = .ok (.ifCond .lt 13, 3) := by decide +kernel
theorem dX12_beginOne_29 : decode cX12_beginOne 29 = .ok (.aload_n 0, 1) := by decide +kernel
theorem dX12_beginOne_30 : decode cX12_beginOne 30 = .ok (.iload_n 1, 1) := by decide +kernel
theorem dX12_beginOne_31 : decode cX12_beginOne 31 = .ok (.invokevirtual 193, 3) := by decide +kernel
theorem dX12_beginOne_34 : decode cX12_beginOne 34 = .ok (.ifCond .ne 5, 3) := by decide +kernel
theorem dX12_beginOne_37 : decode cX12_beginOne 37 = .ok (.iconst 5, 1) := by decide +kernel
theorem dX12_beginOne_38 : decode cX12_beginOne 38 = .ok (.ireturn, 1) := by decide +kernel
theorem dX12_beginOne_39 : decode cX12_beginOne 39 = .ok (.aload_n 0, 1) := by decide +kernel
theorem dX12_beginOne_40 : decode cX12_beginOne 40 = .ok (.getfield 113, 3) := by decide +kernel
theorem dX12_beginOne_43 : decode cX12_beginOne 43 = .ok (.iconst 1, 1) := by decide +kernel
theorem dX12_beginOne_44 : decode cX12_beginOne 44 = .ok (.if_icmp .eq 7, 3) := by decide +kernel
theorem dX12_beginOne_47 : decode cX12_beginOne 47 = .ok (.iload_n 1, 1) := by decide +kernel
theorem dX12_beginOne_48 : decode cX12_beginOne 48 = .ok (.ifCond .lt 53, 3) := by decide +kernel
theorem dX12_beginOne_51 : decode cX12_beginOne 51 = .ok (.aload_n 0, 1) := by decide +kernel
theorem dX12_beginOne_52 : decode cX12_beginOne 52 = .ok (.aload_n 0, 1) := by decide +kernel
theorem dX12_beginOne_53 : decode cX12_beginOne 53 = .ok (.getfield 113, 3) := by decide +kernel
theorem dX12_beginOne_56 : decode cX12_beginOne 56 = .ok (.iconst 1, 1) := by decide +kernel
theorem dX12_beginOne_57 : decode cX12_beginOne 57 = .ok (.if_icmp .ne 7, 3) := by decide +kernel
theorem dX12_beginOne_60 : decode cX12_beginOne 60 = .ok (.iconst 0, 1) := by decide +kernel
theorem dX12_beginOne_61 : decode cX12_beginOne 61 = .ok (.goto 4, 3) := by decide +kernel
theorem dX12_beginOne_64 : decode cX12_beginOne 64 = .ok (.iconst 1, 1) := by decide +kernel
theorem dX12_beginOne_65 : decode cX12_beginOne 65 = .ok (.aload_n 0, 1) := by decide +kernel
theorem dX12_beginOne_66 : decode cX12_beginOne 66 = .ok (.getfield 113, 3) := by decide +kernel
theorem dX12_beginOne_69 : decode cX12_beginOne 69 = .ok (.iconst 1, 1) := by decide +kernel
theorem dX12_beginOne_70 : decode cX12_beginOne 70 = .ok (.if_icmp .ne 10, 3) := by decide +kernel
theorem dX12_beginOne_73 : decode cX12_beginOne 73 = .ok (.aload_n 0, 1) := by decide +kernel
theorem dX12_beginOne_74 : decode cX12_beginOne 74 = .ok (.getfield 119, 3) := by decide +kernel
theorem dX12_beginOne_77 : decode cX12_beginOne 77 = .ok (.goto 4, 3) := by decide +kernel
theorem dX12_beginOne_80 : decode cX12_beginOne 80 = .ok (.iload_n 1, 1) := by decide +kernel
theorem dX12_beginOne_81 : decode cX12_beginOne 81 = .ok (.invokevirtual 177, 3) := by decide +kernel
theorem dX12_beginOne_84 : decode cX12_beginOne 84 = .ok (.aload_n 0, 1) := by decide +kernel
theorem dX12_beginOne_85 : decode cX12_beginOne 85 = .ok (.invokevirtual 187, 3) := by decide +kernel
theorem dX12_beginOne_88 : decode cX12_beginOne 88 = .ok (.aload_n 0, 1) := by decide +kernel
theorem dX12_beginOne_89 : decode cX12_beginOne 89 = .ok (.iconst 1, 1) := by decide +kernel
theorem dX12_beginOne_90 : decode cX12_beginOne 90 = .ok (.putfield 196, 3) := by decide +kernel
theorem dX12_beginOne_93 : decode cX12_beginOne 93 = .ok (.aload_n 0, 1) := by decide +kernel
theorem dX12_beginOne_94 : decode cX12_beginOne 94 = .ok (.bipush 8, 2) := by decide +kernel
theorem dX12_beginOne_96 : decode cX12_beginOne 96 = .ok (.invokevirtual 200, 3) := by decide +kernel
theorem dX12_beginOne_99 : decode cX12_beginOne 99 = .ok (.iconst 0, 1) := by decide +kernel
theorem dX12_beginOne_100 : decode cX12_beginOne 100 = .ok (.ireturn, 1) := by decide +kernel
theorem dX12_beginOne_101 : decode cX12_beginOne 101 = .ok (.aload_n 0, 1) := by decide +kernel
theorem dX12_beginOne_102 : decode cX12_beginOne 102 = .ok (.getfield 113, 3) := by decide +kernel
theorem dX12_beginOne_105 : decode cX12_beginOne 105 = .ok (.bipush 40, 2) := by decide +kernel
theorem dX12_beginOne_107 : decode cX12_beginOne 107 = .ok (.if_icmp .ne 10, 3) := by decide +kernel
theorem dX12_beginOne_110 : decode cX12_beginOne 110 = .ok (.aload_n 0, 1) := by decide +kernel
theorem dX12_beginOne_111 : decode cX12_beginOne 111 = .ok (.bipush 40, 2) := by decide +kernel
theorem dX12_beginOne_113 : decode cX12_beginOne 113 = .ok (.invokevirtual 203, 3) := by decide +kernel
theorem dX12_beginOne_116 : decode cX12_beginOne 116 = .ok (.ireturn, 1) := by decide +kernel
theorem dX12_beginOne_117 : decode cX12_beginOne 117 = .ok (.aload_n 0, 1) := by decide +kernel
theorem dX12_beginOne_118 : decode cX12_beginOne 118 = .ok (.getfield 113, 3) := by decide +kernel
theorem dX12_beginOne_121 : decode cX12_beginOne 121 = .ok (.bipush 45, 2) := by decide +kernel
theorem dX12_beginOne_123 : decode cX12_beginOne 123 = .ok (.if_icmp .ne 9, 3) := by decide +kernel
theorem dX12_beginOne_126 : decode cX12_beginOne 126 = .ok (.aload_n 0, 1) := by decide +kernel
theorem dX12_beginOne_127 : decode cX12_beginOne 127 = .ok (.iconst 2, 1) := by decide +kernel
theorem dX12_beginOne_128 : decode cX12_beginOne 128 = .ok (.invokevirtual 203, 3) := by decide +kernel
theorem dX12_beginOne_131 : decode cX12_beginOne 131 = .ok (.ireturn, 1) := by decide +kernel
theorem dX12_beginOne_132 : decode cX12_beginOne 132 = .ok (.aload_n 0, 1) := by decide +kernel
theorem dX12_beginOne_133 : decode cX12_beginOne 133 = .ok (.bipush 110, 2) := by decide +kernel
theorem dX12_beginOne_135 : decode cX12_beginOne 135 = .ok (.bipush 111, 2) := by decide +kernel
theorem dX12_beginOne_137 : decode cX12_beginOne 137 = .ok (.bipush 116, 2) := by decide +kernel
theorem dX12_beginOne_139 : decode cX12_beginOne 139 = .ok (.invokestatic 139, 3) := by decide +kernel
theorem dX12_beginOne_142 : decode cX12_beginOne 142 = .ok (.invokevirtual 206, 3) := by decide +kernel
theorem dX12_beginOne_145 : decode cX12_beginOne 145 = .ok (.ifCond .eq 19, 3) := by decide +kernel
theorem dX12_beginOne_148 : decode cX12_beginOne 148 = .ok (.aload_n 0, 1) := by decide +kernel
theorem dX12_beginOne_149 : decode cX12_beginOne 149 = .ok (.invokevirtual 210, 3) := by decide +kernel
theorem dX12_beginOne_152 : decode cX12_beginOne 152 = .ok (.ifCond .eq 12, 3) := by decide +kernel
theorem dX12_beginOne_155 : decode cX12_beginOne 155 = .ok (.aload_n 0, 1) := by decide +kernel
theorem dX12_beginOne_156 : decode cX12_beginOne 156 = .ok (.bipush 20, 2) := by decide +kernel
theorem dX12_beginOne_158 : decode cX12_beginOne 158 = .ok (.invokevirtual 203, 3) := by decide +kernel
theorem dX12_beginOne_161 : decode cX12_beginOne 161 = .ok (.goto 4, 3) := by decide +kernel
theorem dX12_beginOne_164 : decode cX12_beginOne 164 = .ok (.iconst 1, 1) := by decide +kernel
theorem dX12_beginOne_165 : decode cX12_beginOne 165 = .ok (.ireturn, 1) := by decide +kernel
theorem dX12_compareOf_0 : decode cX12_compareOf 0 = .ok (.aload_n 0, 1) := by decide +kernel
theorem dX12_compareOf_1 : decode cX12_compareOf 1 = .ok (.getfield 113, 3) := by decide +kernel
theorem dX12_compareOf_4 : decode cX12_compareOf 4 = .ok (.bipush 60, 2) := by decide +kernel
theorem dX12_compareOf_6 : decode cX12_compareOf 6 = .ok (.if_icmp .ne 8, 3) := by decide +kernel
theorem dX12_compareOf_9 : decode cX12_compareOf 9 = .ok (.bipush 10, 2) := by decide +kernel
theorem dX12_compareOf_11 : decode cX12_compareOf 11 = .ok (.goto 72, 3) := by decide +kernel
theorem dX12_compareOf_14 : decode cX12_compareOf 14 = .ok (.aload_n 0, 1) := by decide +kernel
theorem dX12_compareOf_15 : decode cX12_compareOf 15 = .ok (.getfield 113, 3) := by decide +kernel
theorem dX12_compareOf_18 : decode cX12_compareOf 18 = .ok (.iconst 4, 1) := by decide +kernel
theorem dX12_compareOf_19 : decode cX12_compareOf 19 = .ok (.if_icmp .ne 8, 3) := by decide +kernel
theorem dX12_compareOf_22 : decode cX12_compareOf 22 = .ok (.bipush 11, 2) := by decide +kernel
theorem dX12_compareOf_24 : decode cX12_compareOf 24 = .ok (.goto 59, 3) := by decide +kernel
theorem dX12_compareOf_27 : decode cX12_compareOf 27 = .ok (.aload_n 0, 1) := by decide +kernel
theorem dX12_compareOf_28 : decode cX12_compareOf 28 = .ok (.getfield 113, 3) := by decide +kernel
theorem dX12_compareOf_31 : decode cX12_compareOf 31 = .ok (.bipush 62, 2) := by decide +kernel
theorem dX12_compareOf_33 : decode cX12_compareOf 33 = .ok (.if_icmp .ne 8, 3) := by decide +kernel
theorem dX12_compareOf_36 : decode cX12_compareOf 36 = .ok (.bipush 12, 2) := by decide +kernel
theorem dX12_compareOf_38 : decode cX12_compareOf 38 = .ok (.goto 45, 3) := by decide +kernel
theorem dX12_compareOf_41 : decode cX12_compareOf 41 = .ok (.aload_n 0, 1) := by decide +kernel
theorem dX12_compareOf_42 : decode cX12_compareOf 42 = .ok (.getfield 113, 3) := by decide +kernel
theorem dX12_compareOf_45 : decode cX12_compareOf 45 = .ok (.iconst 5, 1) := by decide +kernel
theorem dX12_compareOf_46 : decode cX12_compareOf 46 = .ok (.if_icmp .ne 8, 3) := by decide +kernel
theorem dX12_compareOf_49 : decode cX12_compareOf 49 = .ok (.bipush 13, 2) := by decide +kernel
theorem dX12_compareOf_51 : decode cX12_compareOf 51 = .ok (.goto 32, 3) := by decide +kernel
theorem dX12_compareOf_54 : decode cX12_compareOf 54 = .ok (.aload_n 0, 1) := by decide +kernel
theorem dX12_compareOf_55 : decode cX12_compareOf 55 = .ok (.getfield 113, 3) := by decide +kernel
theorem dX12_compareOf_58 : decode cX12_compareOf 58 = .ok (.bipush 61, 2) := by decide +kernel
theorem dX12_compareOf_60 : decode cX12_compareOf 60 = .ok (.if_icmp .ne 8, 3) := by decide +kernel
theorem dX12_compareOf_63 : decode cX12_compareOf 63 = .ok (.bipush 14, 2) := by decide +kernel
theorem dX12_compareOf_65 : decode cX12_compareOf 65 = .ok (.goto 18, 3) := by decide +kernel
theorem dX12_compareOf_68 : decode cX12_compareOf 68 = .ok (.aload_n 0, 1) := by decide +kernel
theorem dX12_compareOf_69 : decode cX12_compareOf 69 = .ok (.getfield 113, 3) := by decide +kernel
theorem dX12_compareOf_72 : decode cX12_compareOf 72 = .ok (.bipush 35, 2) := by decide +kernel
theorem dX12_compareOf_74 : decode cX12_compareOf 74 = .ok (.if_icmp .ne 8, 3) := by decide +kernel
theorem dX12_compareOf_77 : decode cX12_compareOf 77 = .ok (.bipush 15, 2) := by decide +kernel
theorem dX12_compareOf_79 : decode cX12_compareOf 79 = .ok (.goto 4, 3) := by decide +kernel
theorem dX12_compareOf_82 : decode cX12_compareOf 82 = .ok (.iconst (-1), 1) := by decide +kernel
theorem dX12_compareOf_83 : decode cX12_compareOf 83 = .ok (.ireturn, 1) := by decide +kernel
theorem dX12_betweenOf_0 : decode cX12_betweenOf 0 = .ok (.aload_n 0, 1) := by decide +kernel
theorem dX12_betweenOf_1 : decode cX12_betweenOf 1 = .ok (.getfield 113, 3) := by decide +kernel
theorem dX12_betweenOf_4 : decode cX12_betweenOf 4 = .ok (.bipush 43, 2) := by decide +kernel
theorem dX12_betweenOf_6 : decode cX12_betweenOf 6 = .ok (.if_icmp .ne 5, 3) := by decide +kernel
theorem dX12_betweenOf_9 : decode cX12_betweenOf 9 = .ok (.iconst 3, 1) := by decide +kernel
theorem dX12_betweenOf_10 : decode cX12_betweenOf 10 = .ok (.ireturn, 1) := by decide +kernel
theorem dX12_betweenOf_11 : decode cX12_betweenOf 11 = .ok (.aload_n 0, 1) := by decide +kernel
theorem dX12_betweenOf_12 : decode cX12_betweenOf 12 = .ok (.getfield 113, 3) := by decide +kernel
theorem dX12_betweenOf_15 : decode cX12_betweenOf 15 = .ok (.bipush 45, 2) := by decide +kernel
theorem dX12_betweenOf_17 : decode cX12_betweenOf 17 = .ok (.if_icmp .ne 5, 3) := by decide +kernel
theorem dX12_betweenOf_20 : decode cX12_betweenOf 20 = .ok (.iconst 4, 1) := by decide +kernel
theorem dX12_betweenOf_21 : decode cX12_betweenOf 21 = .ok (.ireturn, 1) := by decide +kernel
theorem dX12_betweenOf_22 : decode cX12_betweenOf 22 = .ok (.aload_n 0, 1) := by decide +kernel
theorem dX12_betweenOf_23 : decode cX12_betweenOf 23 = .ok (.getfield 113, 3) := by decide +kernel
theorem dX12_betweenOf_26 : decode cX12_betweenOf 26 = .ok (.bipush 42, 2) := by decide +kernel
theorem dX12_betweenOf_28 : decode cX12_betweenOf 28 = .ok (.if_icmp .ne 5, 3) := by decide +kernel
theorem dX12_betweenOf_31 : decode cX12_betweenOf 31 = .ok (.iconst 5, 1) := by decide +kernel
theorem dX12_betweenOf_32 : decode cX12_betweenOf 32 = .ok (.ireturn, 1) := by decide +kernel
theorem dX12_betweenOf_33 : decode cX12_betweenOf 33 = .ok (.aload_n 0, 1) := by decide +kernel
theorem dX12_betweenOf_34 : decode cX12_betweenOf 34 = .ok (.getfield 113, 3) := by decide +kernel
theorem dX12_betweenOf_37 : decode cX12_betweenOf 37 = .ok (.bipush 47, 2) := by decide +kernel
theorem dX12_betweenOf_39 : decode cX12_betweenOf 39 = .ok (.if_icmp .ne 6, 3) := by decide +kernel
theorem dX12_betweenOf_42 : decode cX12_betweenOf 42 = .ok (.bipush 6, 2) := by decide +kernel
theorem dX12_betweenOf_44 : decode cX12_betweenOf 44 = .ok (.ireturn, 1) := by decide +kernel
theorem dX12_betweenOf_45 : decode cX12_betweenOf 45 = .ok (.aload_n 0, 1) := by decide +kernel
theorem dX12_betweenOf_46 : decode cX12_betweenOf 46 = .ok (.getfield 113, 3) := by decide +kernel
theorem dX12_betweenOf_49 : decode cX12_betweenOf 49 = .ok (.bipush 94, 2) := by decide +kernel
theorem dX12_betweenOf_51 : decode cX12_betweenOf 51 = .ok (.if_icmp .ne 6, 3) := by decide +kernel
theorem dX12_betweenOf_54 : decode cX12_betweenOf 54 = .ok (.bipush 7, 2) := by decide +kernel
theorem dX12_betweenOf_56 : decode cX12_betweenOf 56 = .ok (.ireturn, 1) := by decide +kernel
theorem dX12_betweenOf_57 : decode cX12_betweenOf 57 = .ok (.aload_n 0, 1) := by decide +kernel
theorem dX12_betweenOf_58 : decode cX12_betweenOf 58 = .ok (.invokevirtual 184, 3) := by decide +kernel
theorem dX12_betweenOf_61 : decode cX12_betweenOf 61 = .ok (.ifCond .eq 5, 3) := by decide +kernel
theorem dX12_betweenOf_64 : decode cX12_betweenOf 64 = .ok (.iconst (-1), 1) := by decide +kernel
theorem dX12_betweenOf_65 : decode cX12_betweenOf 65 = .ok (.ireturn, 1) := by decide +kernel
theorem dX12_betweenOf_66 : decode cX12_betweenOf 66 = .ok (.aload_n 0, 1) := by decide +kernel
theorem dX12_betweenOf_67 : decode cX12_betweenOf 67 = .ok (.invokevirtual 213, 3) := by decide +kernel
theorem dX12_betweenOf_70 : decode cX12_betweenOf 70 = .ok (.ifCond .ne 8, 3) := by decide +kernel
theorem dX12_betweenOf_73 : decode cX12_betweenOf 73 = .ok (.aload_n 0, 1) := by decide +kernel
theorem dX12_betweenOf_74 : decode cX12_betweenOf 74 = .ok (.invokevirtual 216, 3) := by decide +kernel
theorem dX12_betweenOf_77 : decode cX12_betweenOf 77 = .ok (.ireturn, 1) := by decide +kernel
theorem dX12_betweenOf_78 : decode cX12_betweenOf 78 = .ok (.aload_n 0, 1) := by decide +kernel
theorem dX12_betweenOf_79 : decode cX12_betweenOf 79 = .ok (.bipush 97, 2) := by decide +kernel
theorem dX12_betweenOf_81 : decode cX12_betweenOf 81 = .ok (.bipush 110, 2) := by decide +kernel
theorem dX12_betweenOf_83 : decode cX12_betweenOf 83 = .ok (.bipush 100, 2) := by decide +kernel
theorem dX12_betweenOf_85 : decode cX12_betweenOf 85 = .ok (.invokestatic 139, 3) := by decide +kernel
theorem dX12_betweenOf_88 : decode cX12_betweenOf 88 = .ok (.invokevirtual 206, 3) := by decide +kernel
theorem dX12_betweenOf_91 : decode cX12_betweenOf 91 = .ok (.ifCond .eq 8, 3) := by decide +kernel
theorem dX12_betweenOf_94 : decode cX12_betweenOf 94 = .ok (.bipush 21, 2) := by decide +kernel
theorem dX12_betweenOf_96 : decode cX12_betweenOf 96 = .ok (.goto 23, 3) := by decide +kernel
theorem dX12_betweenOf_99 : decode cX12_betweenOf 99 = .ok (.aload_n 0, 1) := by decide +kernel
theorem dX12_betweenOf_100 : decode cX12_betweenOf 100 = .ok (.bipush 111, 2) := by decide +kernel
theorem dX12_betweenOf_102 : decode cX12_betweenOf 102 = .ok (.bipush 114, 2) := by decide +kernel
theorem dX12_betweenOf_104 : decode cX12_betweenOf 104 = .ok (.invokestatic 135, 3) := by decide +kernel
theorem dX12_betweenOf_107 : decode cX12_betweenOf 107 = .ok (.invokevirtual 206, 3) := by decide +kernel
theorem dX12_betweenOf_110 : decode cX12_betweenOf 110 = .ok (.ifCond .eq 8, 3) := by decide +kernel
theorem dX12_betweenOf_113 : decode cX12_betweenOf 113 = .ok (.bipush 22, 2) := by decide +kernel
theorem dX12_betweenOf_115 : decode cX12_betweenOf 115 = .ok (.goto 4, 3) := by decide +kernel
theorem dX12_betweenOf_118 : decode cX12_betweenOf 118 = .ok (.iconst (-1), 1) := by decide +kernel
theorem dX12_betweenOf_119 : decode cX12_betweenOf 119 = .ok (.ireturn, 1) := by decide +kernel
theorem dX12_behindOne_0 : decode cX12_behindOne 0 = .ok (.aload_n 0, 1) := by decide +kernel
theorem dX12_behindOne_1 : decode cX12_behindOne 1 = .ok (.invokevirtual 219, 3) := by decide +kernel
theorem dX12_behindOne_4 : decode cX12_behindOne 4 = .ok (.istore_n 1, 1) := by decide +kernel
theorem dX12_behindOne_5 : decode cX12_behindOne 5 = .ok (.iload_n 1, 1) := by decide +kernel
theorem dX12_behindOne_6 : decode cX12_behindOne 6 = .ok (.bipush 7, 2) := by decide +kernel
theorem dX12_behindOne_8 : decode cX12_behindOne 8 = .ok (.if_icmp .ne 15, 3) := by decide +kernel
theorem dX12_behindOne_11 : decode cX12_behindOne 11 = .ok (.aload_n 0, 1) := by decide +kernel
theorem dX12_behindOne_12 : decode cX12_behindOne 12 = .ok (.iconst 0, 1) := by decide +kernel
theorem dX12_behindOne_13 : decode cX12_behindOne 13 = .ok (.putfield 196, 3) := by decide +kernel
theorem dX12_behindOne_16 : decode cX12_behindOne 16 = .ok (.aload_n 0, 1) := by decide +kernel
theorem dX12_behindOne_17 : decode cX12_behindOne 17 = .ok (.bipush 7, 2) := by decide +kernel
theorem dX12_behindOne_19 : decode cX12_behindOne 19 = .ok (.invokevirtual 203, 3) := by decide +kernel
theorem dX12_behindOne_22 : decode cX12_behindOne 22 = .ok (.ireturn, 1) := by decide +kernel
theorem dX12_behindOne_23 : decode cX12_behindOne 23 = .ok (.iload_n 1, 1) := by decide +kernel
theorem dX12_behindOne_24 : decode cX12_behindOne 24 = .ok (.ifCond .lt 42, 3) := by decide +kernel
theorem dX12_behindOne_27 : decode cX12_behindOne 27 = .ok (.aload_n 0, 1) := by decide +kernel
theorem dX12_behindOne_28 : decode cX12_behindOne 28 = .ok (.iload_n 1, 1) := by decide +kernel
theorem dX12_behindOne_29 : decode cX12_behindOne 29 = .ok (.invokestatic 174, 3) := by decide +kernel
theorem dX12_behindOne_32 : decode cX12_behindOne 32 = .ok (.invokevirtual 200, 3) := by decide +kernel
theorem dX12_behindOne_35 : decode cX12_behindOne 35 = .ok (.aload_n 0, 1) := by decide +kernel
theorem dX12_behindOne_36 : decode cX12_behindOne 36 = .ok (.getfield 32, 3) := by decide +kernel
theorem dX12_behindOne_39 : decode cX12_behindOne 39 = .ok (.aload_n 0, 1) := by decide +kernel
theorem dX12_behindOne_40 : decode cX12_behindOne 40 = .ok (.getfield 171, 3) := by decide +kernel
theorem dX12_behindOne_43 : decode cX12_behindOne 43 = .ok (.iload_n 1, 1) := by decide +kernel
theorem dX12_behindOne_44 : decode cX12_behindOne 44 = .ok (.iastore, 1) := by decide +kernel
theorem dX12_behindOne_45 : decode cX12_behindOne 45 = .ok (.aload_n 0, 1) := by decide +kernel
theorem dX12_behindOne_46 : decode cX12_behindOne 46 = .ok (.dup, 1) := by decide +kernel
theorem dX12_behindOne_47 : decode cX12_behindOne 47 = .ok (.getfield 171, 3) := by decide +kernel
theorem dX12_behindOne_50 : decode cX12_behindOne 50 = .ok (.iconst 1, 1) := by decide +kernel
theorem dX12_behindOne_51 : decode cX12_behindOne 51 = .ok (.iadd, 1) := by decide +kernel
theorem dX12_behindOne_52 : decode cX12_behindOne 52 = .ok (.putfield 171, 3) := by decide +kernel
theorem dX12_behindOne_55 : decode cX12_behindOne 55 = .ok (.aload_n 0, 1) := by decide +kernel
theorem dX12_behindOne_56 : decode cX12_behindOne 56 = .ok (.iconst 0, 1) := by decide +kernel
theorem dX12_behindOne_57 : decode cX12_behindOne 57 = .ok (.putfield 196, 3) := by decide +kernel
theorem dX12_behindOne_60 : decode cX12_behindOne 60 = .ok (.aload_n 0, 1) := by decide +kernel
theorem dX12_behindOne_61 : decode cX12_behindOne 61 = .ok (.invokevirtual 187, 3) := by decide +kernel
theorem dX12_behindOne_64 : decode cX12_behindOne 64 = .ok (.iconst 0, 1) := by decide +kernel
theorem dX12_behindOne_65 : decode cX12_behindOne 65 = .ok (.ireturn, 1) := by decide +kernel
theorem dX12_behindOne_66 : decode cX12_behindOne 66 = .ok (.aload_n 0, 1) := by decide +kernel
theorem dX12_behindOne_67 : decode cX12_behindOne 67 = .ok (.invokevirtual 184, 3) := by decide +kernel
theorem dX12_behindOne_70 : decode cX12_behindOne 70 = .ok (.ifCond .eq 12, 3) := by decide +kernel
theorem dX12_behindOne_73 : decode cX12_behindOne 73 = .ok (.aload_n 0, 1) := by decide +kernel
theorem dX12_behindOne_74 : decode cX12_behindOne 74 = .ok (.getfield 113, 3) := by decide +kernel
theorem dX12_behindOne_77 : decode cX12_behindOne 77 = .ok (.bipush 41, 2) := by decide +kernel
theorem dX12_behindOne_79 : decode cX12_behindOne 79 = .ok (.if_icmp .eq 5, 3) := by decide +kernel
theorem dX12_behindOne_82 : decode cX12_behindOne 82 = .ok (.iconst (-1), 1) := by decide +kernel
theorem dX12_behindOne_83 : decode cX12_behindOne 83 = .ok (.ireturn, 1) := by decide +kernel
theorem dX12_behindOne_84 : decode cX12_behindOne 84 = .ok (.aload_n 0, 1) := by decide +kernel
theorem dX12_behindOne_85 : decode cX12_behindOne 85 = .ok (.iconst 1, 1) := by decide +kernel
theorem dX12_behindOne_86 : decode cX12_behindOne 86 = .ok (.invokevirtual 200, 3) := by decide +kernel
theorem dX12_behindOne_89 : decode cX12_behindOne 89 = .ok (.aload_n 0, 1) := by decide +kernel
theorem dX12_behindOne_90 : decode cX12_behindOne 90 = .ok (.dup, 1) := by decide +kernel
theorem dX12_behindOne_91 : decode cX12_behindOne 91 = .ok (.getfield 171, 3) := by decide +kernel
theorem dX12_behindOne_94 : decode cX12_behindOne 94 = .ok (.iconst 1, 1) := by decide +kernel
theorem dX12_behindOne_95 : decode cX12_behindOne 95 = .ok (.isub, 1) := by decide +kernel
theorem dX12_behindOne_96 : decode cX12_behindOne 96 = .ok (.putfield 171, 3) := by decide +kernel
theorem dX12_behindOne_99 : decode cX12_behindOne 99 = .ok (.aload_n 0, 1) := by decide +kernel
theorem dX12_behindOne_100 : decode cX12_behindOne 100 = .ok (.dup, 1) := by decide +kernel
theorem dX12_behindOne_101 : decode cX12_behindOne 101 = .ok (.getfield 181, 3) := by decide +kernel
theorem dX12_behindOne_104 : decode cX12_behindOne 104 = .ok (.iconst 1, 1) := by decide +kernel
theorem dX12_behindOne_105 : decode cX12_behindOne 105 = .ok (.isub, 1) := by decide +kernel
theorem dX12_behindOne_106 : decode cX12_behindOne 106 = .ok (.putfield 181, 3) := by decide +kernel
theorem dX12_behindOne_109 : decode cX12_behindOne 109 = .ok (.aload_n 0, 1) := by decide +kernel
theorem dX12_behindOne_110 : decode cX12_behindOne 110 = .ok (.invokevirtual 187, 3) := by decide +kernel
theorem dX12_behindOne_113 : decode cX12_behindOne 113 = .ok (.aload_n 0, 1) := by decide +kernel
theorem dX12_behindOne_114 : decode cX12_behindOne 114 = .ok (.bipush 8, 2) := by decide +kernel
theorem dX12_behindOne_116 : decode cX12_behindOne 116 = .ok (.invokevirtual 200, 3) := by decide +kernel
theorem dX12_behindOne_119 : decode cX12_behindOne 119 = .ok (.iconst 0, 1) := by decide +kernel
theorem dX12_behindOne_120 : decode cX12_behindOne 120 = .ok (.ireturn, 1) := by decide +kernel
theorem dX12_either_0 : decode cX12_either 0 = .ok (.aload_n 0, 1) := by decide +kernel
theorem dX12_either_1 : decode cX12_either 1 = .ok (.iconst 0, 1) := by decide +kernel
theorem dX12_either_2 : decode cX12_either 2 = .ok (.putfield 171, 3) := by decide +kernel
theorem dX12_either_5 : decode cX12_either 5 = .ok (.aload_n 0, 1) := by decide +kernel
theorem dX12_either_6 : decode cX12_either 6 = .ok (.iconst 0, 1) := by decide +kernel
theorem dX12_either_7 : decode cX12_either 7 = .ok (.putfield 181, 3) := by decide +kernel
theorem dX12_either_10 : decode cX12_either 10 = .ok (.aload_n 0, 1) := by decide +kernel
theorem dX12_either_11 : decode cX12_either 11 = .ok (.iconst 0, 1) := by decide +kernel
theorem dX12_either_12 : decode cX12_either 12 = .ok (.putfield 196, 3) := by decide +kernel
theorem dX12_either_15 : decode cX12_either 15 = .ok (.aload_n 0, 1) := by decide +kernel
theorem dX12_either_16 : decode cX12_either 16 = .ok (.getfield 196, 3) := by decide +kernel
theorem dX12_either_19 : decode cX12_either 19 = .ok (.ifCond .eq 10, 3) := by decide +kernel
theorem dX12_either_22 : decode cX12_either 22 = .ok (.aload_n 0, 1) := by decide +kernel
theorem dX12_either_23 : decode cX12_either 23 = .ok (.invokevirtual 222, 3) := by decide +kernel
theorem dX12_either_26 : decode cX12_either 26 = .ok (.goto 7, 3) := by decide +kernel
theorem dX12_either_29 : decode cX12_either 29 = .ok (.aload_n 0, 1) := by decide +kernel
theorem dX12_either_30 : decode cX12_either 30 = .ok (.invokevirtual 225, 3) := by decide +kernel
theorem dX12_either_33 : decode cX12_either 33 = .ok (.istore_n 1, 1) := by decide +kernel
theorem dX12_either_34 : decode cX12_either 34 = .ok (.iload_n 1, 1) := by decide +kernel
theorem dX12_either_35 : decode cX12_either 35 = .ok (.ifCond .le 5, 3) := by decide +kernel
theorem dX12_either_38 : decode cX12_either 38 = .ok (.iload_n 1, 1) := by decide +kernel
theorem dX12_either_39 : decode cX12_either 39 = .ok (.ireturn, 1) := by decide +kernel
theorem dX12_either_40 : decode cX12_either 40 = .ok (.iload_n 1, 1) := by decide +kernel
theorem dX12_either_41 : decode cX12_either 41 = .ok (.ifCond .ne 6, 3) := by decide +kernel
theorem dX12_either_44 : decode cX12_either 44 = .ok (.goto (-29), 3) := by decide +kernel
theorem dX12_either_47 : decode cX12_either 47 = .ok (.aload_n 0, 1) := by decide +kernel
theorem dX12_either_48 : decode cX12_either 48 = .ok (.invokevirtual 184, 3) := by decide +kernel
theorem dX12_either_51 : decode cX12_either 51 = .ok (.ifCond .ne 10, 3) := by decide +kernel
theorem dX12_either_54 : decode cX12_either 54 = .ok (.aload_n 0, 1) := by decide +kernel
theorem dX12_either_55 : decode cX12_either 55 = .ok (.invokevirtual 213, 3) := by decide +kernel
theorem dX12_either_58 : decode cX12_either 58 = .ok (.ifCond .ne 5, 3) := by decide +kernel
theorem dX12_either_61 : decode cX12_either 61 = .ok (.iconst 1, 1) := by decide +kernel
theorem dX12_either_62 : decode cX12_either 62 = .ok (.ireturn, 1) := by decide +kernel
theorem dX12_either_63 : decode cX12_either 63 = .ok (.aload_n 0, 1) := by decide +kernel
theorem dX12_either_64 : decode cX12_either 64 = .ok (.iconst 1, 1) := by decide +kernel
theorem dX12_either_65 : decode cX12_either 65 = .ok (.invokevirtual 200, 3) := by decide +kernel
theorem dX12_either_68 : decode cX12_either 68 = .ok (.iconst 0, 1) := by decide +kernel
theorem dX12_either_69 : decode cX12_either 69 = .ok (.ireturn, 1) := by decide +kernel
theorem dX12_figure_0 : decode cX12_figure 0 = .ok (.aload_n 0, 1) := by decide +kernel
theorem dX12_figure_1 : decode cX12_figure 1 = .ok (.getfield 113, 3) := by decide +kernel
theorem dX12_figure_4 : decode cX12_figure 4 = .ok (.iconst 1, 1) := by decide +kernel
theorem dX12_figure_5 : decode cX12_figure 5 = .ok (.if_icmp .eq 5, 3) := by decide +kernel
theorem dX12_figure_8 : decode cX12_figure 8 = .ok (.iconst 1, 1) := by decide +kernel
theorem dX12_figure_9 : decode cX12_figure 9 = .ok (.ireturn, 1) := by decide +kernel
theorem dX12_figure_10 : decode cX12_figure 10 = .ok (.aload_n 0, 1) := by decide +kernel
theorem dX12_figure_11 : decode cX12_figure 11 = .ok (.getfield 119, 3) := by decide +kernel
theorem dX12_figure_14 : decode cX12_figure 14 = .ok (.iload_n 2, 1) := by decide +kernel
theorem dX12_figure_15 : decode cX12_figure 15 = .ok (.iload_n 3, 1) := by decide +kernel
theorem dX12_figure_16 : decode cX12_figure 16 = .ok (.invokestatic 80, 3) := by decide +kernel
theorem dX12_figure_19 : decode cX12_figure 19 = .ok (.ifCond .ne 5, 3) := by decide +kernel
theorem dX12_figure_22 : decode cX12_figure 22 = .ok (.iconst 2, 1) := by decide +kernel
theorem dX12_figure_23 : decode cX12_figure 23 = .ok (.ireturn, 1) := by decide +kernel
theorem dX12_figure_24 : decode cX12_figure 24 = .ok (.aload_n 0, 1) := by decide +kernel
theorem dX12_figure_25 : decode cX12_figure 25 = .ok (.getfield 16, 3) := by decide +kernel
theorem dX12_figure_28 : decode cX12_figure 28 = .ok (.iload_n 1, 1) := by decide +kernel
theorem dX12_figure_29 : decode cX12_figure 29 = .ok (.aload_n 0, 1) := by decide +kernel
theorem dX12_figure_30 : decode cX12_figure 30 = .ok (.getfield 119, 3) := by decide +kernel
theorem dX12_figure_33 : decode cX12_figure 33 = .ok (.iastore, 1) := by decide +kernel
theorem dX12_figure_34 : decode cX12_figure 34 = .ok (.aload_n 0, 1) := by decide +kernel
theorem dX12_figure_35 : decode cX12_figure 35 = .ok (.invokevirtual 187, 3) := by decide +kernel
theorem dX12_figure_38 : decode cX12_figure 38 = .ok (.iconst 0, 1) := by decide +kernel
theorem dX12_figure_39 : decode cX12_figure 39 = .ok (.ireturn, 1) := by decide +kernel
theorem dX12_worded_0 : decode cX12_worded 0 = .ok (.aload_n 0, 1) := by decide +kernel
theorem dX12_worded_1 : decode cX12_worded 1 = .ok (.lload_n 1, 1) := by decide +kernel
theorem dX12_worded_2 : decode cX12_worded 2 = .ok (.invokevirtual 206, 3) := by decide +kernel
theorem dX12_worded_5 : decode cX12_worded 5 = .ok (.ifCond .ne 5, 3) := by decide +kernel
theorem dX12_worded_8 : decode cX12_worded 8 = .ok (.iconst 1, 1) := by decide +kernel
