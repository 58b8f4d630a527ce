theorem dX11_book_0 : decode cX11_book 0 = .ok (.aload_n 0, 1) := by decide +kernel
theorem dX11_book_1 : decode cX11_book 1 = .ok (.getfield 10, 3) := by decide +kernel
theorem dX11_book_4 : decode cX11_book 4 = .ok (.getfield 134, 3) := by decide +kernel
theorem dX11_book_7 : decode cX11_book 7 = .ok (.astore_n 3, 1) := by decide +kernel
theorem dX11_book_8 : decode cX11_book 8 = .ok (.iload_n 1, 1) := by decide +kernel
theorem dX11_book_9 : decode cX11_book 9 = .ok (.iconst (-1), 1) := by decide +kernel
theorem dX11_book_10 : decode cX11_book 10 = .ok (.if_icmp .ne 8, 3) := by decide +kernel
theorem dX11_book_13 : decode cX11_book 13 = .ok (.aload_n 3, 1) := by decide +kernel
theorem dX11_book_14 : decode cX11_book 14 = .ok (.getfield 264, 3) := by decide +kernel
theorem dX11_book_17 : decode cX11_book 17 = .ok (.ireturn, 1) := by decide +kernel
theorem dX11_book_18 : decode cX11_book 18 = .ok (.iload_n 1, 1) := by decide +kernel
theorem dX11_book_19 : decode cX11_book 19 = .ok (.iconst 0, 1) := by decide +kernel
theorem dX11_book_20 : decode cX11_book 20 = .ok (.aload_n 3, 1) := by decide +kernel
theorem dX11_book_21 : decode cX11_book 21 = .ok (.getfield 264, 3) := by decide +kernel
theorem dX11_book_24 : decode cX11_book 24 = .ok (.iconst 1, 1) := by decide +kernel
theorem dX11_book_25 : decode cX11_book 25 = .ok (.isub, 1) := by decide +kernel
theorem dX11_book_26 : decode cX11_book 26 = .ok (.invokestatic 81, 3) := by decide +kernel
theorem dX11_book_29 : decode cX11_book 29 = .ok (.ifCond .eq 12, 3) := by decide +kernel
theorem dX11_book_32 : decode cX11_book 32 = .ok (.iload_n 2, 1) := by decide +kernel
theorem dX11_book_33 : decode cX11_book 33 = .ok (.iconst 0, 1) := by decide +kernel
theorem dX11_book_34 : decode cX11_book 34 = .ok (.iconst 3, 1) := by decide +kernel
theorem dX11_book_35 : decode cX11_book 35 = .ok (.invokestatic 81, 3) := by decide +kernel
theorem dX11_book_38 : decode cX11_book 38 = .ok (.ifCond .ne 6, 3) := by decide +kernel
theorem dX11_book_41 : decode cX11_book 41 = .ok (.bipush (-2), 2) := by decide +kernel
theorem dX11_book_43 : decode cX11_book 43 = .ok (.ireturn, 1) := by decide +kernel
theorem dX11_book_44 : decode cX11_book 44 = .ok (.aload_n 3, 1) := by decide +kernel
theorem dX11_book_45 : decode cX11_book 45 = .ok (.getfield 267, 3) := by decide +kernel
theorem dX11_book_48 : decode cX11_book 48 = .ok (.iload_n 1, 1) := by decide +kernel
theorem dX11_book_49 : decode cX11_book 49 = .ok (.iconst 4, 1) := by decide +kernel
theorem dX11_book_50 : decode cX11_book 50 = .ok (.imul, 1) := by decide +kernel
theorem dX11_book_51 : decode cX11_book 51 = .ok (.iload_n 2, 1) := by decide +kernel
theorem dX11_book_52 : decode cX11_book 52 = .ok (.iadd, 1) := by decide +kernel
theorem dX11_book_53 : decode cX11_book 53 = .ok (.iaload, 1) := by decide +kernel
theorem dX11_book_54 : decode cX11_book 54 = .ok (.ireturn, 1) := by decide +kernel
theorem dX11_readings_0 : decode cX11_readings 0 = .ok (.aload_n 0, 1) := by decide +kernel
theorem dX11_readings_1 : decode cX11_readings 1 = .ok (.getfield 63, 3) := by decide +kernel
theorem dX11_readings_4 : decode cX11_readings 4 = .ok (.iload_n 1, 1) := by decide +kernel
theorem dX11_readings_5 : decode cX11_readings 5 = .ok (.invokevirtual 152, 3) := by decide +kernel
theorem dX11_readings_8 : decode cX11_readings 8 = .ok (.ireturn, 1) := by decide +kernel
theorem dX11_reading_0 : decode cX11_reading 0 = .ok (.aload_n 0, 1) := by decide +kernel
theorem dX11_reading_1 : decode cX11_reading 1 = .ok (.getfield 63, 3) := by decide +kernel
theorem dX11_reading_4 : decode cX11_reading 4 = .ok (.iload_n 1, 1) := by decide +kernel
theorem dX11_reading_5 : decode cX11_reading 5 = .ok (.iload_n 2, 1) := by decide +kernel
theorem dX11_reading_6 : decode cX11_reading 6 = .ok (.invokevirtual 270, 3) := by decide +kernel
theorem dX11_reading_9 : decode cX11_reading 9 = .ok (.ireturn, 1) := by decide +kernel
theorem dX11_weight_0 : decode cX11_weight 0 = .ok (.aload_n 0, 1) := by decide +kernel
theorem dX11_weight_1 : decode cX11_weight 1 = .ok (.getfield 10, 3) := by decide +kernel
theorem dX11_weight_4 : decode cX11_weight 4 = .ok (.getfield 67, 3) := by decide +kernel
theorem dX11_weight_7 : decode cX11_weight 7 = .ok (.iload_n 1, 1) := by decide +kernel
theorem dX11_weight_8 : decode cX11_weight 8 = .ok (.invokevirtual 242, 3) := by decide +kernel
theorem dX11_weight_11 : decode cX11_weight 11 = .ok (.ifCond .eq 13, 3) := by decide +kernel
theorem dX11_weight_14 : decode cX11_weight 14 = .ok (.iload_n 2, 1) := by decide +kernel
theorem dX11_weight_15 : decode cX11_weight 15 = .ok (.iconst 0, 1) := by decide +kernel
theorem dX11_weight_16 : decode cX11_weight 16 = .ok (.bipush 99, 2) := by decide +kernel
theorem dX11_weight_18 : decode cX11_weight 18 = .ok (.invokestatic 81, 3) := by decide +kernel
theorem dX11_weight_21 : decode cX11_weight 21 = .ok (.ifCond .ne 5, 3) := by decide +kernel
theorem dX11_weight_24 : decode cX11_weight 24 = .ok (.iconst 0, 1) := by decide +kernel
theorem dX11_weight_25 : decode cX11_weight 25 = .ok (.ireturn, 1) := by decide +kernel
theorem dX11_weight_26 : decode cX11_weight 26 = .ok (.aload_n 0, 1) := by decide +kernel
theorem dX11_weight_27 : decode cX11_weight 27 = .ok (.getfield 10, 3) := by decide +kernel
theorem dX11_weight_30 : decode cX11_weight 30 = .ok (.getfield 274, 3) := by decide +kernel
theorem dX11_weight_33 : decode cX11_weight 33 = .ok (.getfield 277, 3) := by decide +kernel
theorem dX11_weight_36 : decode cX11_weight 36 = .ok (.iload_n 1, 1) := by decide +kernel
theorem dX11_weight_37 : decode cX11_weight 37 = .ok (.iload_n 2, 1) := by decide +kernel
theorem dX11_weight_38 : decode cX11_weight 38 = .ok (.iastore, 1) := by decide +kernel
theorem dX11_weight_39 : decode cX11_weight 39 = .ok (.iconst 1, 1) := by decide +kernel
theorem dX11_weight_40 : decode cX11_weight 40 = .ok (.ireturn, 1) := by decide +kernel
theorem dX11_meant_0 : decode cX11_meant 0 = .ok (.aload_n 0, 1) := by decide +kernel
theorem dX11_meant_1 : decode cX11_meant 1 = .ok (.getfield 10, 3) := by decide +kernel
theorem dX11_meant_4 : decode cX11_meant 4 = .ok (.getfield 67, 3) := by decide +kernel
theorem dX11_meant_7 : decode cX11_meant 7 = .ok (.iload_n 1, 1) := by decide +kernel
theorem dX11_meant_8 : decode cX11_meant 8 = .ok (.invokevirtual 242, 3) := by decide +kernel
theorem dX11_meant_11 : decode cX11_meant 11 = .ok (.ifCond .eq 13, 3) := by decide +kernel
theorem dX11_meant_14 : decode cX11_meant 14 = .ok (.iload_n 2, 1) := by decide +kernel
theorem dX11_meant_15 : decode cX11_meant 15 = .ok (.iconst 0, 1) := by decide +kernel
theorem dX11_meant_16 : decode cX11_meant 16 = .ok (.bipush 10, 2) := by decide +kernel
theorem dX11_meant_18 : decode cX11_meant 18 = .ok (.invokestatic 81, 3) := by decide +kernel
theorem dX11_meant_21 : decode cX11_meant 21 = .ok (.ifCond .ne 7, 3) := by decide +kernel
theorem dX11_meant_24 : decode cX11_meant 24 = .ok (.ldc2_w 282, 3) := by decide +kernel
theorem dX11_meant_27 : decode cX11_meant 27 = .ok (.lreturn, 1) := by decide +kernel
theorem dX11_meant_28 : decode cX11_meant 28 = .ok (.aload_n 0, 1) := by decide +kernel
theorem dX11_meant_29 : decode cX11_meant 29 = .ok (.getfield 63, 3) := by decide +kernel
theorem dX11_meant_32 : decode cX11_meant 32 = .ok (.invokevirtual 257, 3) := by decide +kernel
theorem dX11_meant_35 : decode cX11_meant 35 = .ok (.lconst 0, 1) := by decide +kernel
theorem dX11_meant_36 : decode cX11_meant 36 = .ok (.lstore 4, 2) := by decide +kernel
theorem dX11_meant_38 : decode cX11_meant 38 = .ok (.lconst 0, 1) := by decide +kernel
theorem dX11_meant_39 : decode cX11_meant 39 = .ok (.lstore 6, 2) := by decide +kernel
theorem dX11_meant_41 : decode cX11_meant 41 = .ok (.iconst 0, 1) := by decide +kernel
theorem dX11_meant_42 : decode cX11_meant 42 = .ok (.istore 8, 2) := by decide +kernel
theorem dX11_meant_44 : decode cX11_meant 44 = .ok (.iload 8, 2) := by decide +kernel
theorem dX11_meant_46 : decode cX11_meant 46 = .ok (.aload_n 0, 1) := by decide +kernel
theorem dX11_meant_47 : decode cX11_meant 47 = .ok (.getfield 10, 3) := by decide +kernel
theorem dX11_meant_50 : decode cX11_meant 50 = .ok (.getfield 67, 3) := by decide +kernel
theorem dX11_meant_53 : decode cX11_meant 53 = .ok (.getfield 169, 3) := by decide +kernel
theorem dX11_meant_56 : decode cX11_meant 56 = .ok (.if_icmp .ge 53, 3) := by decide +kernel
theorem dX11_meant_59 : decode cX11_meant 59 = .ok (.aload_n 0, 1) := by decide +kernel
theorem dX11_meant_60 : decode cX11_meant 60 = .ok (.getfield 10, 3) := by decide +kernel
theorem dX11_meant_63 : decode cX11_meant 63 = .ok (.getfield 274, 3) := by decide +kernel
theorem dX11_meant_66 : decode cX11_meant 66 = .ok (.getfield 277, 3) := by decide +kernel
theorem dX11_meant_69 : decode cX11_meant 69 = .ok (.iload 8, 2) := by decide +kernel
theorem dX11_meant_71 : decode cX11_meant 71 = .ok (.iaload, 1) := by decide +kernel
theorem dX11_meant_72 : decode cX11_meant 72 = .ok (.i2l, 1) := by decide +kernel
theorem dX11_meant_73 : decode cX11_meant 73 = .ok (.aload_n 0, 1) := by decide +kernel
theorem dX11_meant_74 : decode cX11_meant 74 = .ok (.getfield 63, 3) := by decide +kernel
theorem dX11_meant_77 : decode cX11_meant 77 = .ok (.iload 8, 2) := by decide +kernel
theorem dX11_meant_79 : decode cX11_meant 79 = .ok (.iload_n 2, 1) := by decide +kernel
theorem dX11_meant_80 : decode cX11_meant 80 = .ok (.invokevirtual 284, 3) := by decide +kernel
theorem dX11_meant_83 : decode cX11_meant 83 = .ok (.lmul, 1) := by decide +kernel
theorem dX11_meant_84 : decode cX11_meant 84 = .ok (.lstore 9, 2) := by decide +kernel
theorem dX11_meant_86 : decode cX11_meant 86 = .ok (.lload 6, 2) := by decide +kernel
theorem dX11_meant_88 : decode cX11_meant 88 = .ok (.lload 9, 2) := by decide +kernel
theorem dX11_meant_90 : decode cX11_meant 90 = .ok (.ladd, 1) := by decide +kernel
theorem dX11_meant_91 : decode cX11_meant 91 = .ok (.lstore 6, 2) := by decide +kernel
theorem dX11_meant_93 : decode cX11_meant 93 = .ok (.iload 8, 2) := by decide +kernel
theorem dX11_meant_95 : decode cX11_meant 95 = .ok (.iload_n 1, 1) := by decide +kernel
theorem dX11_meant_96 : decode cX11_meant 96 = .ok (.if_icmp .ne 7, 3) := by decide +kernel
theorem dX11_meant_99 : decode cX11_meant 99 = .ok (.lload 9, 2) := by decide +kernel
theorem dX11_meant_101 : decode cX11_meant 101 = .ok (.lstore 4, 2) := by decide +kernel
theorem dX11_meant_103 : decode cX11_meant 103 = .ok (.iinc 8 1, 3) := by decide +kernel
theorem dX11_meant_106 : decode cX11_meant 106 = .ok (.goto (-62), 3) := by decide +kernel
theorem dX11_meant_109 : decode cX11_meant 109 = .ok (.lload 6, 2) := by decide +kernel
theorem dX11_meant_111 : decode cX11_meant 111 = .ok (.lconst 0, 1) := by decide +kernel
theorem dX11_meant_112 : decode cX11_meant 112 = .ok (.lcmp, 1) := by decide +kernel
theorem dX11_meant_113 : decode cX11_meant 113 = .ok (.ifCond .ne 13, 3) := by decide +kernel
theorem dX11_meant_116 : decode cX11_meant 116 = .ok (.iload_n 3, 1) := by decide +kernel
theorem dX11_meant_117 : decode cX11_meant 117 = .ok (.ifCond .eq 7, 3) := by decide +kernel
theorem dX11_meant_120 : decode cX11_meant 120 = .ok (.lconst 1, 1) := by decide +kernel
theorem dX11_meant_121 : decode cX11_meant 121 = .ok (.goto 4, 3) := by decide +kernel
theorem dX11_meant_124 : decode cX11_meant 124 = .ok (.lconst 0, 1) := by decide +kernel
theorem dX11_meant_125 : decode cX11_meant 125 = .ok (.lreturn, 1) := by decide +kernel
theorem dX11_meant_126 : decode cX11_meant 126 = .ok (.lload 6, 2) := by decide +kernel
theorem dX11_meant_128 : decode cX11_meant 128 = .ok (.lload 4, 2) := by decide +kernel
theorem dX11_meant_130 : decode cX11_meant 130 = .ok (.invokestatic 288, 3) := by decide +kernel
theorem dX11_meant_133 : decode cX11_meant 133 = .ok (.lstore 8, 2) := by decide +kernel
theorem dX11_meant_135 : decode cX11_meant 135 = .ok (.lload 8, 2) := by decide +kernel
theorem dX11_meant_137 : decode cX11_meant 137 = .ok (.lconst 0, 1) := by decide +kernel
theorem dX11_meant_138 : decode cX11_meant 138 = .ok (.lcmp, 1) := by decide +kernel
theorem dX11_meant_139 : decode cX11_meant 139 = .ok (.ifCond .ne 7, 3) := by decide +kernel
theorem dX11_meant_142 : decode cX11_meant 142 = .ok (.ldc2_w 282, 3) := by decide +kernel
theorem dX11_meant_145 : decode cX11_meant 145 = .ok (.lreturn, 1) := by decide +kernel
theorem dX11_meant_146 : decode cX11_meant 146 = .ok (.iload_n 3, 1) := by decide +kernel
theorem dX11_meant_147 : decode cX11_meant 147 = .ok (.ifCond .eq 8, 3) := by decide +kernel
theorem dX11_meant_150 : decode cX11_meant 150 = .ok (.lload 6, 2) := by decide +kernel
theorem dX11_meant_152 : decode cX11_meant 152 = .ok (.goto 5, 3) := by decide +kernel
theorem dX11_meant_155 : decode cX11_meant 155 = .ok (.lload 4, 2) := by decide +kernel
theorem dX11_meant_157 : decode cX11_meant 157 = .ok (.lload 8, 2) := by decide +kernel
theorem dX11_meant_159 : decode cX11_meant 159 = .ok (.ldiv, 1) := by decide +kernel
theorem dX11_meant_160 : decode cX11_meant 160 = .ok (.lreturn, 1) := by decide +kernel
theorem dX11_shortest_0 : decode cX11_shortest 0 = .ok (.aload_n 0, 1) := by decide +kernel
theorem dX11_shortest_1 : decode cX11_shortest 1 = .ok (.getfield 10, 3) := by decide +kernel
theorem dX11_shortest_4 : decode cX11_shortest 4 = .ok (.getfield 67, 3) := by decide +kernel
theorem dX11_shortest_7 : decode cX11_shortest 7 = .ok (.astore_n 2, 1) := by decide +kernel
theorem dX11_shortest_8 : decode cX11_shortest 8 = .ok (.iconst (-1), 1) := by decide +kernel
theorem dX11_shortest_9 : decode cX11_shortest 9 = .ok (.istore_n 3, 1) := by decide +kernel
theorem dX11_shortest_10 : decode cX11_shortest 10 = .ok (.iconst 0, 1) := by decide +kernel
theorem dX11_shortest_11 : decode cX11_shortest 11 = .ok (.istore 4, 2) := by decide +kernel
theorem dX11_shortest_13 : decode cX11_shortest 13 = .ok (.iload 4, 2) := by decide +kernel
theorem dX11_shortest_15 : decode cX11_shortest 15 = .ok (.aload_n 2, 1) := by decide +kernel
theorem dX11_shortest_16 : decode cX11_shortest 16 = .ok (.getfield 169, 3) := by decide +kernel
theorem dX11_shortest_19 : decode cX11_shortest 19 = .ok (.if_icmp .ge 75, 3) := by decide +kernel
theorem dX11_shortest_22 : decode cX11_shortest 22 = .ok (.iload_n 3, 1) := by decide +kernel
theorem dX11_shortest_23 : decode cX11_shortest 23 = .ok (.iconst (-1), 1) := by decide +kernel
theorem dX11_shortest_24 : decode cX11_shortest 24 = .ok (.if_icmp .eq 19, 3) := by decide +kernel
theorem dX11_shortest_27 : decode cX11_shortest 27 = .ok (.aload_n 2, 1) := by decide +kernel
theorem dX11_shortest_28 : decode cX11_shortest 28 = .ok (.getfield 198, 3) := by decide +kernel
theorem dX11_shortest_31 : decode cX11_shortest 31 = .ok (.iload 4, 2) := by decide +kernel
theorem dX11_shortest_33 : decode cX11_shortest 33 = .ok (.iaload, 1) := by decide +kernel
theorem dX11_shortest_34 : decode cX11_shortest 34 = .ok (.aload_n 2, 1) := by decide +kernel
theorem dX11_shortest_35 : decode cX11_shortest 35 = .ok (.getfield 198, 3) := by decide +kernel
theorem dX11_shortest_38 : decode cX11_shortest 38 = .ok (.iload_n 3, 1) := by decide +kernel
theorem dX11_shortest_39 : decode cX11_shortest 39 = .ok (.iaload, 1) := by decide +kernel
theorem dX11_shortest_40 : decode cX11_shortest 40 = .ok (.if_icmp .ge 7, 3) := by decide +kernel
theorem dX11_shortest_43 : decode cX11_shortest 43 = .ok (.iconst 1, 1) := by decide +kernel
theorem dX11_shortest_44 : decode cX11_shortest 44 = .ok (.goto 4, 3) := by decide +kernel
theorem dX11_shortest_47 : decode cX11_shortest 47 = .ok (.iconst 0, 1) := by decide +kernel
theorem dX11_shortest_48 : decode cX11_shortest 48 = .ok (.istore 5, 2) := by decide +kernel
theorem dX11_shortest_50 : decode cX11_shortest 50 = .ok (.aload_n 2, 1) := by decide +kernel
theorem dX11_shortest_51 : decode cX11_shortest 51 = .ok (.getfield 248, 3) := by decide +kernel
theorem dX11_shortest_54 : decode cX11_shortest 54 = .ok (.iload 4, 2) := by decide +kernel
theorem dX11_shortest_56 : decode cX11_shortest 56 = .ok (.iaload, 1) := by decide +kernel
theorem dX11_shortest_57 : decode cX11_shortest 57 = .ok (.iload_n 1, 1) := by decide +kernel
theorem dX11_shortest_58 : decode cX11_shortest 58 = .ok (.if_icmp .ne 30, 3) := by decide +kernel
theorem dX11_shortest_61 : decode cX11_shortest 61 = .ok (.iload 5, 2) := by decide +kernel
theorem dX11_shortest_63 : decode cX11_shortest 63 = .ok (.ifCond .eq 25, 3) := by decide +kernel
theorem dX11_shortest_66 : decode cX11_shortest 66 = .ok (.aload_n 0, 1) := by decide +kernel
theorem dX11_shortest_67 : decode cX11_shortest 67 = .ok (.iload 4, 2) := by decide +kernel
theorem dX11_shortest_69 : decode cX11_shortest 69 = .ok (.aload_n 0, 1) := by decide +kernel
theorem dX11_shortest_70 : decode cX11_shortest 70 = .ok (.getfield 10, 3) := by decide +kernel
theorem dX11_shortest_73 : decode cX11_shortest 73 = .ok (.getfield 134, 3) := by decide +kernel
theorem dX11_shortest_76 : decode cX11_shortest 76 = .ok (.getfield 143, 3) := by decide +kernel
theorem dX11_shortest_79 : decode cX11_shortest 79 = .ok (.invokevirtual 292, 3) := by decide +kernel
theorem dX11_shortest_82 : decode cX11_shortest 82 = .ok (.ifCond .eq 6, 3) := by decide +kernel
theorem dX11_shortest_85 : decode cX11_shortest 85 = .ok (.iload 4, 2) := by decide +kernel
theorem dX11_shortest_87 : decode cX11_shortest 87 = .ok (.istore_n 3, 1) := by decide +kernel
theorem dX11_shortest_88 : decode cX11_shortest 88 = .ok (.iinc 4 1, 3) := by decide +kernel
theorem dX11_shortest_91 : decode cX11_shortest 91 = .ok (.goto (-78), 3) := by decide +kernel
theorem dX11_shortest_94 : decode cX11_shortest 94 = .ok (.iload_n 3, 1) := by decide +kernel
theorem dX11_shortest_95 : decode cX11_shortest 95 = .ok (.ireturn, 1) := by decide +kernel
theorem dX11_atWorst_0 : decode cX11_atWorst 0 = .ok (.aload_n 0, 1) := by decide +kernel
theorem dX11_atWorst_1 : decode cX11_atWorst 1 = .ok (.getfield 10, 3) := by decide +kernel
theorem dX11_atWorst_4 : decode cX11_atWorst 4 = .ok (.getfield 67, 3) := by decide +kernel
theorem dX11_atWorst_7 : decode cX11_atWorst 7 = .ok (.iload_n 1, 1) := by decide +kernel
theorem dX11_atWorst_8 : decode cX11_atWorst 8 = .ok (.invokevirtual 242, 3) := by decide +kernel
theorem dX11_atWorst_11 : decode cX11_atWorst 11 = .ok (.ifCond .ne 5, 3) := by decide +kernel
theorem dX11_atWorst_14 : decode cX11_atWorst 14 = .ok (.iconst (-1), 1) := by decide +kernel
theorem dX11_atWorst_15 : decode cX11_atWorst 15 = .ok (.ireturn, 1) := by decide +kernel
theorem dX11_atWorst_16 : decode cX11_atWorst 16 = .ok (.iconst (-1), 1) := by decide +kernel
theorem dX11_atWorst_17 : decode cX11_atWorst 17 = .ok (.istore_n 2, 1) := by decide +kernel
theorem dX11_atWorst_18 : decode cX11_atWorst 18 = .ok (.iconst 0, 1) := by decide +kernel
theorem dX11_atWorst_19 : decode cX11_atWorst 19 = .ok (.istore_n 3, 1) := by decide +kernel
theorem dX11_atWorst_20 : decode cX11_atWorst 20 = .ok (.iload_n 3, 1) := by decide +kernel
theorem dX11_atWorst_21 : decode cX11_atWorst 21 = .ok (.bipush 9, 2) := by decide +kernel
theorem dX11_atWorst_23 : decode cX11_atWorst 23 = .ok (.if_icmp .gt 20, 3) := by decide +kernel
theorem dX11_atWorst_26 : decode cX11_atWorst 26 = .ok (.aload_n 0, 1) := by decide +kernel
theorem dX11_atWorst_27 : decode cX11_atWorst 27 = .ok (.iload_n 1, 1) := by decide +kernel
theorem dX11_atWorst_28 : decode cX11_atWorst 28 = .ok (.iload_n 3, 1) := by decide +kernel
theorem dX11_atWorst_29 : decode cX11_atWorst 29 = .ok (.invokevirtual 292, 3) := by decide +kernel
theorem dX11_atWorst_32 : decode cX11_atWorst 32 = .ok (.ifCond .eq 11, 3) := by decide +kernel
theorem dX11_atWorst_35 : decode cX11_atWorst 35 = .ok (.iload_n 3, 1) := by decide +kernel
theorem dX11_atWorst_36 : decode cX11_atWorst 36 = .ok (.istore_n 2, 1) := by decide +kernel
theorem dX11_atWorst_37 : decode cX11_atWorst 37 = .ok (.iinc 3 1, 3) := by decide +kernel
theorem dX11_atWorst_40 : decode cX11_atWorst 40 = .ok (.goto (-20), 3) := by decide +kernel
theorem dX11_atWorst_43 : decode cX11_atWorst 43 = .ok (.iload_n 2, 1) := by decide +kernel
theorem dX11_atWorst_44 : decode cX11_atWorst 44 = .ok (.ireturn, 1) := by decide +kernel
theorem dX11_away_0 : decode cX11_away 0 = .ok (.aload_n 0, 1) := by decide +kernel
theorem dX11_away_1 : decode cX11_away 1 = .ok (.getfield 10, 3) := by decide +kernel
theorem dX11_away_4 : decode cX11_away 4 = .ok (.getfield 67, 3) := by decide +kernel
theorem dX11_away_7 : decode cX11_away 7 = .ok (.astore_n 3, 1) := by decide +kernel
theorem dX11_away_8 : decode cX11_away 8 = .ok (.aload_n 3, 1) := by decide +kernel
theorem dX11_away_9 : decode cX11_away 9 = .ok (.iload_n 1, 1) := by decide +kernel
theorem dX11_away_10 : decode cX11_away 10 = .ok (.invokevirtual 242, 3) := by decide +kernel
theorem dX11_away_13 : decode cX11_away 13 = .ok (.ifCond .eq 11, 3) := by decide +kernel
theorem dX11_away_16 : decode cX11_away 16 = .ok (.aload_n 3, 1) := by decide +kernel
theorem dX11_away_17 : decode cX11_away 17 = .ok (.iload_n 2, 1) := by decide +kernel
theorem dX11_away_18 : decode cX11_away 18 = .ok (.invokevirtual 242, 3) := by decide +kernel
theorem dX11_away_21 : decode cX11_away 21 = .ok (.ifCond .ne 5, 3) := by decide +kernel
theorem dX11_away_24 : decode cX11_away 24 = .ok (.iconst (-1), 1) := by decide +kernel
theorem dX11_away_25 : decode cX11_away 25 = .ok (.ireturn, 1) := by decide +kernel
theorem dX11_away_26 : decode cX11_away 26 = .ok (.aload_n 3, 1) := by decide +kernel
theorem dX11_away_27 : decode cX11_away 27 = .ok (.iload_n 1, 1) := by decide +kernel
theorem dX11_away_28 : decode cX11_away 28 = .ok (.iload_n 2, 1) := by decide +kernel
theorem dX11_away_29 : decode cX11_away 29 = .ok (.invokevirtual 296, 3) := by decide +kernel
theorem dX11_away_32 : decode cX11_away 32 = .ok (.ireturn, 1) := by decide +kernel
theorem dX11_apart_0 : decode cX11_apart 0 = .ok (.iload_n 1, 1) := by decide +kernel
theorem dX11_apart_1 : decode cX11_apart 1 = .ok (.iconst 1, 1) := by decide +kernel
theorem dX11_apart_2 : decode cX11_apart 2 = .ok (.iconst 4, 1) := by decide +kernel
theorem dX11_apart_3 : decode cX11_apart 3 = .ok (.invokestatic 81, 3) := by decide +kernel
theorem dX11_apart_6 : decode cX11_apart 6 = .ok (.ifCond .eq 17, 3) := by decide +kernel
theorem dX11_apart_9 : decode cX11_apart 9 = .ok (.aload_n 0, 1) := by decide +kernel
theorem dX11_apart_10 : decode cX11_apart 10 = .ok (.getfield 10, 3) := by decide +kernel
theorem dX11_apart_13 : decode cX11_apart 13 = .ok (.getfield 67, 3) := by decide +kernel
theorem dX11_apart_16 : decode cX11_apart 16 = .ok (.iload_n 1, 1) := by decide +kernel
theorem dX11_apart_17 : decode cX11_apart 17 = .ok (.invokevirtual 299, 3) := by decide +kernel
theorem dX11_apart_20 : decode cX11_apart 20 = .ok (.goto 4, 3) := by decide +kernel
theorem dX11_apart_23 : decode cX11_apart 23 = .ok (.iconst (-1), 1) := by decide +kernel
theorem dX11_apart_24 : decode cX11_apart 24 = .ok (.ireturn, 1) := by decide +kernel
theorem dX11_nearest_0 : decode cX11_nearest 0 = .ok (.aload_n 0, 1) := by decide +kernel
theorem dX11_nearest_1 : decode cX11_nearest 1 = .ok (.getfield 63, 3) := by decide +kernel
theorem dX11_nearest_4 : decode cX11_nearest 4 = .ok (.invokevirtual 257, 3) := by decide +kernel
theorem dX11_nearest_7 : decode cX11_nearest 7 = .ok (.aload_n 0, 1) := by decide +kernel
theorem dX11_nearest_8 : decode cX11_nearest 8 = .ok (.getfield 10, 3) := by decide +kernel
theorem dX11_nearest_11 : decode cX11_nearest 11 = .ok (.getfield 67, 3) := by decide +kernel
theorem dX11_nearest_14 : decode cX11_nearest 14 = .ok (.astore_n 1, 1) := by decide +kernel
theorem dX11_nearest_15 : decode cX11_nearest 15 = .ok (.bipush 28, 2) := by decide +kernel
theorem dX11_nearest_17 : decode cX11_nearest 17 = .ok (.istore_n 2, 1) := by decide +kernel
theorem dX11_nearest_18 : decode cX11_nearest 18 = .ok (.iconst 0, 1) := by decide +kernel
theorem dX11_nearest_19 : decode cX11_nearest 19 = .ok (.istore_n 3, 1) := by decide +kernel
theorem dX11_nearest_20 : decode cX11_nearest 20 = .ok (.iconst 0, 1) := by decide +kernel
theorem dX11_nearest_21 : decode cX11_nearest 21 = .ok (.istore 4, 2) := by decide +kernel
theorem dX11_nearest_23 : decode cX11_nearest 23 = .ok (.iload 4, 2) := by decide +kernel
theorem dX11_nearest_25 : decode cX11_nearest 25 = .ok (.aload_n 1, 1) := by decide +kernel
theorem dX11_nearest_26 : decode cX11_nearest 26 = .ok (.getfield 169, 3) := by decide +kernel
theorem dX11_nearest_29 : decode cX11_nearest 29 = .ok (.if_icmp .ge 56, 3) := by decide +kernel
theorem dX11_nearest_32 : decode cX11_nearest 32 = .ok (.aload_n 1, 1) := by decide +kernel
theorem dX11_nearest_33 : decode cX11_nearest 33 = .ok (.iload 4, 2) := by decide +kernel
theorem dX11_nearest_35 : decode cX11_nearest 35 = .ok (.aload_n 0, 1) := by decide +kernel
theorem dX11_nearest_36 : decode cX11_nearest 36 = .ok (.getfield 63, 3) := by decide +kernel
theorem dX11_nearest_39 : decode cX11_nearest 39 = .ok (.getfield 263, 3) := by decide +kernel
theorem dX11_nearest_42 : decode cX11_nearest 42 = .ok (.iconst 0, 1) := by decide +kernel
theorem dX11_nearest_43 : decode cX11_nearest 43 = .ok (.aload_n 0, 1) := by decide +kernel
theorem dX11_nearest_44 : decode cX11_nearest 44 = .ok (.getfield 63, 3) := by decide +kernel
theorem dX11_nearest_47 : decode cX11_nearest 47 = .ok (.getfield 260, 3) := by decide +kernel
theorem dX11_nearest_50 : decode cX11_nearest 50 = .ok (.invokevirtual 302, 3) := by decide +kernel
theorem dX11_nearest_53 : decode cX11_nearest 53 = .ok (.istore 5, 2) := by decide +kernel
theorem dX11_nearest_55 : decode cX11_nearest 55 = .ok (.iload 5, 2) := by decide +kernel
theorem dX11_nearest_57 : decode cX11_nearest 57 = .ok (.iload_n 2, 1) := by decide +kernel
theorem dX11_nearest_58 : decode cX11_nearest 58 = .ok (.if_icmp .ge 8, 3) := by decide +kernel
theorem dX11_nearest_61 : decode cX11_nearest 61 = .ok (.iload 5, 2) := by decide +kernel
theorem dX11_nearest_63 : decode cX11_nearest 63 = .ok (.istore_n 2, 1) := by decide +kernel
theorem dX11_nearest_64 : decode cX11_nearest 64 = .ok (.iconst 0, 1) := by decide +kernel
theorem dX11_nearest_65 : decode cX11_nearest 65 = .ok (.istore_n 3, 1) := by decide +kernel
theorem dX11_nearest_66 : decode cX11_nearest 66 = .ok (.iload 5, 2) := by decide +kernel
theorem dX11_nearest_68 : decode cX11_nearest 68 = .ok (.iload_n 2, 1) := by decide +kernel
theorem dX11_nearest_69 : decode cX11_nearest 69 = .ok (.if_icmp .ne 10, 3) := by decide +kernel
theorem dX11_nearest_72 : decode cX11_nearest 72 = .ok (.iload_n 3, 1) := by decide +kernel
theorem dX11_nearest_73 : decode cX11_nearest 73 = .ok (.iconst 1, 1) := by decide +kernel
theorem dX11_nearest_74 : decode cX11_nearest 74 = .ok (.iload 4, 2) := by decide +kernel
theorem dX11_nearest_76 : decode cX11_nearest 76 = .ok (.ishl, 1) := by decide +kernel
theorem dX11_nearest_77 : decode cX11_nearest 77 = .ok (.ior, 1) := by decide +kernel
theorem dX11_nearest_78 : decode cX11_nearest 78 = .ok (.istore_n 3, 1) := by decide +kernel
theorem dX11_nearest_79 : decode cX11_nearest 79 = .ok (.iinc 4 1, 3) := by decide +kernel
theorem dX11_nearest_82 : decode cX11_nearest 82 = .ok (.goto (-59), 3) := by decide +kernel
theorem dX11_nearest_85 : decode cX11_nearest 85 = .ok (.iload_n 3, 1) := by decide +kernel
theorem dX11_nearest_86 : decode cX11_nearest 86 = .ok (.ireturn, 1) := by decide +kernel
theorem dX11_allGetOver_0 : decode cX11_allGetOver 0 = .ok (.aload_n 0, 1) := by decide +kernel
theorem dX11_allGetOver_1 : decode cX11_allGetOver 1 = .ok (.getfield 10, 3) := by decide +kernel
theorem dX11_allGetOver_4 : decode cX11_allGetOver 4 = .ok (.getfield 67, 3) := by decide +kernel
theorem dX11_allGetOver_7 : decode cX11_allGetOver 7 = .ok (.astore_n 3, 1) := by decide +kernel
theorem dX11_allGetOver_8 : decode cX11_allGetOver 8 = .ok (.iconst 0, 1) := by decide +kernel
theorem dX11_allGetOver_9 : decode cX11_allGetOver 9 = .ok (.istore 4, 2) := by decide +kernel
theorem dX11_allGetOver_11 : decode cX11_allGetOver 11 = .ok (.iload 4, 2) := by decide +kernel
theorem dX11_allGetOver_13 : decode cX11_allGetOver 13 = .ok (.aload_n 3, 1) := by decide +kernel
theorem dX11_allGetOver_14 : decode cX11_allGetOver 14 = .ok (.getfield 198, 3) := by decide +kernel
theorem dX11_allGetOver_17 : decode cX11_allGetOver 17 = .ok (.iload_n 1, 1) := by decide +kernel
theorem dX11_allGetOver_18 : decode cX11_allGetOver 18 = .ok (.iaload, 1) := by decide +kernel
theorem dX11_allGetOver_19 : decode cX11_allGetOver 19 = .ok (.if_icmp .ge 42, 3) := by decide +kernel
theorem dX11_allGetOver_22 : decode cX11_allGetOver 22 = .ok (.aload_n 0, 1) := by decide +kernel
theorem dX11_allGetOver_23 : decode cX11_allGetOver 23 = .ok (.getfield 54, 3) := by decide +kernel
theorem dX11_allGetOver_26 : decode cX11_allGetOver 26 = .ok (.aload_n 3, 1) := by decide +kernel
theorem dX11_allGetOver_27 : decode cX11_allGetOver 27 = .ok (.iload_n 1, 1) := by decide +kernel
theorem dX11_allGetOver_28 : decode cX11_allGetOver 28 = .ok (.iload 4, 2) := by decide +kernel
theorem dX11_allGetOver_30 : decode cX11_allGetOver 30 = .ok (.invokevirtual 201, 3) := by decide +kernel
theorem dX11_allGetOver_33 : decode cX11_allGetOver 33 = .ok (.aload_n 0, 1) := by decide +kernel
theorem dX11_allGetOver_34 : decode cX11_allGetOver 34 = .ok (.getfield 10, 3) := by decide +kernel
theorem dX11_allGetOver_37 : decode cX11_allGetOver 37 = .ok (.getfield 134, 3) := by decide +kernel
theorem dX11_allGetOver_40 : decode cX11_allGetOver 40 = .ok (.getfield 188, 3) := by decide +kernel
theorem dX11_allGetOver_43 : decode cX11_allGetOver 43 = .ok (.iload 4, 2) := by decide +kernel
theorem dX11_allGetOver_45 : decode cX11_allGetOver 45 = .ok (.iadd, 1) := by decide +kernel
theorem dX11_allGetOver_46 : decode cX11_allGetOver 46 = .ok (.iload_n 2, 1) := by decide +kernel
theorem dX11_allGetOver_47 : decode cX11_allGetOver 47 = .ok (.invokevirtual 191, 3) := by decide +kernel
theorem dX11_allGetOver_50 : decode cX11_allGetOver 50 = .ok (.ifCond .ne 5, 3) := by decide +kernel
theorem dX11_allGetOver_53 : decode cX11_allGetOver 53 = .ok (.iconst 0, 1) := by decide +kernel
theorem dX11_allGetOver_54 : decode cX11_allGetOver 54 = .ok (.ireturn, 1) := by decide +kernel
theorem dX11_allGetOver_55 : decode cX11_allGetOver 55 = .ok (.iinc 4 1, 3) := by decide +kernel
theorem dX11_allGetOver_58 : decode cX11_allGetOver 58 = .ok (.goto (-47), 3) := by decide +kernel
theorem dX11_allGetOver_61 : decode cX11_allGetOver 61 = .ok (.iconst 1, 1) := by decide +kernel
theorem dX11_allGetOver_62 : decode cX11_allGetOver 62 = .ok (.ireturn, 1) := by decide +kernel
theorem dX11_hears_0 : decode cX11_hears 0 = .ok (.aload_n 0, 1) := by decide +kernel
theorem dX11_hears_1 : decode cX11_hears 1 = .ok (.getfield 10, 3) := by decide +kernel
theorem dX11_hears_4 : decode cX11_hears 4 = .ok (.getfield 67, 3) := by decide +kernel
theorem dX11_hears_7 : decode cX11_hears 7 = .ok (.iload_n 1, 1) := by decide +kernel
theorem dX11_hears_8 : decode cX11_hears 8 = .ok (.invokevirtual 242, 3) := by decide +kernel
theorem dX11_hears_11 : decode cX11_hears 11 = .ok (.ifCond .eq 17, 3) := by decide +kernel
theorem dX11_hears_14 : decode cX11_hears 14 = .ok (.aload_n 0, 1) := by decide +kernel
theorem dX11_hears_15 : decode cX11_hears 15 = .ok (.getfield 10, 3) := by decide +kernel
theorem dX11_hears_18 : decode cX11_hears 18 = .ok (.getfield 67, 3) := by decide +kernel
theorem dX11_hears_21 : decode cX11_hears 21 = .ok (.iload_n 2, 1) := by decide +kernel
theorem dX11_hears_22 : decode cX11_hears 22 = .ok (.invokevirtual 242, 3) := by decide +kernel
theorem dX11_hears_25 : decode cX11_hears 25 = .ok (.ifCond .ne 5, 3) := by decide +kernel
theorem dX11_hears_28 : decode cX11_hears 28 = .ok (.iconst 0, 1) := by decide +kernel
theorem dX11_hears_29 : decode cX11_hears 29 = .ok (.ireturn, 1) := by decide +kernel
theorem dX11_hears_30 : decode cX11_hears 30 = .ok (.aload_n 0, 1) := by decide +kernel
theorem dX11_hears_31 : decode cX11_hears 31 = .ok (.getfield 10, 3) := by decide +kernel
theorem dX11_hears_34 : decode cX11_hears 34 = .ok (.getfield 274, 3) := by decide +kernel
theorem dX11_hears_37 : decode cX11_hears 37 = .ok (.getfield 306, 3) := by decide +kernel
theorem dX11_hears_40 : decode cX11_hears 40 = .ok (.iload_n 1, 1) := by decide +kernel
theorem dX11_hears_41 : decode cX11_hears 41 = .ok (.iload_n 2, 1) := by decide +kernel
theorem dX11_hears_42 : decode cX11_hears 42 = .ok (.iastore, 1) := by decide +kernel
theorem dX11_hears_43 : decode cX11_hears 43 = .ok (.iconst 1, 1) := by decide +kernel
theorem dX11_hears_44 : decode cX11_hears 44 = .ok (.ireturn, 1) := by decide +kernel
theorem dX11_settles_0 : decode cX11_settles 0 = .ok (.aload_n 0, 1) := by decide +kernel
theorem dX11_settles_1 : decode cX11_settles 1 = .ok (.getfield 10, 3) := by decide +kernel
theorem dX11_settles_4 : decode cX11_settles 4 = .ok (.getfield 67, 3) := by decide +kernel
theorem dX11_settles_7 : decode cX11_settles 7 = .ok (.iload_n 1, 1) := by decide +kernel
theorem dX11_settles_8 : decode cX11_settles 8 = .ok (.invokevirtual 242, 3) := by decide +kernel
theorem dX11_settles_11 : decode cX11_settles 11 = .ok (.ifCond .ne 5, 3) := by decide +kernel
theorem dX11_settles_14 : decode cX11_settles 14 = .ok (.iconst (-1), 1) := by decide +kernel
theorem dX11_settles_15 : decode cX11_settles 15 = .ok (.ireturn, 1) := by decide +kernel
theorem dX11_settles_16 : decode cX11_settles 16 = .ok (.iload_n 2, 1) := by decide +kernel
theorem dX11_settles_17 : decode cX11_settles 17 = .ok (.tableswitch 60 0 2 #[27, 42, 51], 27) := by decide +kernel
theorem dX11_settles_44 : decode cX11_settles 44 = .ok (.aload_n 0, 1) := by decide +kernel
theorem dX11_settles_45 : decode cX11_settles 45 = .ok (.getfield 10, 3) := by decide +kernel
theorem dX11_settles_48 : decode cX11_settles 48 = .ok (.getfield 274, 3) := by decide +kernel
theorem dX11_settles_51 : decode cX11_settles 51 = .ok (.iload_n 1, 1) := by decide +kernel
theorem dX11_settles_52 : decode cX11_settles 52 = .ok (.invokevirtual 309, 3) := by decide +kernel
theorem dX11_settles_55 : decode cX11_settles 55 = .ok (.invokestatic 312, 3) := by decide +kernel
theorem dX11_settles_58 : decode cX11_settles 58 = .ok (.ireturn, 1) := by decide +kernel
theorem dX11_settles_59 : decode cX11_settles 59 = .ok (.aload_n 0, 1) := by decide +kernel
theorem dX11_settles_60 : decode cX11_settles 60 = .ok (.iload_n 1, 1) := by decide +kernel
theorem dX11_settles_61 : decode cX11_settles 61 = .ok (.invokevirtual 317, 3) := by decide +kernel
theorem dX11_settles_64 : decode cX11_settles 64 = .ok (.invokestatic 312, 3) := by decide +kernel
theorem dX11_settles_67 : decode cX11_settles 67 = .ok (.ireturn, 1) := by decide +kernel
theorem dX11_settles_68 : decode cX11_settles 68 = .ok (.aload_n 0, 1) := by decide +kernel
theorem dX11_settles_69 : decode cX11_settles 69 = .ok (.iload_n 1, 1) := by decide +kernel
theorem dX11_settles_70 : decode cX11_settles 70 = .ok (.invokevirtual 317, 3) := by decide +kernel
theorem dX11_settles_73 : decode cX11_settles 73 = .ok (.invokestatic 320, 3) := by decide +kernel
theorem dX11_settles_76 : decode cX11_settles 76 = .ok (.ireturn, 1) := by decide +kernel
theorem dX11_settles_77 : decode cX11_settles 77 = .ok (.iconst (-1), 1) := by decide +kernel
theorem dX11_settles_78 : decode cX11_settles 78 = .ok (.ireturn, 1) := by decide +kernel
theorem dX11_line_0 : decode cX11_line 0 = .ok (.iload_n 1, 1) := by decide +kernel
theorem dX11_line_1 : decode cX11_line 1 = .ok (.iconst (-1), 1) := by decide +kernel
theorem dX11_line_2 : decode cX11_line 2 = .ok (.if_icmp .ne 16, 3) := by decide +kernel
theorem dX11_line_5 : decode cX11_line 5 = .ok (.aload_n 0, 1) := by decide +kernel
theorem dX11_line_6 : decode cX11_line 6 = .ok (.getfield 10, 3) := by decide +kernel
theorem dX11_line_9 : decode cX11_line 9 = .ok (.getfield 274, 3) := by decide +kernel
theorem dX11_line_12 : decode cX11_line 12 = .ok (.iconst 0, 1) := by decide +kernel
theorem dX11_line_13 : decode cX11_line 13 = .ok (.putfield 323, 3) := by decide +kernel
theorem dX11_line_16 : decode cX11_line 16 = .ok (.iconst 0, 1) := by decide +kernel
theorem dX11_line_17 : decode cX11_line 17 = .ok (.ireturn, 1) := by decide +kernel
theorem dX11_line_18 : decode cX11_line 18 = .ok (.aload_n 0, 1) := by decide +kernel
theorem dX11_line_19 : decode cX11_line 19 = .ok (.getfield 10, 3) := by decide +kernel
theorem dX11_line_22 : decode cX11_line 22 = .ok (.getfield 67, 3) := by decide +kernel
theorem dX11_line_25 : decode cX11_line 25 = .ok (.iload_n 1, 1) := by decide +kernel
theorem dX11_line_26 : decode cX11_line 26 = .ok (.invokevirtual 242, 3) := by decide +kernel
theorem dX11_line_29 : decode cX11_line 29 = .ok (.ifCond .eq 17, 3) := by decide +kernel
theorem dX11_line_32 : decode cX11_line 32 = .ok (.aload_n 0, 1) := by decide +kernel
theorem dX11_line_33 : decode cX11_line 33 = .ok (.getfield 10, 3) := by decide +kernel
theorem dX11_line_36 : decode cX11_line 36 = .ok (.getfield 67, 3) := by decide +kernel
theorem dX11_line_39 : decode cX11_line 39 = .ok (.iload_n 2, 1) := by decide +kernel
theorem dX11_line_40 : decode cX11_line 40 = .ok (.invokevirtual 242, 3) := by decide +kernel
theorem dX11_line_43 : decode cX11_line 43 = .ok (.ifCond .ne 6, 3) := by decide +kernel
theorem dX11_line_46 : decode cX11_line 46 = .ok (.bipush (-2), 2) := by decide +kernel
theorem dX11_line_48 : decode cX11_line 48 = .ok (.ireturn, 1) := by decide +kernel
theorem dX11_line_49 : decode cX11_line 49 = .ok (.aload_n 0, 1) := by decide +kernel
theorem dX11_line_50 : decode cX11_line 50 = .ok (.getfield 10, 3) := by decide +kernel
theorem dX11_line_53 : decode cX11_line 53 = .ok (.getfield 274, 3) := by decide +kernel
theorem dX11_line_56 : decode cX11_line 56 = .ok (.iload_n 1, 1) := by decide +kernel
theorem dX11_line_57 : decode cX11_line 57 = .ok (.iload_n 2, 1) := by decide +kernel
theorem dX11_line_58 : decode cX11_line 58 = .ok (.invokevirtual 326, 3) := by decide +kernel
theorem dX11_line_61 : decode cX11_line 61 = .ok (.ireturn, 1) := by decide +kernel
theorem dX11_whose_0 : decode cX11_whose 0 = .ok (.iconst 0, 1) := by decide +kernel
theorem dX11_whose_1 : decode cX11_whose 1 = .ok (.istore_n 1, 1) := by decide +kernel
theorem dX11_whose_2 : decode cX11_whose 2 = .ok (.iconst 0, 1) := by decide +kernel
theorem dX11_whose_3 : decode cX11_whose 3 = .ok (.istore_n 2, 1) := by decide +kernel
theorem dX11_whose_4 : decode cX11_whose 4 = .ok (.iload_n 2, 1) := by decide +kernel
theorem dX11_whose_5 : decode cX11_whose 5 = .ok (.aload_n 0, 1) := by decide +kernel
theorem dX11_whose_6 : decode cX11_whose 6 = .ok (.getfield 10, 3) := by decide +kernel
theorem dX11_whose_9 : decode cX11_whose 9 = .ok (.getfield 96, 3) := by decide +kernel
theorem dX11_whose_12 : decode cX11_whose 12 = .ok (.if_icmp .ge 28, 3) := by decide +kernel
theorem dX11_whose_15 : decode cX11_whose 15 = .ok (.aload_n 0, 1) := by decide +kernel
theorem dX11_whose_16 : decode cX11_whose 16 = .ok (.aload_n 0, 1) := by decide +kernel
theorem dX11_whose_17 : decode cX11_whose 17 = .ok (.getfield 21, 3) := by decide +kernel
theorem dX11_whose_20 : decode cX11_whose 20 = .ok (.iload_n 2, 1) := by decide +kernel
theorem dX11_whose_21 : decode cX11_whose 21 = .ok (.aaload, 1) := by decide +kernel
theorem dX11_whose_22 : decode cX11_whose 22 = .ok (.invokevirtual 329, 3) := by decide +kernel
theorem dX11_whose_25 : decode cX11_whose 25 = .ok (.ifCond .eq 9, 3) := by decide +kernel
theorem dX11_whose_28 : decode cX11_whose 28 = .ok (.iload_n 1, 1) := by decide +kernel
theorem dX11_whose_29 : decode cX11_whose 29 = .ok (.iconst 1, 1) := by decide +kernel
theorem dX11_whose_30 : decode cX11_whose 30 = .ok (.iload_n 2, 1) := by decide +kernel
theorem dX11_whose_31 : decode cX11_whose 31 = .ok (.ishl, 1) := by decide +kernel
theorem dX11_whose_32 : decode cX11_whose 32 = .ok (.ior, 1) := by decide +kernel
theorem dX11_whose_33 : decode cX11_whose 33 = .ok (.istore_n 1, 1) := by decide +kernel
theorem dX11_whose_34 : decode cX11_whose 34 = .ok (.iinc 2 1, 3) := by decide +kernel
theorem dX11_whose_37 : decode cX11_whose 37 = .ok (.goto (-33), 3) := by decide +kernel
theorem dX11_whose_40 : decode cX11_whose 40 = .ok (.iload_n 1, 1) := by decide +kernel
theorem dX11_whose_41 : decode cX11_whose 41 = .ok (.ireturn, 1) := by decide +kernel
theorem dX11_pairs_0 : decode cX11_pairs 0 = .ok (.aload_n 0, 1) := by decide +kernel
theorem dX11_pairs_1 : decode cX11_pairs 1 = .ok (.getfield 10, 3) := by decide +kernel
theorem dX11_pairs_4 : decode cX11_pairs 4 = .ok (.getfield 274, 3) := by decide +kernel
theorem dX11_pairs_7 : decode cX11_pairs 7 = .ok (.astore_n 1, 1) := by decide +kernel
theorem dX11_pairs_8 : decode cX11_pairs 8 = .ok (.iconst 0, 1) := by decide +kernel
theorem dX11_pairs_9 : decode cX11_pairs 9 = .ok (.istore_n 2, 1) := by decide +kernel
theorem dX11_pairs_10 : decode cX11_pairs 10 = .ok (.iconst 0, 1) := by decide +kernel
theorem dX11_pairs_11 : decode cX11_pairs 11 = .ok (.istore_n 3, 1) := by decide +kernel
theorem dX11_pairs_12 : decode cX11_pairs 12 = .ok (.iload_n 3, 1) := by decide +kernel
theorem dX11_pairs_13 : decode cX11_pairs 13 = .ok (.aload_n 1, 1) := by decide +kernel
theorem dX11_pairs_14 : decode cX11_pairs 14 = .ok (.getfield 323, 3) := by decide +kernel
theorem dX11_pairs_17 : decode cX11_pairs 17 = .ok (.if_icmp .ge 59, 3) := by decide +kernel
theorem dX11_pairs_20 : decode cX11_pairs 20 = .ok (.aload_n 0, 1) := by decide +kernel
theorem dX11_pairs_21 : decode cX11_pairs 21 = .ok (.getfield 10, 3) := by decide +kernel
theorem dX11_pairs_24 : decode cX11_pairs 24 = .ok (.getfield 67, 3) := by decide +kernel
theorem dX11_pairs_27 : decode cX11_pairs 27 = .ok (.getfield 245, 3) := by decide +kernel
theorem dX11_pairs_30 : decode cX11_pairs 30 = .ok (.aload_n 1, 1) := by decide +kernel
theorem dX11_pairs_31 : decode cX11_pairs 31 = .ok (.getfield 332, 3) := by decide +kernel
theorem dX11_pairs_34 : decode cX11_pairs 34 = .ok (.iload_n 3, 1) := by decide +kernel
theorem dX11_pairs_35 : decode cX11_pairs 35 = .ok (.iaload, 1) := by decide +kernel
theorem dX11_pairs_36 : decode cX11_pairs 36 = .ok (.iaload, 1) := by decide +kernel
theorem dX11_pairs_37 : decode cX11_pairs 37 = .ok (.istore 4, 2) := by decide +kernel
theorem dX11_pairs_39 : decode cX11_pairs 39 = .ok (.aload_n 0, 1) := by decide +kernel
theorem dX11_pairs_40 : decode cX11_pairs 40 = .ok (.getfield 10, 3) := by decide +kernel
theorem dX11_pairs_43 : decode cX11_pairs 43 = .ok (.getfield 67, 3) := by decide +kernel
theorem dX11_pairs_46 : decode cX11_pairs 46 = .ok (.getfield 245, 3) := by decide +kernel
theorem dX11_pairs_49 : decode cX11_pairs 49 = .ok (.aload_n 1, 1) := by decide +kernel
theorem dX11_pairs_50 : decode cX11_pairs 50 = .ok (.getfield 335, 3) := by decide +kernel
theorem dX11_pairs_53 : decode cX11_pairs 53 = .ok (.iload_n 3, 1) := by decide +kernel
theorem dX11_pairs_54 : decode cX11_pairs 54 = .ok (.iaload, 1) := by decide +kernel
theorem dX11_pairs_55 : decode cX11_pairs 55 = .ok (.iaload, 1) := by decide +kernel
theorem dX11_pairs_56 : decode cX11_pairs 56 = .ok (.istore 5, 2) := by decide +kernel
theorem dX11_pairs_58 : decode cX11_pairs 58 = .ok (.iload_n 2, 1) := by decide +kernel
theorem dX11_pairs_59 : decode cX11_pairs 59 = .ok (.iconst 1, 1) := by decide +kernel
theorem dX11_pairs_60 : decode cX11_pairs 60 = .ok (.iconst 4, 1) := by decide +kernel
theorem dX11_pairs_61 : decode cX11_pairs 61 = .ok (.iload 4, 2) := by decide +kernel
theorem dX11_pairs_63 : decode cX11_pairs 63 = .ok (.imul, 1) := by decide +kernel
theorem dX11_pairs_64 : decode cX11_pairs 64 = .ok (.iload 5, 2) := by decide +kernel
theorem dX11_pairs_66 : decode cX11_pairs 66 = .ok (.iadd, 1) := by decide +kernel
theorem dX11_pairs_67 : decode cX11_pairs 67 = .ok (.ishl, 1) := by decide +kernel
theorem dX11_pairs_68 : decode cX11_pairs 68 = .ok (.ior, 1) := by decide +kernel
theorem dX11_pairs_69 : decode cX11_pairs 69 = .ok (.istore_n 2, 1) := by decide +kernel
theorem dX11_pairs_70 : decode cX11_pairs 70 = .ok (.iinc 3 1, 3) := by decide +kernel
theorem dX11_pairs_73 : decode cX11_pairs 73 = .ok (.goto (-61), 3) := by decide +kernel
theorem dX11_pairs_76 : decode cX11_pairs 76 = .ok (.iload_n 2, 1) := by decide +kernel
theorem dX11_pairs_77 : decode cX11_pairs 77 = .ok (.ireturn, 1) := by decide +kernel
theorem dX11_tower_0 : decode cX11_tower 0 = .ok (.iload_n 1, 1) := by decide +kernel
theorem dX11_tower_1 : decode cX11_tower 1 = .ok (.iconst 0, 1) := by decide +kernel
theorem dX11_tower_2 : decode cX11_tower 2 = .ok (.iconst 1, 1) := by decide +kernel
theorem dX11_tower_3 : decode cX11_tower 3 = .ok (.invokestatic 81, 3) := by decide +kernel
theorem dX11_tower_6 : decode cX11_tower 6 = .ok (.ifCond .ne 6, 3) := by decide +kernel
theorem dX11_tower_9 : decode cX11_tower 9 = .ok (.bipush (-2), 2) := by decide +kernel
theorem dX11_tower_11 : decode cX11_tower 11 = .ok (.ireturn, 1) := by decide +kernel
theorem dX11_tower_12 : decode cX11_tower 12 = .ok (.iload_n 2, 1) := by decide +kernel
theorem dX11_tower_13 : decode cX11_tower 13 = .ok (.iconst (-1), 1) := by decide +kernel
theorem dX11_tower_14 : decode cX11_tower 14 = .ok (.if_icmp .ne 18, 3) := by decide +kernel
theorem dX11_tower_17 : decode cX11_tower 17 = .ok (.aload_n 0, 1) := by decide +kernel
theorem dX11_tower_18 : decode cX11_tower 18 = .ok (.getfield 10, 3) := by decide +kernel
theorem dX11_tower_21 : decode cX11_tower 21 = .ok (.getfield 274, 3) := by decide +kernel
theorem dX11_tower_24 : decode cX11_tower 24 = .ok (.getfield 338, 3) := by decide +kernel
theorem dX11_tower_27 : decode cX11_tower 27 = .ok (.iload_n 1, 1) := by decide +kernel
theorem dX11_tower_28 : decode cX11_tower 28 = .ok (.iconst 0, 1) := by decide +kernel
theorem dX11_tower_29 : decode cX11_tower 29 = .ok (.iastore, 1) := by decide +kernel
theorem dX11_tower_30 : decode cX11_tower 30 = .ok (.iconst 0, 1) := by decide +kernel
theorem dX11_tower_31 : decode cX11_tower 31 = .ok (.ireturn, 1) := by decide +kernel
theorem dX11_tower_32 : decode cX11_tower 32 = .ok (.aload_n 0, 1) := by decide +kernel
theorem dX11_tower_33 : decode cX11_tower 33 = .ok (.getfield 10, 3) := by decide +kernel
theorem dX11_tower_36 : decode cX11_tower 36 = .ok (.getfield 67, 3) := by decide +kernel
theorem dX11_tower_39 : decode cX11_tower 39 = .ok (.iload_n 2, 1) := by decide +kernel
theorem dX11_tower_40 : decode cX11_tower 40 = .ok (.invokevirtual 230, 3) := by decide +kernel
theorem dX11_tower_43 : decode cX11_tower 43 = .ok (.ifCond .eq 18, 3) := by decide +kernel
theorem dX11_tower_46 : decode cX11_tower 46 = .ok (.aload_n 0, 1) := by decide +kernel
theorem dX11_tower_47 : decode cX11_tower 47 = .ok (.getfield 10, 3) := by decide +kernel
theorem dX11_tower_50 : decode cX11_tower 50 = .ok (.getfield 274, 3) := by decide +kernel
theorem dX11_tower_53 : decode cX11_tower 53 = .ok (.iload_n 1, 1) := by decide +kernel
theorem dX11_tower_54 : decode cX11_tower 54 = .ok (.iload_n 2, 1) := by decide +kernel
theorem dX11_tower_55 : decode cX11_tower 55 = .ok (.invokevirtual 341, 3) := by decide +kernel
theorem dX11_tower_58 : decode cX11_tower 58 = .ok (.goto 5, 3) := by decide +kernel
theorem dX11_tower_61 : decode cX11_tower 61 = .ok (.bipush (-2), 2) := by decide +kernel
theorem dX11_tower_63 : decode cX11_tower 63 = .ok (.ireturn, 1) := by decide +kernel
theorem dX11_lies_0 : decode cX11_lies 0 = .ok (.iload_n 1, 1) := by decide +kernel
theorem dX11_lies_1 : decode cX11_lies 1 = .ok (.ifCond .eq 16, 3) := by decide +kernel
theorem dX11_lies_4 : decode cX11_lies 4 = .ok (.aload_n 0, 1) := by decide +kernel
theorem dX11_lies_5 : decode cX11_lies 5 = .ok (.getfield 10, 3) := by decide +kernel
theorem dX11_lies_8 : decode cX11_lies 8 = .ok (.getfield 274, 3) := by decide +kernel
theorem dX11_lies_11 : decode cX11_lies 11 = .ok (.invokevirtual 344, 3) := by decide +kernel
theorem dX11_lies_14 : decode cX11_lies 14 = .ok (.goto 13, 3) := by decide +kernel
theorem dX11_lies_17 : decode cX11_lies 17 = .ok (.aload_n 0, 1) := by decide +kernel
theorem dX11_lies_18 : decode cX11_lies 18 = .ok (.getfield 10, 3) := by decide +kernel
theorem dX11_lies_21 : decode cX11_lies 21 = .ok (.getfield 274, 3) := by decide +kernel
theorem dX11_lies_24 : decode cX11_lies 24 = .ok (.invokevirtual 348, 3) := by decide +kernel
theorem dX11_lies_27 : decode cX11_lies 27 = .ok (.ireturn, 1) := by decide +kernel
theorem dX11_roundOf_0 : decode cX11_roundOf 0 = .ok (.iload_n 1, 1) := by decide +kernel
theorem dX11_roundOf_1 : decode cX11_roundOf 1 = .ok (.istore_n 2, 1) := by decide +kernel
theorem dX11_roundOf_2 : decode cX11_roundOf 2 = .ok (.iconst 0, 1) := by decide +kernel
theorem dX11_roundOf_3 : decode cX11_roundOf 3 = .ok (.istore_n 3, 1) := by decide +kernel
theorem dX11_roundOf_4 : decode cX11_roundOf 4 = .ok (.iload_n 3, 1) := by decide +kernel
theorem dX11_roundOf_5 : decode cX11_roundOf 5 = .ok (.bipush 10, 2) := by decide +kernel
theorem dX11_roundOf_7 : decode cX11_roundOf 7 = .ok (.if_icmp .ge 22, 3) := by decide +kernel
theorem dX11_roundOf_10 : decode cX11_roundOf 10 = .ok (.aload_n 0, 1) := by decide +kernel
theorem dX11_roundOf_11 : decode cX11_roundOf 11 = .ok (.getfield 10, 3) := by decide +kernel
theorem dX11_roundOf_14 : decode cX11_roundOf 14 = .ok (.getfield 274, 3) := by decide +kernel
theorem dX11_roundOf_17 : decode cX11_roundOf 17 = .ok (.getfield 306, 3) := by decide +kernel
theorem dX11_roundOf_20 : decode cX11_roundOf 20 = .ok (.iload_n 2, 1) := by decide +kernel
theorem dX11_roundOf_21 : decode cX11_roundOf 21 = .ok (.iaload, 1) := by decide +kernel
theorem dX11_roundOf_22 : decode cX11_roundOf 22 = .ok (.istore_n 2, 1) := by decide +kernel
theorem dX11_roundOf_23 : decode cX11_roundOf 23 = .ok (.iinc 3 1, 3) := by decide +kernel
theorem dX11_roundOf_26 : decode cX11_roundOf 26 = .ok (.goto (-22), 3) := by decide +kernel
theorem dX11_roundOf_29 : decode cX11_roundOf 29 = .ok (.aload_n 0, 1) := by decide +kernel
theorem dX11_roundOf_30 : decode cX11_roundOf 30 = .ok (.getfield 10, 3) := by decide +kernel
theorem dX11_roundOf_33 : decode cX11_roundOf 33 = .ok (.getfield 274, 3) := by decide +kernel
theorem dX11_roundOf_36 : decode cX11_roundOf 36 = .ok (.iload_n 2, 1) := by decide +kernel
theorem dX11_roundOf_37 : decode cX11_roundOf 37 = .ok (.invokevirtual 309, 3) := by decide +kernel
theorem dX11_roundOf_40 : decode cX11_roundOf 40 = .ok (.ireturn, 1) := by decide +kernel
theorem dX11_allLinesRight_0 : decode cX11_allLinesRight 0 = .ok (.aload_n 0, 1) := by decide +kernel
theorem dX11_allLinesRight_1 : decode cX11_allLinesRight 1 = .ok (.getfield 10, 3) := by decide +kernel
theorem dX11_allLinesRight_4 : decode cX11_allLinesRight 4 = .ok (.getfield 274, 3) := by decide +kernel
theorem dX11_allLinesRight_7 : decode cX11_allLinesRight 7 = .ok (.astore_n 2, 1) := by decide +kernel
theorem dX11_allLinesRight_8 : decode cX11_allLinesRight 8 = .ok (.iconst 0, 1) := by decide +kernel
theorem dX11_allLinesRight_9 : decode cX11_allLinesRight 9 = .ok (.istore_n 3, 1) := by decide +kernel
theorem dX11_allLinesRight_10 : decode cX11_allLinesRight 10 = .ok (.iload_n 3, 1) := by decide +kernel
theorem dX11_allLinesRight_11 : decode cX11_allLinesRight 11 = .ok (.aload_n 2, 1) := by decide +kernel
theorem dX11_allLinesRight_12 : decode cX11_allLinesRight 12 = .ok (.getfield 323, 3) := by decide +kernel
theorem dX11_allLinesRight_15 : decode cX11_allLinesRight 15 = .ok (.if_icmp .ge 35, 3) := by decide +kernel
theorem dX11_allLinesRight_18 : decode cX11_allLinesRight 18 = .ok (.aload_n 0, 1) := by decide +kernel
theorem dX11_allLinesRight_19 : decode cX11_allLinesRight 19 = .ok (.getfield 54, 3) := by decide +kernel
theorem dX11_allLinesRight_22 : decode cX11_allLinesRight 22 = .ok (.aload_n 1, 1) := by decide +kernel
theorem dX11_allLinesRight_23 : decode cX11_allLinesRight 23 = .ok (.aload_n 2, 1) := by decide +kernel
theorem dX11_allLinesRight_24 : decode cX11_allLinesRight 24 = .ok (.getfield 332, 3) := by decide +kernel
theorem dX11_allLinesRight_27 : decode cX11_allLinesRight 27 = .ok (.iload_n 3, 1) := by decide +kernel
theorem dX11_allLinesRight_28 : decode cX11_allLinesRight 28 = .ok (.iaload, 1) := by decide +kernel
theorem dX11_allLinesRight_29 : decode cX11_allLinesRight 29 = .ok (.aload_n 2, 1) := by decide +kernel
theorem dX11_allLinesRight_30 : decode cX11_allLinesRight 30 = .ok (.getfield 335, 3) := by decide +kernel
theorem dX11_allLinesRight_33 : decode cX11_allLinesRight 33 = .ok (.iload_n 3, 1) := by decide +kernel
theorem dX11_allLinesRight_34 : decode cX11_allLinesRight 34 = .ok (.iaload, 1) := by decide +kernel
theorem dX11_allLinesRight_35 : decode cX11_allLinesRight 35 = .ok (.iconst 1, 1) := by decide +kernel
theorem dX11_allLinesRight_36 : decode cX11_allLinesRight 36 = .ok (.invokevirtual 351, 3) := by decide +kernel
theorem dX11_allLinesRight_39 : decode cX11_allLinesRight 39 = .ok (.ifCond .ne 5, 3) := by decide +kernel
theorem dX11_allLinesRight_42 : decode cX11_allLinesRight 42 = .ok (.iconst 0, 1) := by decide +kernel
theorem dX11_allLinesRight_43 : decode cX11_allLinesRight 43 = .ok (.ireturn, 1) := by decide +kernel
theorem dX11_allLinesRight_44 : decode cX11_allLinesRight 44 = .ok (.iinc 3 1, 3) := by decide +kernel
theorem dX11_allLinesRight_47 : decode cX11_allLinesRight 47 = .ok (.goto (-37), 3) := by decide +kernel
theorem dX11_allLinesRight_50 : decode cX11_allLinesRight 50 = .ok (.iconst 1, 1) := by decide +kernel
theorem dX11_allLinesRight_51 : decode cX11_allLinesRight 51 = .ok (.ireturn, 1) := by decide +kernel
theorem dX11_newBell_0 : decode cX11_newBell 0 = .ok (.iload_n 1, 1) := by decide +kernel
theorem dX11_newBell_1 : decode cX11_newBell 1 = .ok (.iconst 1, 1) := by decide +kernel
theorem dX11_newBell_2 : decode cX11_newBell 2 = .ok (.bipush 9, 2) := by decide +kernel
theorem dX11_newBell_4 : decode cX11_newBell 4 = .ok (.invokestatic 81, 3) := by decide +kernel
theorem dX11_newBell_7 : decode cX11_newBell 7 = .ok (.ifCond .ne 5, 3) := by decide +kernel
theorem dX11_newBell_10 : decode cX11_newBell 10 = .ok (.iconst (-1), 1) := by decide +kernel
theorem dX11_newBell_11 : decode cX11_newBell 11 = .ok (.ireturn, 1) := by decide +kernel
theorem dX11_newBell_12 : decode cX11_newBell 12 = .ok (.iconst 0, 1) := by decide +kernel
theorem dX11_newBell_13 : decode cX11_newBell 13 = .ok (.istore_n 2, 1) := by decide +kernel
theorem dX11_newBell_14 : decode cX11_newBell 14 = .ok (.iload_n 2, 1) := by decide +kernel
theorem dX11_newBell_15 : decode cX11_newBell 15 = .ok (.bipush 9, 2) := by decide +kernel
theorem dX11_newBell_17 : decode cX11_newBell 17 = .ok (.if_icmp .gt 26, 3) := by decide +kernel
theorem dX11_newBell_20 : decode cX11_newBell 20 = .ok (.aload_n 0, 1) := by decide +kernel
theorem dX11_newBell_21 : decode cX11_newBell 21 = .ok (.getfield 10, 3) := by decide +kernel
theorem dX11_newBell_24 : decode cX11_newBell 24 = .ok (.getfield 67, 3) := by decide +kernel
theorem dX11_newBell_27 : decode cX11_newBell 27 = .ok (.iload_n 2, 1) := by decide +kernel
theorem dX11_newBell_28 : decode cX11_newBell 28 = .ok (.invokevirtual 355, 3) := by decide +kernel
theorem dX11_newBell_31 : decode cX11_newBell 31 = .ok (.iload_n 1, 1) := by decide +kernel
theorem dX11_newBell_32 : decode cX11_newBell 32 = .ok (.if_icmp .lt 5, 3) := by decide +kernel
theorem dX11_newBell_35 : decode cX11_newBell 35 = .ok (.iload_n 2, 1) := by decide +kernel
theorem dX11_newBell_36 : decode cX11_newBell 36 = .ok (.ireturn, 1) := by decide +kernel
theorem dX11_newBell_37 : decode cX11_newBell 37 = .ok (.iinc 2 1, 3) := by decide +kernel
theorem dX11_newBell_40 : decode cX11_newBell 40 = .ok (.goto (-26), 3) := by decide +kernel
theorem dX11_newBell_43 : decode cX11_newBell 43 = .ok (.iconst (-1), 1) := by decide +kernel
theorem dX11_newBell_44 : decode cX11_newBell 44 = .ok (.ireturn, 1) := by decide +kernel
theorem dX11_farthest_0 : decode cX11_farthest 0 = .ok (.iconst 0, 1) := by decide +kernel
theorem dX11_farthest_1 : decode cX11_farthest 1 = .ok (.istore_n 1, 1) := by decide +kernel
theorem dX11_farthest_2 : decode cX11_farthest 2 = .ok (.iconst 0, 1) := by decide +kernel
theorem dX11_farthest_3 : decode cX11_farthest 3 = .ok (.istore_n 2, 1) := by decide +kernel
theorem dX11_farthest_4 : decode cX11_farthest 4 = .ok (.iload_n 2, 1) := by decide +kernel
theorem dX11_farthest_5 : decode cX11_farthest 5 = .ok (.bipush 9, 2) := by decide +kernel
theorem dX11_farthest_7 : decode cX11_farthest 7 = .ok (.if_icmp .gt 25, 3) := by decide +kernel
theorem dX11_farthest_10 : decode cX11_farthest 10 = .ok (.iload_n 1, 1) := by decide +kernel
theorem dX11_farthest_11 : decode cX11_farthest 11 = .ok (.aload_n 0, 1) := by decide +kernel
theorem dX11_farthest_12 : decode cX11_farthest 12 = .ok (.getfield 10, 3) := by decide +kernel
theorem dX11_farthest_15 : decode cX11_farthest 15 = .ok (.getfield 67, 3) := by decide +kernel
theorem dX11_farthest_18 : decode cX11_farthest 18 = .ok (.iload_n 2, 1) := by decide +kernel
theorem dX11_farthest_19 : decode cX11_farthest 19 = .ok (.invokevirtual 355, 3) := by decide +kernel
theorem dX11_farthest_22 : decode cX11_farthest 22 = .ok (.invokestatic 358, 3) := by decide +kernel
theorem dX11_farthest_25 : decode cX11_farthest 25 = .ok (.istore_n 1, 1) := by decide +kernel
theorem dX11_farthest_26 : decode cX11_farthest 26 = .ok (.iinc 2 1, 3) := by decide +kernel
theorem dX11_farthest_29 : decode cX11_farthest 29 = .ok (.goto (-25), 3) := by decide +kernel
theorem dX11_farthest_32 : decode cX11_farthest 32 = .ok (.iload_n 1, 1) := by decide +kernel
theorem dX11_farthest_33 : decode cX11_farthest 33 = .ok (.ireturn, 1) := by decide +kernel
theorem dX11_ropes_0 : decode cX11_ropes 0 = .ok (.aload_n 0, 1) := by decide +kernel
theorem dX11_ropes_1 : decode cX11_ropes 1 = .ok (.getfield 10, 3) := by decide +kernel
theorem dX11_ropes_4 : decode cX11_ropes 4 = .ok (.getfield 67, 3) := by decide +kernel
theorem dX11_ropes_7 : decode cX11_ropes 7 = .ok (.astore_n 1, 1) := by decide +kernel
theorem dX11_ropes_8 : decode cX11_ropes 8 = .ok (.iconst 0, 1) := by decide +kernel
theorem dX11_ropes_9 : decode cX11_ropes 9 = .ok (.istore_n 2, 1) := by decide +kernel
theorem dX11_ropes_10 : decode cX11_ropes 10 = .ok (.iconst 0, 1) := by decide +kernel
theorem dX11_ropes_11 : decode cX11_ropes 11 = .ok (.istore_n 3, 1) := by decide +kernel
theorem dX11_ropes_12 : decode cX11_ropes 12 = .ok (.iload_n 3, 1) := by decide +kernel
theorem dX11_ropes_13 : decode cX11_ropes 13 = .ok (.aload_n 1, 1) := by decide +kernel
theorem dX11_ropes_14 : decode cX11_ropes 14 = .ok (.getfield 166, 3) := by decide +kernel
theorem dX11_ropes_17 : decode cX11_ropes 17 = .ok (.if_icmp .ge 31, 3) := by decide +kernel
theorem dX11_ropes_20 : decode cX11_ropes 20 = .ok (.aload_n 1, 1) := by decide +kernel
theorem dX11_ropes_21 : decode cX11_ropes 21 = .ok (.getfield 239, 3) := by decide +kernel
theorem dX11_ropes_24 : decode cX11_ropes 24 = .ok (.iload_n 3, 1) := by decide +kernel
theorem dX11_ropes_25 : decode cX11_ropes 25 = .ok (.iaload, 1) := by decide +kernel
theorem dX11_ropes_26 : decode cX11_ropes 26 = .ok (.aload_n 0, 1) := by decide +kernel
theorem dX11_ropes_27 : decode cX11_ropes 27 = .ok (.getfield 10, 3) := by decide +kernel
theorem dX11_ropes_30 : decode cX11_ropes 30 = .ok (.getfield 85, 3) := by decide +kernel
theorem dX11_ropes_33 : decode cX11_ropes 33 = .ok (.if_icmp .gt 9, 3) := by decide +kernel
theorem dX11_ropes_36 : decode cX11_ropes 36 = .ok (.iload_n 2, 1) := by decide +kernel
theorem dX11_ropes_37 : decode cX11_ropes 37 = .ok (.iconst 1, 1) := by decide +kernel
theorem dX11_ropes_38 : decode cX11_ropes 38 = .ok (.iload_n 3, 1) := by decide +kernel
theorem dX11_ropes_39 : decode cX11_ropes 39 = .ok (.ishl, 1) := by decide +kernel
theorem dX11_ropes_40 : decode cX11_ropes 40 = .ok (.ior, 1) := by decide +kernel
theorem dX11_ropes_41 : decode cX11_ropes 41 = .ok (.istore_n 2, 1) := by decide +kernel
theorem dX11_ropes_42 : decode cX11_ropes 42 = .ok (.iinc 3 1, 3) := by decide +kernel
theorem dX11_ropes_45 : decode cX11_ropes 45 = .ok (.goto (-33), 3) := by decide +kernel
theorem dX11_ropes_48 : decode cX11_ropes 48 = .ok (.iload_n 2, 1) := by decide +kernel
theorem dX11_ropes_49 : decode cX11_ropes 49 = .ok (.ireturn, 1) := by decide +kernel
theorem dX11_changes_0 : decode cX11_changes 0 = .ok (.aload_n 0, 1) := by decide +kernel
theorem dX11_changes_1 : decode cX11_changes 1 = .ok (.getfield 44, 3) := by decide +kernel
theorem dX11_changes_4 : decode cX11_changes 4 = .ok (.iload_n 1, 1) := by decide +kernel
theorem dX11_changes_5 : decode cX11_changes 5 = .ok (.iload_n 2, 1) := by decide +kernel
theorem dX11_changes_6 : decode cX11_changes 6 = .ok (.iload_n 3, 1) := by decide +kernel
theorem dX11_changes_7 : decode cX11_changes 7 = .ok (.iload 4, 2) := by decide +kernel
theorem dX11_changes_9 : decode cX11_changes 9 = .ok (.invokevirtual 363, 3) := by decide +kernel
theorem dX11_changes_12 : decode cX11_changes 12 = .ok (.ireturn, 1) := by decide +kernel
theorem dX11_takes_0 : decode cX11_takes 0 = .ok (.aload_n 0, 1) := by decide +kernel
theorem dX11_takes_1 : decode cX11_takes 1 = .ok (.getfield 10, 3) := by decide +kernel
theorem dX11_takes_4 : decode cX11_takes 4 = .ok (.getfield 67, 3) := by decide +kernel
theorem dX11_takes_7 : decode cX11_takes 7 = .ok (.astore_n 2, 1) := by decide +kernel
theorem dX11_takes_8 : decode cX11_takes 8 = .ok (.iload_n 1, 1) := by decide +kernel
theorem dX11_takes_9 : decode cX11_takes 9 = .ok (.iconst 0, 1) := by decide +kernel
theorem dX11_takes_10 : decode cX11_takes 10 = .ok (.iconst 1, 1) := by decide +kernel
theorem dX11_takes_11 : decode cX11_takes 11 = .ok (.aload_n 2, 1) := by decide +kernel
theorem dX11_takes_12 : decode cX11_takes 12 = .ok (.getfield 169, 3) := by decide +kernel
theorem dX11_takes_15 : decode cX11_takes 15 = .ok (.ishl, 1) := by decide +kernel
theorem dX11_takes_16 : decode cX11_takes 16 = .ok (.iconst 1, 1) := by decide +kernel
theorem dX11_takes_17 : decode cX11_takes 17 = .ok (.isub, 1) := by decide +kernel
theorem dX11_takes_18 : decode cX11_takes 18 = .ok (.invokestatic 81, 3) := by decide +kernel
theorem dX11_takes_21 : decode cX11_takes 21 = .ok (.ifCond .ne 5, 3) := by decide +kernel
theorem dX11_takes_24 : decode cX11_takes 24 = .ok (.iconst (-1), 1) := by decide +kernel
theorem dX11_takes_25 : decode cX11_takes 25 = .ok (.ireturn, 1) := by decide +kernel
theorem dX11_takes_26 : decode cX11_takes 26 = .ok (.iconst 0, 1) := by decide +kernel
theorem dX11_takes_27 : decode cX11_takes 27 = .ok (.istore_n 3, 1) := by decide +kernel
theorem dX11_takes_28 : decode cX11_takes 28 = .ok (.iconst 0, 1) := by decide +kernel
theorem dX11_takes_29 : decode cX11_takes 29 = .ok (.istore 4, 2) := by decide +kernel
theorem dX11_takes_31 : decode cX11_takes 31 = .ok (.iload 4, 2) := by decide +kernel
theorem dX11_takes_33 : decode cX11_takes 33 = .ok (.aload_n 2, 1) := by decide +kernel
theorem dX11_takes_34 : decode cX11_takes 34 = .ok (.getfield 169, 3) := by decide +kernel
theorem dX11_takes_37 : decode cX11_takes 37 = .ok (.if_icmp .ge 28, 3) := by decide +kernel
theorem dX11_takes_40 : decode cX11_takes 40 = .ok (.iload_n 1, 1) := by decide +kernel
theorem dX11_takes_41 : decode cX11_takes 41 = .ok (.iload 4, 2) := by decide +kernel
theorem dX11_takes_43 : decode cX11_takes 43 = .ok (.ishr, 1) := by decide +kernel
theorem dX11_takes_44 : decode cX11_takes 44 = .ok (.iconst 1, 1) := by decide +kernel
theorem dX11_takes_45 : decode cX11_takes 45 = .ok (.iand, 1) := by decide +kernel
theorem dX11_takes_46 : decode cX11_takes 46 = .ok (.ifCond .eq 13, 3) := by decide +kernel
theorem dX11_takes_49 : decode cX11_takes 49 = .ok (.iload_n 3, 1) := by decide +kernel
theorem dX11_takes_50 : decode cX11_takes 50 = .ok (.aload_n 2, 1) := by decide +kernel
theorem dX11_takes_51 : decode cX11_takes 51 = .ok (.getfield 198, 3) := by decide +kernel
theorem dX11_takes_54 : decode cX11_takes 54 = .ok (.iload 4, 2) := by decide +kernel
theorem dX11_takes_56 : decode cX11_takes 56 = .ok (.iaload, 1) := by decide +kernel
theorem dX11_takes_57 : decode cX11_takes 57 = .ok (.iadd, 1) := by decide +kernel
theorem dX11_takes_58 : decode cX11_takes 58 = .ok (.istore_n 3, 1) := by decide +kernel
theorem dX11_takes_59 : decode cX11_takes 59 = .ok (.iinc 4 1, 3) := by decide +kernel
theorem dX11_takes_62 : decode cX11_takes 62 = .ok (.goto (-31), 3) := by decide +kernel
theorem dX11_takes_65 : decode cX11_takes 65 = .ok (.iload_n 3, 1) := by decide +kernel
theorem dX11_takes_66 : decode cX11_takes 66 = .ok (.ireturn, 1) := by decide +kernel
theorem dX11_image_0 : decode cX11_image 0 = .ok (.aload_n 0, 1) := by decide +kernel
theorem dX11_image_1 : decode cX11_image 1 = .ok (.getfield 16, 3) := by decide +kernel
theorem dX11_image_4 : decode cX11_image 4 = .ok (.aload_n 0, 1) := by decide +kernel
theorem dX11_image_5 : decode cX11_image 5 = .ok (.getfield 10, 3) := by decide +kernel
theorem dX11_image_8 : decode cX11_image 8 = .ok (.invokevirtual 367, 3) := by decide +kernel
theorem dX11_image_11 : decode cX11_image 11 = .ok (.aload_n 0, 1) := by decide +kernel
theorem dX11_image_12 : decode cX11_image 12 = .ok (.getfield 10, 3) := by decide +kernel
theorem dX11_image_15 : decode cX11_image 15 = .ok (.getfield 134, 3) := by decide +kernel
theorem dX11_image_18 : decode cX11_image 18 = .ok (.getfield 146, 3) := by decide +kernel
theorem dX11_image_21 : decode cX11_image 21 = .ok (.ireturn, 1) := by decide +kernel
theorem dX11_back_0 : decode cX11_back 0 = .ok (.aload_n 0, 1) := by decide +kernel
theorem dX11_back_1 : decode cX11_back 1 = .ok (.getfield 10, 3) := by decide +kernel
theorem dX11_back_4 : decode cX11_back 4 = .ok (.aload_n 0, 1) := by decide +kernel
theorem dX11_back_5 : decode cX11_back 5 = .ok (.getfield 16, 3) := by decide +kernel
theorem dX11_back_8 : decode cX11_back 8 = .ok (.invokevirtual 367, 3) := by decide +kernel
theorem dX11_back_11 : decode cX11_back 11 = .ok (.aload_n 0, 1) := by decide +kernel
theorem dX11_back_12 : decode cX11_back 12 = .ok (.getfield 54, 3) := by decide +kernel
theorem dX11_back_15 : decode cX11_back 15 = .ok (.invokevirtual 115, 3) := by decide +kernel
theorem dX11_back_18 : decode cX11_back 18 = .ok (.aload_n 0, 1) := by decide +kernel
theorem dX11_back_19 : decode cX11_back 19 = .ok (.getfield 10, 3) := by decide +kernel
theorem dX11_back_22 : decode cX11_back 22 = .ok (.getfield 134, 3) := by decide +kernel
theorem dX11_back_25 : decode cX11_back 25 = .ok (.getfield 146, 3) := by decide +kernel
theorem dX11_back_28 : decode cX11_back 28 = .ok (.ireturn, 1) := by decide +kernel
theorem dX11_about_0 : decode cX11_about 0 = .ok (.iload_n 1, 1) := by decide +kernel
theorem dX11_about_1 : decode cX11_about 1 = .ok (.tableswitch 111 0 6 #[43, 54, 65, 73, 81, 92, 103], 43) := by decide +kernel
theorem dX11_about_44 : decode cX11_about 44 = .ok (.aload_n 0, 1) := by decide +kernel
theorem dX11_about_45 : decode cX11_about 45 = .ok (.getfield 10, 3) := by decide +kernel
theorem dX11_about_48 : decode cX11_about 48 = .ok (.getfield 67, 3) := by decide +kernel
theorem dX11_about_51 : decode cX11_about 51 = .ok (.getfield 166, 3) := by decide +kernel
theorem dX11_about_54 : decode cX11_about 54 = .ok (.ireturn, 1) := by decide +kernel
theorem dX11_about_55 : decode cX11_about 55 = .ok (.aload_n 0, 1) := by decide +kernel
theorem dX11_about_56 : decode cX11_about 56 = .ok (.getfield 10, 3) := by decide +kernel
theorem dX11_about_59 : decode cX11_about 59 = .ok (.getfield 67, 3) := by decide +kernel
theorem dX11_about_62 : decode cX11_about 62 = .ok (.getfield 169, 3) := by decide +kernel
theorem dX11_about_65 : decode cX11_about 65 = .ok (.ireturn, 1) := by decide +kernel
theorem dX11_about_66 : decode cX11_about 66 = .ok (.aload_n 0, 1) := by decide +kernel
theorem dX11_about_67 : decode cX11_about 67 = .ok (.getfield 10, 3) := by decide +kernel
theorem dX11_about_70 : decode cX11_about 70 = .ok (.getfield 96, 3) := by decide +kernel
theorem dX11_about_73 : decode cX11_about 73 = .ok (.ireturn, 1) := by decide +kernel
theorem dX11_about_74 : decode cX11_about 74 = .ok (.aload_n 0, 1) := by decide +kernel
theorem dX11_about_75 : decode cX11_about 75 = .ok (.getfield 10, 3) := by decide +kernel
theorem dX11_about_78 : decode cX11_about 78 = .ok (.getfield 112, 3) := by decide +kernel
theorem dX11_about_81 : decode cX11_about 81 = .ok (.ireturn, 1) := by decide +kernel
theorem dX11_about_82 : decode cX11_about 82 = .ok (.aload_n 0, 1) := by decide +kernel
theorem dX11_about_83 : decode cX11_about 83 = .ok (.getfield 10, 3) := by decide +kernel
theorem dX11_about_86 : decode cX11_about 86 = .ok (.getfield 178, 3) := by decide +kernel
theorem dX11_about_89 : decode cX11_about 89 = .ok (.getfield 371, 3) := by decide +kernel
theorem dX11_about_92 : decode cX11_about 92 = .ok (.ireturn, 1) := by decide +kernel
theorem dX11_about_93 : decode cX11_about 93 = .ok (.aload_n 0, 1) := by decide +kernel
theorem dX11_about_94 : decode cX11_about 94 = .ok (.getfield 10, 3) := by decide +kernel
theorem dX11_about_97 : decode cX11_about 97 = .ok (.getfield 274, 3) := by decide +kernel
theorem dX11_about_100 : decode cX11_about 100 = .ok (.getfield 323, 3) := by decide +kernel
theorem dX11_about_103 : decode cX11_about 103 = .ok (.ireturn, 1) := by decide +kernel
theorem dX11_about_104 : decode cX11_about 104 = .ok (.aload_n 0, 1) := by decide +kernel
theorem dX11_about_105 : decode cX11_about 105 = .ok (.getfield 28, 3) := by decide +kernel
theorem dX11_about_108 : decode cX11_about 108 = .ok (.getfield 89, 3) := by decide +kernel
theorem dX11_about_111 : decode cX11_about 111 = .ok (.ireturn, 1) := by decide +kernel
theorem dX11_about_112 : decode cX11_about 112 = .ok (.bipush (-2), 2) := by decide +kernel
theorem dX11_about_114 : decode cX11_about 114 = .ok (.ireturn, 1) := by decide +kernel
theorem dX11_within_0 : decode cX11_within 0 = .ok (.iload_n 0, 1) := by decide +kernel
theorem dX11_within_1 : decode cX11_within 1 = .ok (.iload_n 1, 1) := by decide +kernel
theorem dX11_within_2 : decode cX11_within 2 = .ok (.if_icmp .lt 12, 3) := by decide +kernel
theorem dX11_within_5 : decode cX11_within 5 = .ok (.iload_n 0, 1) := by decide +kernel
theorem dX11_within_6 : decode cX11_within 6 = .ok (.iload_n 2, 1) := by decide +kernel
theorem dX11_within_7 : decode cX11_within 7 = .ok (.if_icmp .gt 7, 3) := by decide +kernel
theorem dX11_within_10 : decode cX11_within 10 = .ok (.iconst 1, 1) := by decide +kernel
theorem dX11_within_11 : decode cX11_within 11 = .ok (.goto 4, 3) := by decide +kernel
theorem dX11_within_14 : decode cX11_within 14 = .ok (.iconst 0, 1) := by decide +kernel
theorem dX11_within_15 : decode cX11_within 15 = .ok (.ireturn, 1) := by decide +kernel
theorem dX11_lowestOf_0 : decode cX11_lowestOf 0 = .ok (.iload_n 0, 1) := by decide +kernel
theorem dX11_lowestOf_1 : decode cX11_lowestOf 1 = .ok (.iload_n 0, 1) := by decide +kernel
theorem dX11_lowestOf_2 : decode cX11_lowestOf 2 = .ok (.ineg, 1) := by decide +kernel
theorem dX11_lowestOf_3 : decode cX11_lowestOf 3 = .ok (.iand, 1) := by decide +kernel
theorem dX11_lowestOf_4 : decode cX11_lowestOf 4 = .ok (.iconst 1, 1) := by decide +kernel
theorem dX11_lowestOf_5 : decode cX11_lowestOf 5 = .ok (.isub, 1) := by decide +kernel
theorem dX11_lowestOf_6 : decode cX11_lowestOf 6 = .ok (.invokestatic 312, 3) := by decide +kernel
theorem dX11_lowestOf_9 : decode cX11_lowestOf 9 = .ok (.ireturn, 1) := by decide +kernel
theorem dX11_commonDivisor_0 : decode cX11_commonDivisor 0 = .ok (.lload_n 0, 1) := by decide +kernel
theorem dX11_commonDivisor_1 : decode cX11_commonDivisor 1 = .ok (.lstore 4, 2) := by decide +kernel
theorem dX11_commonDivisor_3 : decode cX11_commonDivisor 3 = .ok (.lload_n 2, 1) := by decide +kernel
theorem dX11_commonDivisor_4 : decode cX11_commonDivisor 4 = .ok (.lstore 6, 2) := by decide +kernel
theorem dX11_commonDivisor_6 : decode cX11_commonDivisor 6 = .ok (.iconst 0, 1) := by decide +kernel
theorem dX11_commonDivisor_7 : decode cX11_commonDivisor 7 = .ok (.istore 8, 2) := by decide +kernel
theorem dX11_commonDivisor_9 : decode cX11_commonDivisor 9 = .ok (.iload 8, 2) := by decide +kernel
theorem dX11_commonDivisor_11 : decode cX11_commonDivisor 11 = .ok (.bipush 100, 2) := by decide +kernel
theorem dX11_commonDivisor_13 : decode cX11_commonDivisor 13 = .ok (.if_icmp .ge 31, 3) := by decide +kernel
theorem dX11_commonDivisor_16 : decode cX11_commonDivisor 16 = .ok (.lload 6, 2) := by decide +kernel
theorem dX11_commonDivisor_18 : decode cX11_commonDivisor 18 = .ok (.lconst 0, 1) := by decide +kernel
theorem dX11_commonDivisor_19 : decode cX11_commonDivisor 19 = .ok (.lcmp, 1) := by decide +kernel
theorem dX11_commonDivisor_20 : decode cX11_commonDivisor 20 = .ok (.ifCond .eq 24, 3) := by decide +kernel
theorem dX11_commonDivisor_23 : decode cX11_commonDivisor 23 = .ok (.lload 4, 2) := by decide +kernel
theorem dX11_commonDivisor_25 : decode cX11_commonDivisor 25 = .ok (.lload 6, 2) := by decide +kernel
theorem dX11_commonDivisor_27 : decode cX11_commonDivisor 27 = .ok (.lrem, 1) := by decide +kernel
theorem dX11_commonDivisor_28 : decode cX11_commonDivisor 28 = .ok (.lstore 9, 2) := by decide +kernel
theorem dX11_commonDivisor_30 : decode cX11_commonDivisor 30 = .ok (.lload 6, 2) := by decide +kernel
theorem dX11_commonDivisor_32 : decode cX11_commonDivisor 32 = .ok (.lstore 4, 2) := by decide +kernel
theorem dX11_commonDivisor_34 : decode cX11_commonDivisor 34 = .ok (.lload 9, 2) := by decide +kernel
theorem dX11_commonDivisor_36 : decode cX11_commonDivisor 36 = .ok (.lstore 6, 2) := by decide +kernel
theorem dX11_commonDivisor_38 : decode cX11_commonDivisor 38 = .ok (.iinc 8 1, 3) := by decide +kernel
theorem dX11_commonDivisor_41 : decode cX11_commonDivisor 41 = .ok (.goto (-32), 3) := by decide +kernel
theorem dX11_commonDivisor_44 : decode cX11_commonDivisor 44 = .ok (.lload 4, 2) := by decide +kernel
theorem dX11_commonDivisor_46 : decode cX11_commonDivisor 46 = .ok (.lreturn, 1) := by decide +kernel
