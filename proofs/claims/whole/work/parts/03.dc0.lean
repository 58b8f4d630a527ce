theorem dX4_init_0 : decode cX4_init 0 = .ok (.aload_n 0, 1) := by decide +kernel
theorem dX4_init_1 : decode cX4_init 1 = .ok (.invokespecial 3, 3) := by decide +kernel
theorem dX4_init_4 : decode cX4_init 4 = .ok (.aload_n 0, 1) := by decide +kernel
theorem dX4_init_5 : decode cX4_init 5 = .ok (.bipush 120, 2) := by decide +kernel
theorem dX4_init_7 : decode cX4_init 7 = .ok (.newarray .int, 2) := by decide +kernel
theorem dX4_init_9 : decode cX4_init 9 = .ok (.putfield 11, 3) := by decide +kernel
theorem dX4_init_12 : decode cX4_init 12 = .ok (.aload_n 0, 1) := by decide +kernel
theorem dX4_init_13 : decode cX4_init 13 = .ok (.bipush 120, 2) := by decide +kernel
theorem dX4_init_15 : decode cX4_init 15 = .ok (.newarray .int, 2) := by decide +kernel
theorem dX4_init_17 : decode cX4_init 17 = .ok (.putfield 15, 3) := by decide +kernel
theorem dX4_init_20 : decode cX4_init 20 = .ok (.return_, 1) := by decide +kernel
theorem dX4_fewest_0 : decode cX4_fewest 0 = .ok (.iload_n 1, 1) := by decide +kernel
theorem dX4_fewest_1 : decode cX4_fewest 1 = .ok (.iconst 2, 1) := by decide +kernel
theorem dX4_fewest_2 : decode cX4_fewest 2 = .ok (.iconst 5, 1) := by decide +kernel
theorem dX4_fewest_3 : decode cX4_fewest 3 = .ok (.invokestatic 18, 3) := by decide +kernel
theorem dX4_fewest_6 : decode cX4_fewest 6 = .ok (.ifCond .ne 5, 3) := by decide +kernel
theorem dX4_fewest_9 : decode cX4_fewest 9 = .ok (.iconst (-1), 1) := by decide +kernel
theorem dX4_fewest_10 : decode cX4_fewest 10 = .ok (.ireturn, 1) := by decide +kernel
theorem dX4_fewest_11 : decode cX4_fewest 11 = .ok (.iload_n 1, 1) := by decide +kernel
theorem dX4_fewest_12 : decode cX4_fewest 12 = .ok (.iload_n 2, 1) := by decide +kernel
theorem dX4_fewest_13 : decode cX4_fewest 13 = .ok (.invokestatic 22, 3) := by decide +kernel
theorem dX4_fewest_16 : decode cX4_fewest 16 = .ok (.istore 5, 2) := by decide +kernel
theorem dX4_fewest_18 : decode cX4_fewest 18 = .ok (.iload_n 1, 1) := by decide +kernel
theorem dX4_fewest_19 : decode cX4_fewest 19 = .ok (.iload_n 3, 1) := by decide +kernel
theorem dX4_fewest_20 : decode cX4_fewest 20 = .ok (.invokestatic 22, 3) := by decide +kernel
theorem dX4_fewest_23 : decode cX4_fewest 23 = .ok (.istore 6, 2) := by decide +kernel
theorem dX4_fewest_25 : decode cX4_fewest 25 = .ok (.iload 5, 2) := by decide +kernel
theorem dX4_fewest_27 : decode cX4_fewest 27 = .ok (.iconst (-1), 1) := by decide +kernel
theorem dX4_fewest_28 : decode cX4_fewest 28 = .ok (.if_icmp .eq 9, 3) := by decide +kernel
theorem dX4_fewest_31 : decode cX4_fewest 31 = .ok (.iload 6, 2) := by decide +kernel
theorem dX4_fewest_33 : decode cX4_fewest 33 = .ok (.iconst (-1), 1) := by decide +kernel
theorem dX4_fewest_34 : decode cX4_fewest 34 = .ok (.if_icmp .ne 5, 3) := by decide +kernel
theorem dX4_fewest_37 : decode cX4_fewest 37 = .ok (.iconst (-1), 1) := by decide +kernel
theorem dX4_fewest_38 : decode cX4_fewest 38 = .ok (.ireturn, 1) := by decide +kernel
theorem dX4_fewest_39 : decode cX4_fewest 39 = .ok (.aload_n 0, 1) := by decide +kernel
theorem dX4_fewest_40 : decode cX4_fewest 40 = .ok (.iload_n 1, 1) := by decide +kernel
theorem dX4_fewest_41 : decode cX4_fewest 41 = .ok (.iload 6, 2) := by decide +kernel
theorem dX4_fewest_43 : decode cX4_fewest 43 = .ok (.iload_n 1, 1) := by decide +kernel
theorem dX4_fewest_44 : decode cX4_fewest 44 = .ok (.iload 5, 2) := by decide +kernel
theorem dX4_fewest_46 : decode cX4_fewest 46 = .ok (.invokestatic 26, 3) := by decide +kernel
theorem dX4_fewest_49 : decode cX4_fewest 49 = .ok (.invokevirtual 29, 3) := by decide +kernel
theorem dX4_fewest_52 : decode cX4_fewest 52 = .ok (.aload_n 0, 1) := by decide +kernel
theorem dX4_fewest_53 : decode cX4_fewest 53 = .ok (.getfield 15, 3) := by decide +kernel
theorem dX4_fewest_56 : decode cX4_fewest 56 = .ok (.iload_n 1, 1) := by decide +kernel
theorem dX4_fewest_57 : decode cX4_fewest 57 = .ok (.iload 5, 2) := by decide +kernel
theorem dX4_fewest_59 : decode cX4_fewest 59 = .ok (.invokestatic 26, 3) := by decide +kernel
theorem dX4_fewest_62 : decode cX4_fewest 62 = .ok (.iaload, 1) := by decide +kernel
theorem dX4_fewest_63 : decode cX4_fewest 63 = .ok (.istore 7, 2) := by decide +kernel
theorem dX4_fewest_65 : decode cX4_fewest 65 = .ok (.iload 4, 2) := by decide +kernel
theorem dX4_fewest_67 : decode cX4_fewest 67 = .ok (.ifCond .ne 6, 3) := by decide +kernel
theorem dX4_fewest_70 : decode cX4_fewest 70 = .ok (.iload 7, 2) := by decide +kernel
theorem dX4_fewest_72 : decode cX4_fewest 72 = .ok (.ireturn, 1) := by decide +kernel
theorem dX4_fewest_73 : decode cX4_fewest 73 = .ok (.iload 7, 2) := by decide +kernel
theorem dX4_fewest_75 : decode cX4_fewest 75 = .ok (.ifCond .ne 7, 3) := by decide +kernel
theorem dX4_fewest_78 : decode cX4_fewest 78 = .ok (.iload_n 2, 1) := by decide +kernel
theorem dX4_fewest_79 : decode cX4_fewest 79 = .ok (.goto 14, 3) := by decide +kernel
theorem dX4_fewest_82 : decode cX4_fewest 82 = .ok (.aload_n 0, 1) := by decide +kernel
theorem dX4_fewest_83 : decode cX4_fewest 83 = .ok (.iload_n 1, 1) := by decide +kernel
theorem dX4_fewest_84 : decode cX4_fewest 84 = .ok (.iload 5, 2) := by decide +kernel
theorem dX4_fewest_86 : decode cX4_fewest 86 = .ok (.iload 7, 2) := by decide +kernel
theorem dX4_fewest_88 : decode cX4_fewest 88 = .ok (.iconst 1, 1) := by decide +kernel
theorem dX4_fewest_89 : decode cX4_fewest 89 = .ok (.isub, 1) := by decide +kernel
theorem dX4_fewest_90 : decode cX4_fewest 90 = .ok (.invokevirtual 33, 3) := by decide +kernel
theorem dX4_fewest_93 : decode cX4_fewest 93 = .ok (.ireturn, 1) := by decide +kernel
theorem dX4_measure_0 : decode cX4_measure 0 = .ok (.aload_n 0, 1) := by decide +kernel
theorem dX4_measure_1 : decode cX4_measure 1 = .ok (.getfield 15, 3) := by decide +kernel
theorem dX4_measure_4 : decode cX4_measure 4 = .ok (.iconst (-1), 1) := by decide +kernel
theorem dX4_measure_5 : decode cX4_measure 5 = .ok (.invokestatic 37, 3) := by decide +kernel
theorem dX4_measure_8 : decode cX4_measure 8 = .ok (.aload_n 0, 1) := by decide +kernel
theorem dX4_measure_9 : decode cX4_measure 9 = .ok (.getfield 15, 3) := by decide +kernel
theorem dX4_measure_12 : decode cX4_measure 12 = .ok (.iload_n 1, 1) := by decide +kernel
theorem dX4_measure_13 : decode cX4_measure 13 = .ok (.iload_n 2, 1) := by decide +kernel
theorem dX4_measure_14 : decode cX4_measure 14 = .ok (.invokestatic 26, 3) := by decide +kernel
theorem dX4_measure_17 : decode cX4_measure 17 = .ok (.iconst 0, 1) := by decide +kernel
theorem dX4_measure_18 : decode cX4_measure 18 = .ok (.iastore, 1) := by decide +kernel
theorem dX4_measure_19 : decode cX4_measure 19 = .ok (.aload_n 0, 1) := by decide +kernel
theorem dX4_measure_20 : decode cX4_measure 20 = .ok (.getfield 11, 3) := by decide +kernel
theorem dX4_measure_23 : decode cX4_measure 23 = .ok (.iconst 0, 1) := by decide +kernel
theorem dX4_measure_24 : decode cX4_measure 24 = .ok (.iload_n 2, 1) := by decide +kernel
theorem dX4_measure_25 : decode cX4_measure 25 = .ok (.iastore, 1) := by decide +kernel
theorem dX4_measure_26 : decode cX4_measure 26 = .ok (.iconst 1, 1) := by decide +kernel
theorem dX4_measure_27 : decode cX4_measure 27 = .ok (.istore 4, 2) := by decide +kernel
theorem dX4_measure_29 : decode cX4_measure 29 = .ok (.iconst 0, 1) := by decide +kernel
theorem dX4_measure_30 : decode cX4_measure 30 = .ok (.istore 5, 2) := by decide +kernel
theorem dX4_measure_32 : decode cX4_measure 32 = .ok (.iload 5, 2) := by decide +kernel
theorem dX4_measure_34 : decode cX4_measure 34 = .ok (.iload 4, 2) := by decide +kernel
theorem dX4_measure_36 : decode cX4_measure 36 = .ok (.if_icmp .ge 119, 3) := by decide +kernel
theorem dX4_measure_39 : decode cX4_measure 39 = .ok (.aload_n 0, 1) := by decide +kernel
theorem dX4_measure_40 : decode cX4_measure 40 = .ok (.getfield 15, 3) := by decide +kernel
theorem dX4_measure_43 : decode cX4_measure 43 = .ok (.iload_n 3, 1) := by decide +kernel
theorem dX4_measure_44 : decode cX4_measure 44 = .ok (.iaload, 1) := by decide +kernel
theorem dX4_measure_45 : decode cX4_measure 45 = .ok (.iconst (-1), 1) := by decide +kernel
theorem dX4_measure_46 : decode cX4_measure 46 = .ok (.if_icmp .ne 109, 3) := by decide +kernel
theorem dX4_measure_49 : decode cX4_measure 49 = .ok (.aload_n 0, 1) := by decide +kernel
theorem dX4_measure_50 : decode cX4_measure 50 = .ok (.getfield 15, 3) := by decide +kernel
theorem dX4_measure_53 : decode cX4_measure 53 = .ok (.iload_n 1, 1) := by decide +kernel
theorem dX4_measure_54 : decode cX4_measure 54 = .ok (.aload_n 0, 1) := by decide +kernel
theorem dX4_measure_55 : decode cX4_measure 55 = .ok (.getfield 11, 3) := by decide +kernel
theorem dX4_measure_58 : decode cX4_measure 58 = .ok (.iload 5, 2) := by decide +kernel
theorem dX4_measure_60 : decode cX4_measure 60 = .ok (.iaload, 1) := by decide +kernel
theorem dX4_measure_61 : decode cX4_measure 61 = .ok (.invokestatic 26, 3) := by decide +kernel
theorem dX4_measure_64 : decode cX4_measure 64 = .ok (.iaload, 1) := by decide +kernel
theorem dX4_measure_65 : decode cX4_measure 65 = .ok (.istore 6, 2) := by decide +kernel
theorem dX4_measure_67 : decode cX4_measure 67 = .ok (.iconst 1, 1) := by decide +kernel
theorem dX4_measure_68 : decode cX4_measure 68 = .ok (.istore 7, 2) := by decide +kernel
theorem dX4_measure_70 : decode cX4_measure 70 = .ok (.iload 7, 2) := by decide +kernel
theorem dX4_measure_72 : decode cX4_measure 72 = .ok (.iconst 1, 1) := by decide +kernel
theorem dX4_measure_73 : decode cX4_measure 73 = .ok (.iload_n 1, 1) := by decide +kernel
theorem dX4_measure_74 : decode cX4_measure 74 = .ok (.iconst 1, 1) := by decide +kernel
theorem dX4_measure_75 : decode cX4_measure 75 = .ok (.isub, 1) := by decide +kernel
theorem dX4_measure_76 : decode cX4_measure 76 = .ok (.ishl, 1) := by decide +kernel
theorem dX4_measure_77 : decode cX4_measure 77 = .ok (.if_icmp .ge 72, 3) := by decide +kernel
theorem dX4_measure_80 : decode cX4_measure 80 = .ok (.aload_n 0, 1) := by decide +kernel
theorem dX4_measure_81 : decode cX4_measure 81 = .ok (.getfield 11, 3) := by decide +kernel
theorem dX4_measure_84 : decode cX4_measure 84 = .ok (.iload 5, 2) := by decide +kernel
theorem dX4_measure_86 : decode cX4_measure 86 = .ok (.iaload, 1) := by decide +kernel
theorem dX4_measure_87 : decode cX4_measure 87 = .ok (.iload 7, 2) := by decide +kernel
theorem dX4_measure_89 : decode cX4_measure 89 = .ok (.invokestatic 43, 3) := by decide +kernel
theorem dX4_measure_92 : decode cX4_measure 92 = .ok (.istore 8, 2) := by decide +kernel
theorem dX4_measure_94 : decode cX4_measure 94 = .ok (.iload_n 1, 1) := by decide +kernel
theorem dX4_measure_95 : decode cX4_measure 95 = .ok (.iload 8, 2) := by decide +kernel
theorem dX4_measure_97 : decode cX4_measure 97 = .ok (.invokestatic 26, 3) := by decide +kernel
theorem dX4_measure_100 : decode cX4_measure 100 = .ok (.istore 9, 2) := by decide +kernel
theorem dX4_measure_102 : decode cX4_measure 102 = .ok (.aload_n 0, 1) := by decide +kernel
theorem dX4_measure_103 : decode cX4_measure 103 = .ok (.getfield 15, 3) := by decide +kernel
theorem dX4_measure_106 : decode cX4_measure 106 = .ok (.iload 9, 2) := by decide +kernel
theorem dX4_measure_108 : decode cX4_measure 108 = .ok (.iaload, 1) := by decide +kernel
theorem dX4_measure_109 : decode cX4_measure 109 = .ok (.iconst (-1), 1) := by decide +kernel
theorem dX4_measure_110 : decode cX4_measure 110 = .ok (.if_icmp .ne 33, 3) := by decide +kernel
theorem dX4_measure_113 : decode cX4_measure 113 = .ok (.iload 4, 2) := by decide +kernel
theorem dX4_measure_115 : decode cX4_measure 115 = .ok (.bipush 120, 2) := by decide +kernel
theorem dX4_measure_117 : decode cX4_measure 117 = .ok (.if_icmp .ge 26, 3) := by decide +kernel
theorem dX4_measure_120 : decode cX4_measure 120 = .ok (.aload_n 0, 1) := by decide +kernel
theorem dX4_measure_121 : decode cX4_measure 121 = .ok (.getfield 15, 3) := by decide +kernel
theorem dX4_measure_124 : decode cX4_measure 124 = .ok (.iload 9, 2) := by decide +kernel
theorem dX4_measure_126 : decode cX4_measure 126 = .ok (.iload 6, 2) := by decide +kernel
theorem dX4_measure_128 : decode cX4_measure 128 = .ok (.iconst 1, 1) := by decide +kernel
theorem dX4_measure_129 : decode cX4_measure 129 = .ok (.iadd, 1) := by decide +kernel
theorem dX4_measure_130 : decode cX4_measure 130 = .ok (.iastore, 1) := by decide +kernel
theorem dX4_measure_131 : decode cX4_measure 131 = .ok (.aload_n 0, 1) := by decide +kernel
theorem dX4_measure_132 : decode cX4_measure 132 = .ok (.getfield 11, 3) := by decide +kernel
theorem dX4_measure_135 : decode cX4_measure 135 = .ok (.iload 4, 2) := by decide +kernel
theorem dX4_measure_137 : decode cX4_measure 137 = .ok (.iload 8, 2) := by decide +kernel
theorem dX4_measure_139 : decode cX4_measure 139 = .ok (.iastore, 1) := by decide +kernel
theorem dX4_measure_140 : decode cX4_measure 140 = .ok (.iinc 4 1, 3) := by decide +kernel
theorem dX4_measure_143 : decode cX4_measure 143 = .ok (.iinc 7 1, 3) := by decide +kernel
theorem dX4_measure_146 : decode cX4_measure 146 = .ok (.goto (-76), 3) := by decide +kernel
theorem dX4_measure_149 : decode cX4_measure 149 = .ok (.iinc 5 1, 3) := by decide +kernel
theorem dX4_measure_152 : decode cX4_measure 152 = .ok (.goto (-120), 3) := by decide +kernel
theorem dX4_measure_155 : decode cX4_measure 155 = .ok (.return_, 1) := by decide +kernel
theorem dX4_lowestBehind_0 : decode cX4_lowestBehind 0 = .ok (.iconst (-1), 1) := by decide +kernel
theorem dX4_lowestBehind_1 : decode cX4_lowestBehind 1 = .ok (.istore 4, 2) := by decide +kernel
theorem dX4_lowestBehind_3 : decode cX4_lowestBehind 3 = .ok (.iconst 1, 1) := by decide +kernel
theorem dX4_lowestBehind_4 : decode cX4_lowestBehind 4 = .ok (.istore 5, 2) := by decide +kernel
theorem dX4_lowestBehind_6 : decode cX4_lowestBehind 6 = .ok (.iload 5, 2) := by decide +kernel
theorem dX4_lowestBehind_8 : decode cX4_lowestBehind 8 = .ok (.iconst 1, 1) := by decide +kernel
theorem dX4_lowestBehind_9 : decode cX4_lowestBehind 9 = .ok (.iload_n 1, 1) := by decide +kernel
theorem dX4_lowestBehind_10 : decode cX4_lowestBehind 10 = .ok (.iconst 1, 1) := by decide +kernel
theorem dX4_lowestBehind_11 : decode cX4_lowestBehind 11 = .ok (.isub, 1) := by decide +kernel
theorem dX4_lowestBehind_12 : decode cX4_lowestBehind 12 = .ok (.ishl, 1) := by decide +kernel
theorem dX4_lowestBehind_13 : decode cX4_lowestBehind 13 = .ok (.if_icmp .ge 57, 3) := by decide +kernel
theorem dX4_lowestBehind_16 : decode cX4_lowestBehind 16 = .ok (.iload_n 2, 1) := by decide +kernel
theorem dX4_lowestBehind_17 : decode cX4_lowestBehind 17 = .ok (.iload 5, 2) := by decide +kernel
theorem dX4_lowestBehind_19 : decode cX4_lowestBehind 19 = .ok (.invokestatic 43, 3) := by decide +kernel
theorem dX4_lowestBehind_22 : decode cX4_lowestBehind 22 = .ok (.istore 6, 2) := by decide +kernel
theorem dX4_lowestBehind_24 : decode cX4_lowestBehind 24 = .ok (.aload_n 0, 1) := by decide +kernel
theorem dX4_lowestBehind_25 : decode cX4_lowestBehind 25 = .ok (.getfield 15, 3) := by decide +kernel
theorem dX4_lowestBehind_28 : decode cX4_lowestBehind 28 = .ok (.iload_n 1, 1) := by decide +kernel
theorem dX4_lowestBehind_29 : decode cX4_lowestBehind 29 = .ok (.iload 6, 2) := by decide +kernel
theorem dX4_lowestBehind_31 : decode cX4_lowestBehind 31 = .ok (.invokestatic 26, 3) := by decide +kernel
theorem dX4_lowestBehind_34 : decode cX4_lowestBehind 34 = .ok (.iaload, 1) := by decide +kernel
theorem dX4_lowestBehind_35 : decode cX4_lowestBehind 35 = .ok (.iload_n 3, 1) := by decide +kernel
theorem dX4_lowestBehind_36 : decode cX4_lowestBehind 36 = .ok (.if_icmp .ne 28, 3) := by decide +kernel
theorem dX4_lowestBehind_39 : decode cX4_lowestBehind 39 = .ok (.iload_n 1, 1) := by decide +kernel
theorem dX4_lowestBehind_40 : decode cX4_lowestBehind 40 = .ok (.iload 6, 2) := by decide +kernel
theorem dX4_lowestBehind_42 : decode cX4_lowestBehind 42 = .ok (.invokestatic 46, 3) := by decide +kernel
theorem dX4_lowestBehind_45 : decode cX4_lowestBehind 45 = .ok (.istore 7, 2) := by decide +kernel
theorem dX4_lowestBehind_47 : decode cX4_lowestBehind 47 = .ok (.iload 4, 2) := by decide +kernel
theorem dX4_lowestBehind_49 : decode cX4_lowestBehind 49 = .ok (.iconst (-1), 1) := by decide +kernel
theorem dX4_lowestBehind_50 : decode cX4_lowestBehind 50 = .ok (.if_icmp .eq 10, 3) := by decide +kernel
theorem dX4_lowestBehind_53 : decode cX4_lowestBehind 53 = .ok (.iload 7, 2) := by decide +kernel
theorem dX4_lowestBehind_55 : decode cX4_lowestBehind 55 = .ok (.iload 4, 2) := by decide +kernel
theorem dX4_lowestBehind_57 : decode cX4_lowestBehind 57 = .ok (.if_icmp .ge 7, 3) := by decide +kernel
theorem dX4_lowestBehind_60 : decode cX4_lowestBehind 60 = .ok (.iload 7, 2) := by decide +kernel
theorem dX4_lowestBehind_62 : decode cX4_lowestBehind 62 = .ok (.istore 4, 2) := by decide +kernel
theorem dX4_lowestBehind_64 : decode cX4_lowestBehind 64 = .ok (.iinc 5 1, 3) := by decide +kernel
theorem dX4_lowestBehind_67 : decode cX4_lowestBehind 67 = .ok (.goto (-61), 3) := by decide +kernel
theorem dX4_lowestBehind_70 : decode cX4_lowestBehind 70 = .ok (.iload 4, 2) := by decide +kernel
theorem dX4_lowestBehind_72 : decode cX4_lowestBehind 72 = .ok (.ireturn, 1) := by decide +kernel
theorem dX4_changed_0 : decode cX4_changed 0 = .ok (.iload_n 1, 1) := by decide +kernel
theorem dX4_changed_1 : decode cX4_changed 1 = .ok (.iload_n 1, 1) := by decide +kernel
theorem dX4_changed_2 : decode cX4_changed 2 = .ok (.iconst 1, 1) := by decide +kernel
theorem dX4_changed_3 : decode cX4_changed 3 = .ok (.ishl, 1) := by decide +kernel
theorem dX4_changed_4 : decode cX4_changed 4 = .ok (.iand, 1) := by decide +kernel
theorem dX4_changed_5 : decode cX4_changed 5 = .ok (.ifCond .eq 5, 3) := by decide +kernel
theorem dX4_changed_8 : decode cX4_changed 8 = .ok (.iload_n 0, 1) := by decide +kernel
theorem dX4_changed_9 : decode cX4_changed 9 = .ok (.ireturn, 1) := by decide +kernel
theorem dX4_changed_10 : decode cX4_changed 10 = .ok (.iload_n 0, 1) := by decide +kernel
theorem dX4_changed_11 : decode cX4_changed 11 = .ok (.istore_n 2, 1) := by decide +kernel
theorem dX4_changed_12 : decode cX4_changed 12 = .ok (.iconst 0, 1) := by decide +kernel
theorem dX4_changed_13 : decode cX4_changed 13 = .ok (.istore_n 3, 1) := by decide +kernel
theorem dX4_changed_14 : decode cX4_changed 14 = .ok (.iload_n 3, 1) := by decide +kernel
theorem dX4_changed_15 : decode cX4_changed 15 = .ok (.iconst 4, 1) := by decide +kernel
theorem dX4_changed_16 : decode cX4_changed 16 = .ok (.if_icmp .ge 53, 3) := by decide +kernel
theorem dX4_changed_19 : decode cX4_changed 19 = .ok (.iload_n 1, 1) := by decide +kernel
theorem dX4_changed_20 : decode cX4_changed 20 = .ok (.iload_n 3, 1) := by decide +kernel
theorem dX4_changed_21 : decode cX4_changed 21 = .ok (.ishr, 1) := by decide +kernel
theorem dX4_changed_22 : decode cX4_changed 22 = .ok (.iconst 1, 1) := by decide +kernel
theorem dX4_changed_23 : decode cX4_changed 23 = .ok (.iand, 1) := by decide +kernel
theorem dX4_changed_24 : decode cX4_changed 24 = .ok (.ifCond .eq 39, 3) := by decide +kernel
theorem dX4_changed_27 : decode cX4_changed 27 = .ok (.iload_n 0, 1) := by decide +kernel
theorem dX4_changed_28 : decode cX4_changed 28 = .ok (.iconst 3, 1) := by decide +kernel
theorem dX4_changed_29 : decode cX4_changed 29 = .ok (.iload_n 3, 1) := by decide +kernel
theorem dX4_changed_30 : decode cX4_changed 30 = .ok (.imul, 1) := by decide +kernel
theorem dX4_changed_31 : decode cX4_changed 31 = .ok (.ishr, 1) := by decide +kernel
theorem dX4_changed_32 : decode cX4_changed 32 = .ok (.iload_n 0, 1) := by decide +kernel
theorem dX4_changed_33 : decode cX4_changed 33 = .ok (.iconst 3, 1) := by decide +kernel
theorem dX4_changed_34 : decode cX4_changed 34 = .ok (.iload_n 3, 1) := by decide +kernel
theorem dX4_changed_35 : decode cX4_changed 35 = .ok (.imul, 1) := by decide +kernel
theorem dX4_changed_36 : decode cX4_changed 36 = .ok (.iconst 3, 1) := by decide +kernel
theorem dX4_changed_37 : decode cX4_changed 37 = .ok (.iadd, 1) := by decide +kernel
theorem dX4_changed_38 : decode cX4_changed 38 = .ok (.ishr, 1) := by decide +kernel
theorem dX4_changed_39 : decode cX4_changed 39 = .ok (.ixor, 1) := by decide +kernel
theorem dX4_changed_40 : decode cX4_changed 40 = .ok (.bipush 7, 2) := by decide +kernel
theorem dX4_changed_42 : decode cX4_changed 42 = .ok (.iand, 1) := by decide +kernel
theorem dX4_changed_43 : decode cX4_changed 43 = .ok (.istore 4, 2) := by decide +kernel
theorem dX4_changed_45 : decode cX4_changed 45 = .ok (.iload_n 2, 1) := by decide +kernel
theorem dX4_changed_46 : decode cX4_changed 46 = .ok (.iload 4, 2) := by decide +kernel
theorem dX4_changed_48 : decode cX4_changed 48 = .ok (.iconst 3, 1) := by decide +kernel
theorem dX4_changed_49 : decode cX4_changed 49 = .ok (.iload_n 3, 1) := by decide +kernel
theorem dX4_changed_50 : decode cX4_changed 50 = .ok (.imul, 1) := by decide +kernel
theorem dX4_changed_51 : decode cX4_changed 51 = .ok (.ishl, 1) := by decide +kernel
theorem dX4_changed_52 : decode cX4_changed 52 = .ok (.iload 4, 2) := by decide +kernel
theorem dX4_changed_54 : decode cX4_changed 54 = .ok (.iconst 3, 1) := by decide +kernel
theorem dX4_changed_55 : decode cX4_changed 55 = .ok (.iload_n 3, 1) := by decide +kernel
theorem dX4_changed_56 : decode cX4_changed 56 = .ok (.imul, 1) := by decide +kernel
theorem dX4_changed_57 : decode cX4_changed 57 = .ok (.iconst 3, 1) := by decide +kernel
theorem dX4_changed_58 : decode cX4_changed 58 = .ok (.iadd, 1) := by decide +kernel
theorem dX4_changed_59 : decode cX4_changed 59 = .ok (.ishl, 1) := by decide +kernel
theorem dX4_changed_60 : decode cX4_changed 60 = .ok (.ior, 1) := by decide +kernel
theorem dX4_changed_61 : decode cX4_changed 61 = .ok (.ixor, 1) := by decide +kernel
theorem dX4_changed_62 : decode cX4_changed 62 = .ok (.istore_n 2, 1) := by decide +kernel
theorem dX4_changed_63 : decode cX4_changed 63 = .ok (.iinc 3 1, 3) := by decide +kernel
theorem dX4_changed_66 : decode cX4_changed 66 = .ok (.goto (-52), 3) := by decide +kernel
theorem dX4_changed_69 : decode cX4_changed 69 = .ok (.iload_n 2, 1) := by decide +kernel
theorem dX4_changed_70 : decode cX4_changed 70 = .ok (.ireturn, 1) := by decide +kernel
theorem dX4_packed_0 : decode cX4_packed 0 = .ok (.iload_n 1, 1) := by decide +kernel
theorem dX4_packed_1 : decode cX4_packed 1 = .ok (.ifCond .ge 5, 3) := by decide +kernel
theorem dX4_packed_4 : decode cX4_packed 4 = .ok (.iconst (-1), 1) := by decide +kernel
theorem dX4_packed_5 : decode cX4_packed 5 = .ok (.ireturn, 1) := by decide +kernel
theorem dX4_packed_6 : decode cX4_packed 6 = .ok (.iload_n 1, 1) := by decide +kernel
theorem dX4_packed_7 : decode cX4_packed 7 = .ok (.istore_n 2, 1) := by decide +kernel
theorem dX4_packed_8 : decode cX4_packed 8 = .ok (.iconst 0, 1) := by decide +kernel
theorem dX4_packed_9 : decode cX4_packed 9 = .ok (.istore_n 3, 1) := by decide +kernel
theorem dX4_packed_10 : decode cX4_packed 10 = .ok (.iconst 0, 1) := by decide +kernel
theorem dX4_packed_11 : decode cX4_packed 11 = .ok (.istore 4, 2) := by decide +kernel
theorem dX4_packed_13 : decode cX4_packed 13 = .ok (.iconst 0, 1) := by decide +kernel
theorem dX4_packed_14 : decode cX4_packed 14 = .ok (.istore 5, 2) := by decide +kernel
theorem dX4_packed_16 : decode cX4_packed 16 = .ok (.iload 5, 2) := by decide +kernel
theorem dX4_packed_18 : decode cX4_packed 18 = .ok (.iload_n 0, 1) := by decide +kernel
theorem dX4_packed_19 : decode cX4_packed 19 = .ok (.if_icmp .ge 39, 3) := by decide +kernel
theorem dX4_packed_22 : decode cX4_packed 22 = .ok (.iload_n 2, 1) := by decide +kernel
theorem dX4_packed_23 : decode cX4_packed 23 = .ok (.bipush 10, 2) := by decide +kernel
theorem dX4_packed_25 : decode cX4_packed 25 = .ok (.irem, 1) := by decide +kernel
theorem dX4_packed_26 : decode cX4_packed 26 = .ok (.istore 6, 2) := by decide +kernel
theorem dX4_packed_28 : decode cX4_packed 28 = .ok (.iload_n 2, 1) := by decide +kernel
theorem dX4_packed_29 : decode cX4_packed 29 = .ok (.bipush 10, 2) := by decide +kernel
theorem dX4_packed_31 : decode cX4_packed 31 = .ok (.idiv, 1) := by decide +kernel
theorem dX4_packed_32 : decode cX4_packed 32 = .ok (.istore_n 2, 1) := by decide +kernel
theorem dX4_packed_33 : decode cX4_packed 33 = .ok (.iload 4, 2) := by decide +kernel
theorem dX4_packed_35 : decode cX4_packed 35 = .ok (.iload 6, 2) := by decide +kernel
theorem dX4_packed_37 : decode cX4_packed 37 = .ok (.iconst 3, 1) := by decide +kernel
theorem dX4_packed_38 : decode cX4_packed 38 = .ok (.iload 5, 2) := by decide +kernel
theorem dX4_packed_40 : decode cX4_packed 40 = .ok (.imul, 1) := by decide +kernel
theorem dX4_packed_41 : decode cX4_packed 41 = .ok (.ishl, 1) := by decide +kernel
theorem dX4_packed_42 : decode cX4_packed 42 = .ok (.ior, 1) := by decide +kernel
theorem dX4_packed_43 : decode cX4_packed 43 = .ok (.istore 4, 2) := by decide +kernel
theorem dX4_packed_45 : decode cX4_packed 45 = .ok (.iload_n 3, 1) := by decide +kernel
theorem dX4_packed_46 : decode cX4_packed 46 = .ok (.iconst 1, 1) := by decide +kernel
theorem dX4_packed_47 : decode cX4_packed 47 = .ok (.iload 6, 2) := by decide +kernel
theorem dX4_packed_49 : decode cX4_packed 49 = .ok (.ishl, 1) := by decide +kernel
theorem dX4_packed_50 : decode cX4_packed 50 = .ok (.ior, 1) := by decide +kernel
theorem dX4_packed_51 : decode cX4_packed 51 = .ok (.istore_n 3, 1) := by decide +kernel
theorem dX4_packed_52 : decode cX4_packed 52 = .ok (.iinc 5 1, 3) := by decide +kernel
theorem dX4_packed_55 : decode cX4_packed 55 = .ok (.goto (-39), 3) := by decide +kernel
theorem dX4_packed_58 : decode cX4_packed 58 = .ok (.iload_n 2, 1) := by decide +kernel
theorem dX4_packed_59 : decode cX4_packed 59 = .ok (.ifCond .ne 17, 3) := by decide +kernel
theorem dX4_packed_62 : decode cX4_packed 62 = .ok (.iload_n 3, 1) := by decide +kernel
theorem dX4_packed_63 : decode cX4_packed 63 = .ok (.iconst 1, 1) := by decide +kernel
theorem dX4_packed_64 : decode cX4_packed 64 = .ok (.iload_n 0, 1) := by decide +kernel
theorem dX4_packed_65 : decode cX4_packed 65 = .ok (.ishl, 1) := by decide +kernel
theorem dX4_packed_66 : decode cX4_packed 66 = .ok (.iconst 1, 1) := by decide +kernel
theorem dX4_packed_67 : decode cX4_packed 67 = .ok (.isub, 1) := by decide +kernel
theorem dX4_packed_68 : decode cX4_packed 68 = .ok (.if_icmp .ne 8, 3) := by decide +kernel
theorem dX4_packed_71 : decode cX4_packed 71 = .ok (.iload 4, 2) := by decide +kernel
theorem dX4_packed_73 : decode cX4_packed 73 = .ok (.goto 4, 3) := by decide +kernel
theorem dX4_packed_76 : decode cX4_packed 76 = .ok (.iconst (-1), 1) := by decide +kernel
theorem dX4_packed_77 : decode cX4_packed 77 = .ok (.ireturn, 1) := by decide +kernel
theorem dX4_unpacked_0 : decode cX4_unpacked 0 = .ok (.iconst 0, 1) := by decide +kernel
theorem dX4_unpacked_1 : decode cX4_unpacked 1 = .ok (.istore_n 2, 1) := by decide +kernel
theorem dX4_unpacked_2 : decode cX4_unpacked 2 = .ok (.iload_n 0, 1) := by decide +kernel
theorem dX4_unpacked_3 : decode cX4_unpacked 3 = .ok (.iconst 1, 1) := by decide +kernel
theorem dX4_unpacked_4 : decode cX4_unpacked 4 = .ok (.isub, 1) := by decide +kernel
theorem dX4_unpacked_5 : decode cX4_unpacked 5 = .ok (.istore_n 3, 1) := by decide +kernel
theorem dX4_unpacked_6 : decode cX4_unpacked 6 = .ok (.iload_n 3, 1) := by decide +kernel
theorem dX4_unpacked_7 : decode cX4_unpacked 7 = .ok (.ifCond .lt 23, 3) := by decide +kernel
theorem dX4_unpacked_10 : decode cX4_unpacked 10 = .ok (.iload_n 2, 1) := by decide +kernel
theorem dX4_unpacked_11 : decode cX4_unpacked 11 = .ok (.bipush 10, 2) := by decide +kernel
theorem dX4_unpacked_13 : decode cX4_unpacked 13 = .ok (.imul, 1) := by decide +kernel
theorem dX4_unpacked_14 : decode cX4_unpacked 14 = .ok (.iload_n 1, 1) := by decide +kernel
theorem dX4_unpacked_15 : decode cX4_unpacked 15 = .ok (.iconst 3, 1) := by decide +kernel
theorem dX4_unpacked_16 : decode cX4_unpacked 16 = .ok (.iload_n 3, 1) := by decide +kernel
theorem dX4_unpacked_17 : decode cX4_unpacked 17 = .ok (.imul, 1) := by decide +kernel
theorem dX4_unpacked_18 : decode cX4_unpacked 18 = .ok (.ishr, 1) := by decide +kernel
theorem dX4_unpacked_19 : decode cX4_unpacked 19 = .ok (.bipush 7, 2) := by decide +kernel
theorem dX4_unpacked_21 : decode cX4_unpacked 21 = .ok (.iand, 1) := by decide +kernel
theorem dX4_unpacked_22 : decode cX4_unpacked 22 = .ok (.iadd, 1) := by decide +kernel
theorem dX4_unpacked_23 : decode cX4_unpacked 23 = .ok (.istore_n 2, 1) := by decide +kernel
theorem dX4_unpacked_24 : decode cX4_unpacked 24 = .ok (.iinc 3 (-1), 3) := by decide +kernel
theorem dX4_unpacked_27 : decode cX4_unpacked 27 = .ok (.goto (-21), 3) := by decide +kernel
theorem dX4_unpacked_30 : decode cX4_unpacked 30 = .ok (.iload_n 2, 1) := by decide +kernel
theorem dX4_unpacked_31 : decode cX4_unpacked 31 = .ok (.ireturn, 1) := by decide +kernel
theorem dX4_rankOf_0 : decode cX4_rankOf 0 = .ok (.iconst 1, 1) := by decide +kernel
theorem dX4_rankOf_1 : decode cX4_rankOf 1 = .ok (.iload_n 0, 1) := by decide +kernel
theorem dX4_rankOf_2 : decode cX4_rankOf 2 = .ok (.ishl, 1) := by decide +kernel
theorem dX4_rankOf_3 : decode cX4_rankOf 3 = .ok (.iconst 1, 1) := by decide +kernel
theorem dX4_rankOf_4 : decode cX4_rankOf 4 = .ok (.isub, 1) := by decide +kernel
theorem dX4_rankOf_5 : decode cX4_rankOf 5 = .ok (.istore_n 2, 1) := by decide +kernel
theorem dX4_rankOf_6 : decode cX4_rankOf 6 = .ok (.iconst 0, 1) := by decide +kernel
theorem dX4_rankOf_7 : decode cX4_rankOf 7 = .ok (.istore_n 3, 1) := by decide +kernel
theorem dX4_rankOf_8 : decode cX4_rankOf 8 = .ok (.iload_n 0, 1) := by decide +kernel
theorem dX4_rankOf_9 : decode cX4_rankOf 9 = .ok (.iconst 1, 1) := by decide +kernel
theorem dX4_rankOf_10 : decode cX4_rankOf 10 = .ok (.isub, 1) := by decide +kernel
theorem dX4_rankOf_11 : decode cX4_rankOf 11 = .ok (.istore 4, 2) := by decide +kernel
theorem dX4_rankOf_13 : decode cX4_rankOf 13 = .ok (.iload 4, 2) := by decide +kernel
theorem dX4_rankOf_15 : decode cX4_rankOf 15 = .ok (.ifCond .lt 48, 3) := by decide +kernel
theorem dX4_rankOf_18 : decode cX4_rankOf 18 = .ok (.iload_n 1, 1) := by decide +kernel
theorem dX4_rankOf_19 : decode cX4_rankOf 19 = .ok (.iconst 3, 1) := by decide +kernel
theorem dX4_rankOf_20 : decode cX4_rankOf 20 = .ok (.iload 4, 2) := by decide +kernel
theorem dX4_rankOf_22 : decode cX4_rankOf 22 = .ok (.imul, 1) := by decide +kernel
theorem dX4_rankOf_23 : decode cX4_rankOf 23 = .ok (.ishr, 1) := by decide +kernel
theorem dX4_rankOf_24 : decode cX4_rankOf 24 = .ok (.bipush 7, 2) := by decide +kernel
theorem dX4_rankOf_26 : decode cX4_rankOf 26 = .ok (.iand, 1) := by decide +kernel
theorem dX4_rankOf_27 : decode cX4_rankOf 27 = .ok (.istore 5, 2) := by decide +kernel
theorem dX4_rankOf_29 : decode cX4_rankOf 29 = .ok (.iload_n 3, 1) := by decide +kernel
theorem dX4_rankOf_30 : decode cX4_rankOf 30 = .ok (.iload 4, 2) := by decide +kernel
theorem dX4_rankOf_32 : decode cX4_rankOf 32 = .ok (.iconst 1, 1) := by decide +kernel
theorem dX4_rankOf_33 : decode cX4_rankOf 33 = .ok (.iadd, 1) := by decide +kernel
theorem dX4_rankOf_34 : decode cX4_rankOf 34 = .ok (.imul, 1) := by decide +kernel
theorem dX4_rankOf_35 : decode cX4_rankOf 35 = .ok (.iload_n 2, 1) := by decide +kernel
theorem dX4_rankOf_36 : decode cX4_rankOf 36 = .ok (.iconst 1, 1) := by decide +kernel
theorem dX4_rankOf_37 : decode cX4_rankOf 37 = .ok (.iload 5, 2) := by decide +kernel
theorem dX4_rankOf_39 : decode cX4_rankOf 39 = .ok (.ishl, 1) := by decide +kernel
theorem dX4_rankOf_40 : decode cX4_rankOf 40 = .ok (.iconst 1, 1) := by decide +kernel
theorem dX4_rankOf_41 : decode cX4_rankOf 41 = .ok (.isub, 1) := by decide +kernel
theorem dX4_rankOf_42 : decode cX4_rankOf 42 = .ok (.iand, 1) := by decide +kernel
theorem dX4_rankOf_43 : decode cX4_rankOf 43 = .ok (.invokestatic 49, 3) := by decide +kernel
theorem dX4_rankOf_46 : decode cX4_rankOf 46 = .ok (.iadd, 1) := by decide +kernel
theorem dX4_rankOf_47 : decode cX4_rankOf 47 = .ok (.istore_n 3, 1) := by decide +kernel
theorem dX4_rankOf_48 : decode cX4_rankOf 48 = .ok (.iload_n 2, 1) := by decide +kernel
theorem dX4_rankOf_49 : decode cX4_rankOf 49 = .ok (.iconst 1, 1) := by decide +kernel
theorem dX4_rankOf_50 : decode cX4_rankOf 50 = .ok (.iload 5, 2) := by decide +kernel
theorem dX4_rankOf_52 : decode cX4_rankOf 52 = .ok (.ishl, 1) := by decide +kernel
theorem dX4_rankOf_53 : decode cX4_rankOf 53 = .ok (.iconst (-1), 1) := by decide +kernel
theorem dX4_rankOf_54 : decode cX4_rankOf 54 = .ok (.ixor, 1) := by decide +kernel
theorem dX4_rankOf_55 : decode cX4_rankOf 55 = .ok (.iand, 1) := by decide +kernel
theorem dX4_rankOf_56 : decode cX4_rankOf 56 = .ok (.istore_n 2, 1) := by decide +kernel
theorem dX4_rankOf_57 : decode cX4_rankOf 57 = .ok (.iinc 4 (-1), 3) := by decide +kernel
theorem dX4_rankOf_60 : decode cX4_rankOf 60 = .ok (.goto (-47), 3) := by decide +kernel
theorem dX4_rankOf_63 : decode cX4_rankOf 63 = .ok (.iload_n 3, 1) := by decide +kernel
theorem dX4_rankOf_64 : decode cX4_rankOf 64 = .ok (.ireturn, 1) := by decide +kernel
theorem dX5_init_0 : decode cX5_init 0 = .ok (.aload_n 0, 1) := by decide +kernel
theorem dX5_init_1 : decode cX5_init 1 = .ok (.invokespecial 3, 3) := by decide +kernel
theorem dX5_init_4 : decode cX5_init 4 = .ok (.aload_n 0, 1) := by decide +kernel
theorem dX5_init_5 : decode cX5_init 5 = .ok (.iconst 2, 1) := by decide +kernel
theorem dX5_init_6 : decode cX5_init 6 = .ok (.putfield 9, 3) := by decide +kernel
theorem dX5_init_9 : decode cX5_init 9 = .ok (.aload_n 0, 1) := by decide +kernel
theorem dX5_init_10 : decode cX5_init 10 = .ok (.bipush 101, 2) := by decide +kernel
theorem dX5_init_12 : decode cX5_init 12 = .ok (.putfield 15, 3) := by decide +kernel
theorem dX5_init_15 : decode cX5_init 15 = .ok (.aload_n 0, 1) := by decide +kernel
theorem dX5_init_16 : decode cX5_init 16 = .ok (.bipush 24, 2) := by decide +kernel
theorem dX5_init_18 : decode cX5_init 18 = .ok (.newarray .int, 2) := by decide +kernel
theorem dX5_init_20 : decode cX5_init 20 = .ok (.putfield 18, 3) := by decide +kernel
theorem dX5_init_23 : decode cX5_init 23 = .ok (.aload_n 0, 1) := by decide +kernel
theorem dX5_init_24 : decode cX5_init 24 = .ok (.bipush 80, 2) := by decide +kernel
theorem dX5_init_26 : decode cX5_init 26 = .ok (.newarray .int, 2) := by decide +kernel
theorem dX5_init_28 : decode cX5_init 28 = .ok (.putfield 22, 3) := by decide +kernel
theorem dX5_init_31 : decode cX5_init 31 = .ok (.return_, 1) := by decide +kernel
theorem dX5_addStroke_0 : decode cX5_addStroke 0 = .ok (.aload_n 0, 1) := by decide +kernel
theorem dX5_addStroke_1 : decode cX5_addStroke 1 = .ok (.getfield 25, 3) := by decide +kernel
theorem dX5_addStroke_4 : decode cX5_addStroke 4 = .ok (.bipush 24, 2) := by decide +kernel
theorem dX5_addStroke_6 : decode cX5_addStroke 6 = .ok (.if_icmp .lt 5, 3) := by decide +kernel
theorem dX5_addStroke_9 : decode cX5_addStroke 9 = .ok (.iconst 0, 1) := by decide +kernel
theorem dX5_addStroke_10 : decode cX5_addStroke 10 = .ok (.ireturn, 1) := by decide +kernel
theorem dX5_addStroke_11 : decode cX5_addStroke 11 = .ok (.aload_n 0, 1) := by decide +kernel
theorem dX5_addStroke_12 : decode cX5_addStroke 12 = .ok (.getfield 18, 3) := by decide +kernel
theorem dX5_addStroke_15 : decode cX5_addStroke 15 = .ok (.aload_n 0, 1) := by decide +kernel
theorem dX5_addStroke_16 : decode cX5_addStroke 16 = .ok (.getfield 25, 3) := by decide +kernel
theorem dX5_addStroke_19 : decode cX5_addStroke 19 = .ok (.iload_n 2, 1) := by decide +kernel
theorem dX5_addStroke_20 : decode cX5_addStroke 20 = .ok (.ifCond .eq 10, 3) := by decide +kernel
theorem dX5_addStroke_23 : decode cX5_addStroke 23 = .ok (.iload_n 1, 1) := by decide +kernel
theorem dX5_addStroke_24 : decode cX5_addStroke 24 = .ok (.bipush 10, 2) := by decide +kernel
theorem dX5_addStroke_26 : decode cX5_addStroke 26 = .ok (.iadd, 1) := by decide +kernel
theorem dX5_addStroke_27 : decode cX5_addStroke 27 = .ok (.goto 4, 3) := by decide +kernel
theorem dX5_addStroke_30 : decode cX5_addStroke 30 = .ok (.iload_n 1, 1) := by decide +kernel
theorem dX5_addStroke_31 : decode cX5_addStroke 31 = .ok (.iastore, 1) := by decide +kernel
theorem dX5_addStroke_32 : decode cX5_addStroke 32 = .ok (.aload_n 0, 1) := by decide +kernel
theorem dX5_addStroke_33 : decode cX5_addStroke 33 = .ok (.dup, 1) := by decide +kernel
theorem dX5_addStroke_34 : decode cX5_addStroke 34 = .ok (.getfield 25, 3) := by decide +kernel
theorem dX5_addStroke_37 : decode cX5_addStroke 37 = .ok (.iconst 1, 1) := by decide +kernel
theorem dX5_addStroke_38 : decode cX5_addStroke 38 = .ok (.iadd, 1) := by decide +kernel
theorem dX5_addStroke_39 : decode cX5_addStroke 39 = .ok (.putfield 25, 3) := by decide +kernel
theorem dX5_addStroke_42 : decode cX5_addStroke 42 = .ok (.iload_n 2, 1) := by decide +kernel
theorem dX5_addStroke_43 : decode cX5_addStroke 43 = .ok (.ifCond .eq 7, 3) := by decide +kernel
theorem dX5_addStroke_46 : decode cX5_addStroke 46 = .ok (.iconst 1, 1) := by decide +kernel
theorem dX5_addStroke_47 : decode cX5_addStroke 47 = .ok (.goto 4, 3) := by decide +kernel
theorem dX5_addStroke_50 : decode cX5_addStroke 50 = .ok (.iconst 0, 1) := by decide +kernel
theorem dX5_addStroke_51 : decode cX5_addStroke 51 = .ok (.ireturn, 1) := by decide +kernel
theorem dX5_turn_0 : decode cX5_turn 0 = .ok (.aload_n 0, 1) := by decide +kernel
theorem dX5_turn_1 : decode cX5_turn 1 = .ok (.aload_n 0, 1) := by decide +kernel
theorem dX5_turn_2 : decode cX5_turn 2 = .ok (.getfield 15, 3) := by decide +kernel
theorem dX5_turn_5 : decode cX5_turn 5 = .ok (.sipush 313, 3) := by decide +kernel
theorem dX5_turn_8 : decode cX5_turn 8 = .ok (.imul, 1) := by decide +kernel
theorem dX5_turn_9 : decode cX5_turn 9 = .ok (.sipush 199, 3) := by decide +kernel
theorem dX5_turn_12 : decode cX5_turn 12 = .ok (.iadd, 1) := by decide +kernel
theorem dX5_turn_13 : decode cX5_turn 13 = .ok (.sipush 30341, 3) := by decide +kernel
theorem dX5_turn_16 : decode cX5_turn 16 = .ok (.irem, 1) := by decide +kernel
theorem dX5_turn_17 : decode cX5_turn 17 = .ok (.putfield 15, 3) := by decide +kernel
theorem dX5_turn_20 : decode cX5_turn 20 = .ok (.return_, 1) := by decide +kernel
theorem dX5_passHour_0 : decode cX5_passHour 0 = .ok (.aload_n 0, 1) := by decide +kernel
theorem dX5_passHour_1 : decode cX5_passHour 1 = .ok (.dup, 1) := by decide +kernel
theorem dX5_passHour_2 : decode cX5_passHour 2 = .ok (.getfield 28, 3) := by decide +kernel
theorem dX5_passHour_5 : decode cX5_passHour 5 = .ok (.iconst 1, 1) := by decide +kernel
theorem dX5_passHour_6 : decode cX5_passHour 6 = .ok (.iadd, 1) := by decide +kernel
theorem dX5_passHour_7 : decode cX5_passHour 7 = .ok (.putfield 28, 3) := by decide +kernel
theorem dX5_passHour_10 : decode cX5_passHour 10 = .ok (.aload_n 0, 1) := by decide +kernel
theorem dX5_passHour_11 : decode cX5_passHour 11 = .ok (.aload_n 0, 1) := by decide +kernel
theorem dX5_passHour_12 : decode cX5_passHour 12 = .ok (.getfield 15, 3) := by decide +kernel
theorem dX5_passHour_15 : decode cX5_passHour 15 = .ok (.bipush 10, 2) := by decide +kernel
theorem dX5_passHour_17 : decode cX5_passHour 17 = .ok (.irem, 1) := by decide +kernel
theorem dX5_passHour_18 : decode cX5_passHour 18 = .ok (.putfield 9, 3) := by decide +kernel
theorem dX5_passHour_21 : decode cX5_passHour 21 = .ok (.aload_n 0, 1) := by decide +kernel
theorem dX5_passHour_22 : decode cX5_passHour 22 = .ok (.invokevirtual 31, 3) := by decide +kernel
theorem dX5_passHour_25 : decode cX5_passHour 25 = .ok (.aload_n 0, 1) := by decide +kernel
theorem dX5_passHour_26 : decode cX5_passHour 26 = .ok (.iconst 0, 1) := by decide +kernel
theorem dX5_passHour_27 : decode cX5_passHour 27 = .ok (.bipush 9, 2) := by decide +kernel
theorem dX5_passHour_29 : decode cX5_passHour 29 = .ok (.aload_n 0, 1) := by decide +kernel
theorem dX5_passHour_30 : decode cX5_passHour 30 = .ok (.getfield 34, 3) := by decide +kernel
theorem dX5_passHour_33 : decode cX5_passHour 33 = .ok (.aload_n 0, 1) := by decide +kernel
theorem dX5_passHour_34 : decode cX5_passHour 34 = .ok (.getfield 15, 3) := by decide +kernel
theorem dX5_passHour_37 : decode cX5_passHour 37 = .ok (.iconst 3, 1) := by decide +kernel
theorem dX5_passHour_38 : decode cX5_passHour 38 = .ok (.irem, 1) := by decide +kernel
theorem dX5_passHour_39 : decode cX5_passHour 39 = .ok (.iadd, 1) := by decide +kernel
theorem dX5_passHour_40 : decode cX5_passHour 40 = .ok (.iconst 1, 1) := by decide +kernel
theorem dX5_passHour_41 : decode cX5_passHour 41 = .ok (.isub, 1) := by decide +kernel
theorem dX5_passHour_42 : decode cX5_passHour 42 = .ok (.invokestatic 37, 3) := by decide +kernel
theorem dX5_passHour_45 : decode cX5_passHour 45 = .ok (.invokestatic 43, 3) := by decide +kernel
theorem dX5_passHour_48 : decode cX5_passHour 48 = .ok (.putfield 34, 3) := by decide +kernel
theorem dX5_passHour_51 : decode cX5_passHour 51 = .ok (.aload_n 0, 1) := by decide +kernel
theorem dX5_passHour_52 : decode cX5_passHour 52 = .ok (.invokevirtual 31, 3) := by decide +kernel
theorem dX5_passHour_55 : decode cX5_passHour 55 = .ok (.return_, 1) := by decide +kernel
theorem dX5_countHeard_0 : decode cX5_countHeard 0 = .ok (.iconst 0, 1) := by decide +kernel
theorem dX5_countHeard_1 : decode cX5_countHeard 1 = .ok (.istore_n 1, 1) := by decide +kernel
theorem dX5_countHeard_2 : decode cX5_countHeard 2 = .ok (.iconst 0, 1) := by decide +kernel
theorem dX5_countHeard_3 : decode cX5_countHeard 3 = .ok (.istore_n 2, 1) := by decide +kernel
theorem dX5_countHeard_4 : decode cX5_countHeard 4 = .ok (.iload_n 2, 1) := by decide +kernel
theorem dX5_countHeard_5 : decode cX5_countHeard 5 = .ok (.aload_n 0, 1) := by decide +kernel
theorem dX5_countHeard_6 : decode cX5_countHeard 6 = .ok (.getfield 25, 3) := by decide +kernel
theorem dX5_countHeard_9 : decode cX5_countHeard 9 = .ok (.if_icmp .ge 23, 3) := by decide +kernel
theorem dX5_countHeard_12 : decode cX5_countHeard 12 = .ok (.aload_n 0, 1) := by decide +kernel
theorem dX5_countHeard_13 : decode cX5_countHeard 13 = .ok (.getfield 18, 3) := by decide +kernel
theorem dX5_countHeard_16 : decode cX5_countHeard 16 = .ok (.iload_n 2, 1) := by decide +kernel
theorem dX5_countHeard_17 : decode cX5_countHeard 17 = .ok (.iaload, 1) := by decide +kernel
theorem dX5_countHeard_18 : decode cX5_countHeard 18 = .ok (.bipush 10, 2) := by decide +kernel
theorem dX5_countHeard_20 : decode cX5_countHeard 20 = .ok (.if_icmp .lt 6, 3) := by decide +kernel
theorem dX5_countHeard_23 : decode cX5_countHeard 23 = .ok (.iinc 1 1, 3) := by decide +kernel
theorem dX5_countHeard_26 : decode cX5_countHeard 26 = .ok (.iinc 2 1, 3) := by decide +kernel
theorem dX5_countHeard_29 : decode cX5_countHeard 29 = .ok (.goto (-25), 3) := by decide +kernel
theorem dX5_countHeard_32 : decode cX5_countHeard 32 = .ok (.iload_n 1, 1) := by decide +kernel
theorem dX5_countHeard_33 : decode cX5_countHeard 33 = .ok (.ireturn, 1) := by decide +kernel
theorem dX5_writeSunday_0 : decode cX5_writeSunday 0 = .ok (.aload_n 0, 1) := by decide +kernel
theorem dX5_writeSunday_1 : decode cX5_writeSunday 1 = .ok (.getfield 46, 3) := by decide +kernel
theorem dX5_writeSunday_4 : decode cX5_writeSunday 4 = .ok (.bipush 20, 2) := by decide +kernel
theorem dX5_writeSunday_6 : decode cX5_writeSunday 6 = .ok (.if_icmp .lt 28, 3) := by decide +kernel
theorem dX5_writeSunday_9 : decode cX5_writeSunday 9 = .ok (.aload_n 0, 1) := by decide +kernel
theorem dX5_writeSunday_10 : decode cX5_writeSunday 10 = .ok (.bipush 19, 2) := by decide +kernel
theorem dX5_writeSunday_12 : decode cX5_writeSunday 12 = .ok (.putfield 46, 3) := by decide +kernel
theorem dX5_writeSunday_15 : decode cX5_writeSunday 15 = .ok (.aload_n 0, 1) := by decide +kernel
theorem dX5_writeSunday_16 : decode cX5_writeSunday 16 = .ok (.getfield 22, 3) := by decide +kernel
theorem dX5_writeSunday_19 : decode cX5_writeSunday 19 = .ok (.iconst 4, 1) := by decide +kernel
theorem dX5_writeSunday_20 : decode cX5_writeSunday 20 = .ok (.aload_n 0, 1) := by decide +kernel
theorem dX5_writeSunday_21 : decode cX5_writeSunday 21 = .ok (.getfield 22, 3) := by decide +kernel
theorem dX5_writeSunday_24 : decode cX5_writeSunday 24 = .ok (.iconst 0, 1) := by decide +kernel
theorem dX5_writeSunday_25 : decode cX5_writeSunday 25 = .ok (.aload_n 0, 1) := by decide +kernel
theorem dX5_writeSunday_26 : decode cX5_writeSunday 26 = .ok (.getfield 46, 3) := by decide +kernel
theorem dX5_writeSunday_29 : decode cX5_writeSunday 29 = .ok (.iconst 4, 1) := by decide +kernel
theorem dX5_writeSunday_30 : decode cX5_writeSunday 30 = .ok (.imul, 1) := by decide +kernel
theorem dX5_writeSunday_31 : decode cX5_writeSunday 31 = .ok (.invokestatic 49, 3) := by decide +kernel
theorem dX5_writeSunday_34 : decode cX5_writeSunday 34 = .ok (.aload_n 0, 1) := by decide +kernel
theorem dX5_writeSunday_35 : decode cX5_writeSunday 35 = .ok (.getfield 46, 3) := by decide +kernel
theorem dX5_writeSunday_38 : decode cX5_writeSunday 38 = .ok (.iconst 4, 1) := by decide +kernel
theorem dX5_writeSunday_39 : decode cX5_writeSunday 39 = .ok (.imul, 1) := by decide +kernel
theorem dX5_writeSunday_40 : decode cX5_writeSunday 40 = .ok (.istore_n 2, 1) := by decide +kernel
theorem dX5_writeSunday_41 : decode cX5_writeSunday 41 = .ok (.aload_n 0, 1) := by decide +kernel
theorem dX5_writeSunday_42 : decode cX5_writeSunday 42 = .ok (.getfield 22, 3) := by decide +kernel
theorem dX5_writeSunday_45 : decode cX5_writeSunday 45 = .ok (.iload_n 2, 1) := by decide +kernel
theorem dX5_writeSunday_46 : decode cX5_writeSunday 46 = .ok (.aload_n 0, 1) := by decide +kernel
theorem dX5_writeSunday_47 : decode cX5_writeSunday 47 = .ok (.getfield 28, 3) := by decide +kernel
theorem dX5_writeSunday_50 : decode cX5_writeSunday 50 = .ok (.iastore, 1) := by decide +kernel
theorem dX5_writeSunday_51 : decode cX5_writeSunday 51 = .ok (.aload_n 0, 1) := by decide +kernel
theorem dX5_writeSunday_52 : decode cX5_writeSunday 52 = .ok (.getfield 22, 3) := by decide +kernel
theorem dX5_writeSunday_55 : decode cX5_writeSunday 55 = .ok (.iload_n 2, 1) := by decide +kernel
theorem dX5_writeSunday_56 : decode cX5_writeSunday 56 = .ok (.iconst 1, 1) := by decide +kernel
theorem dX5_writeSunday_57 : decode cX5_writeSunday 57 = .ok (.iadd, 1) := by decide +kernel
theorem dX5_writeSunday_58 : decode cX5_writeSunday 58 = .ok (.aload_n 0, 1) := by decide +kernel
theorem dX5_writeSunday_59 : decode cX5_writeSunday 59 = .ok (.getfield 25, 3) := by decide +kernel
theorem dX5_writeSunday_62 : decode cX5_writeSunday 62 = .ok (.iastore, 1) := by decide +kernel
theorem dX5_writeSunday_63 : decode cX5_writeSunday 63 = .ok (.aload_n 0, 1) := by decide +kernel
theorem dX5_writeSunday_64 : decode cX5_writeSunday 64 = .ok (.getfield 22, 3) := by decide +kernel
theorem dX5_writeSunday_67 : decode cX5_writeSunday 67 = .ok (.iload_n 2, 1) := by decide +kernel
theorem dX5_writeSunday_68 : decode cX5_writeSunday 68 = .ok (.iconst 2, 1) := by decide +kernel
theorem dX5_writeSunday_69 : decode cX5_writeSunday 69 = .ok (.iadd, 1) := by decide +kernel
theorem dX5_writeSunday_70 : decode cX5_writeSunday 70 = .ok (.aload_n 0, 1) := by decide +kernel
theorem dX5_writeSunday_71 : decode cX5_writeSunday 71 = .ok (.invokevirtual 55, 3) := by decide +kernel
theorem dX5_writeSunday_74 : decode cX5_writeSunday 74 = .ok (.iastore, 1) := by decide +kernel
theorem dX5_writeSunday_75 : decode cX5_writeSunday 75 = .ok (.aload_n 0, 1) := by decide +kernel
theorem dX5_writeSunday_76 : decode cX5_writeSunday 76 = .ok (.getfield 22, 3) := by decide +kernel
theorem dX5_writeSunday_79 : decode cX5_writeSunday 79 = .ok (.iload_n 2, 1) := by decide +kernel
theorem dX5_writeSunday_80 : decode cX5_writeSunday 80 = .ok (.iconst 3, 1) := by decide +kernel
theorem dX5_writeSunday_81 : decode cX5_writeSunday 81 = .ok (.iadd, 1) := by decide +kernel
theorem dX5_writeSunday_82 : decode cX5_writeSunday 82 = .ok (.iload_n 1, 1) := by decide +kernel
theorem dX5_writeSunday_83 : decode cX5_writeSunday 83 = .ok (.iastore, 1) := by decide +kernel
theorem dX5_writeSunday_84 : decode cX5_writeSunday 84 = .ok (.aload_n 0, 1) := by decide +kernel
theorem dX5_writeSunday_85 : decode cX5_writeSunday 85 = .ok (.dup, 1) := by decide +kernel
theorem dX5_writeSunday_86 : decode cX5_writeSunday 86 = .ok (.getfield 46, 3) := by decide +kernel
theorem dX5_writeSunday_89 : decode cX5_writeSunday 89 = .ok (.iconst 1, 1) := by decide +kernel
theorem dX5_writeSunday_90 : decode cX5_writeSunday 90 = .ok (.iadd, 1) := by decide +kernel
theorem dX5_writeSunday_91 : decode cX5_writeSunday 91 = .ok (.putfield 46, 3) := by decide +kernel
theorem dX5_writeSunday_94 : decode cX5_writeSunday 94 = .ok (.aload_n 0, 1) := by decide +kernel
theorem dX5_writeSunday_95 : decode cX5_writeSunday 95 = .ok (.iconst 0, 1) := by decide +kernel
theorem dX5_writeSunday_96 : decode cX5_writeSunday 96 = .ok (.putfield 25, 3) := by decide +kernel
theorem dX5_writeSunday_99 : decode cX5_writeSunday 99 = .ok (.iload_n 1, 1) := by decide +kernel
theorem dX5_writeSunday_100 : decode cX5_writeSunday 100 = .ok (.ireturn, 1) := by decide +kernel
theorem dX5_copyFrom_0 : decode cX5_copyFrom 0 = .ok (.aload_n 0, 1) := by decide +kernel
theorem dX5_copyFrom_1 : decode cX5_copyFrom 1 = .ok (.aload_n 1, 1) := by decide +kernel
theorem dX5_copyFrom_2 : decode cX5_copyFrom 2 = .ok (.getfield 9, 3) := by decide +kernel
theorem dX5_copyFrom_5 : decode cX5_copyFrom 5 = .ok (.putfield 9, 3) := by decide +kernel
theorem dX5_copyFrom_8 : decode cX5_copyFrom 8 = .ok (.aload_n 0, 1) := by decide +kernel
theorem dX5_copyFrom_9 : decode cX5_copyFrom 9 = .ok (.aload_n 1, 1) := by decide +kernel
theorem dX5_copyFrom_10 : decode cX5_copyFrom 10 = .ok (.getfield 34, 3) := by decide +kernel
theorem dX5_copyFrom_13 : decode cX5_copyFrom 13 = .ok (.putfield 34, 3) := by decide +kernel
theorem dX5_copyFrom_16 : decode cX5_copyFrom 16 = .ok (.aload_n 0, 1) := by decide +kernel
theorem dX5_copyFrom_17 : decode cX5_copyFrom 17 = .ok (.aload_n 1, 1) := by decide +kernel
theorem dX5_copyFrom_18 : decode cX5_copyFrom 18 = .ok (.getfield 28, 3) := by decide +kernel
theorem dX5_copyFrom_21 : decode cX5_copyFrom 21 = .ok (.putfield 28, 3) := by decide +kernel
theorem dX5_copyFrom_24 : decode cX5_copyFrom 24 = .ok (.aload_n 0, 1) := by decide +kernel
theorem dX5_copyFrom_25 : decode cX5_copyFrom 25 = .ok (.aload_n 1, 1) := by decide +kernel
theorem dX5_copyFrom_26 : decode cX5_copyFrom 26 = .ok (.getfield 15, 3) := by decide +kernel
theorem dX5_copyFrom_29 : decode cX5_copyFrom 29 = .ok (.putfield 15, 3) := by decide +kernel
theorem dX5_copyFrom_32 : decode cX5_copyFrom 32 = .ok (.aload_n 0, 1) := by decide +kernel
theorem dX5_copyFrom_33 : decode cX5_copyFrom 33 = .ok (.aload_n 1, 1) := by decide +kernel
theorem dX5_copyFrom_34 : decode cX5_copyFrom 34 = .ok (.getfield 25, 3) := by decide +kernel
theorem dX5_copyFrom_37 : decode cX5_copyFrom 37 = .ok (.putfield 25, 3) := by decide +kernel
theorem dX5_copyFrom_40 : decode cX5_copyFrom 40 = .ok (.aload_n 1, 1) := by decide +kernel
theorem dX5_copyFrom_41 : decode cX5_copyFrom 41 = .ok (.getfield 18, 3) := by decide +kernel
theorem dX5_copyFrom_44 : decode cX5_copyFrom 44 = .ok (.iconst 0, 1) := by decide +kernel
theorem dX5_copyFrom_45 : decode cX5_copyFrom 45 = .ok (.aload_n 0, 1) := by decide +kernel
theorem dX5_copyFrom_46 : decode cX5_copyFrom 46 = .ok (.getfield 18, 3) := by decide +kernel
theorem dX5_copyFrom_49 : decode cX5_copyFrom 49 = .ok (.iconst 0, 1) := by decide +kernel
theorem dX5_copyFrom_50 : decode cX5_copyFrom 50 = .ok (.aload_n 1, 1) := by decide +kernel
theorem dX5_copyFrom_51 : decode cX5_copyFrom 51 = .ok (.getfield 25, 3) := by decide +kernel
theorem dX5_copyFrom_54 : decode cX5_copyFrom 54 = .ok (.invokestatic 49, 3) := by decide +kernel
theorem dX5_copyFrom_57 : decode cX5_copyFrom 57 = .ok (.aload_n 0, 1) := by decide +kernel
theorem dX5_copyFrom_58 : decode cX5_copyFrom 58 = .ok (.aload_n 1, 1) := by decide +kernel
theorem dX5_copyFrom_59 : decode cX5_copyFrom 59 = .ok (.getfield 46, 3) := by decide +kernel
theorem dX5_copyFrom_62 : decode cX5_copyFrom 62 = .ok (.putfield 46, 3) := by decide +kernel
theorem dX5_copyFrom_65 : decode cX5_copyFrom 65 = .ok (.aload_n 1, 1) := by decide +kernel
theorem dX5_copyFrom_66 : decode cX5_copyFrom 66 = .ok (.getfield 22, 3) := by decide +kernel
theorem dX5_copyFrom_69 : decode cX5_copyFrom 69 = .ok (.iconst 0, 1) := by decide +kernel
theorem dX5_copyFrom_70 : decode cX5_copyFrom 70 = .ok (.aload_n 0, 1) := by decide +kernel
theorem dX5_copyFrom_71 : decode cX5_copyFrom 71 = .ok (.getfield 22, 3) := by decide +kernel
theorem dX5_copyFrom_74 : decode cX5_copyFrom 74 = .ok (.iconst 0, 1) := by decide +kernel
theorem dX5_copyFrom_75 : decode cX5_copyFrom 75 = .ok (.aload_n 1, 1) := by decide +kernel
theorem dX5_copyFrom_76 : decode cX5_copyFrom 76 = .ok (.getfield 46, 3) := by decide +kernel
theorem dX5_copyFrom_79 : decode cX5_copyFrom 79 = .ok (.iconst 4, 1) := by decide +kernel
theorem dX5_copyFrom_80 : decode cX5_copyFrom 80 = .ok (.imul, 1) := by decide +kernel
theorem dX5_copyFrom_81 : decode cX5_copyFrom 81 = .ok (.invokestatic 49, 3) := by decide +kernel
theorem dX5_copyFrom_84 : decode cX5_copyFrom 84 = .ok (.return_, 1) := by decide +kernel
theorem dX6_init_0 : decode cX6_init 0 = .ok (.aload_n 0, 1) := by decide +kernel
theorem dX6_init_1 : decode cX6_init 1 = .ok (.invokespecial 3, 3) := by decide +kernel
theorem dX6_init_4 : decode cX6_init 4 = .ok (.aload_n 0, 1) := by decide +kernel
theorem dX6_init_5 : decode cX6_init 5 = .ok (.bipush 30, 2) := by decide +kernel
theorem dX6_init_7 : decode cX6_init 7 = .ok (.anewarray 9, 3) := by decide +kernel
theorem dX6_init_10 : decode cX6_init 10 = .ok (.putfield 11, 3) := by decide +kernel
theorem dX6_init_13 : decode cX6_init 13 = .ok (.iconst 0, 1) := by decide +kernel
theorem dX6_init_14 : decode cX6_init 14 = .ok (.istore_n 1, 1) := by decide +kernel
theorem dX6_init_15 : decode cX6_init 15 = .ok (.iload_n 1, 1) := by decide +kernel
theorem dX6_init_16 : decode cX6_init 16 = .ok (.bipush 30, 2) := by decide +kernel
theorem dX6_init_18 : decode cX6_init 18 = .ok (.if_icmp .ge 22, 3) := by decide +kernel
theorem dX6_init_21 : decode cX6_init 21 = .ok (.aload_n 0, 1) := by decide +kernel
theorem dX6_init_22 : decode cX6_init 22 = .ok (.getfield 11, 3) := by decide +kernel
theorem dX6_init_25 : decode cX6_init 25 = .ok (.iload_n 1, 1) := by decide +kernel
theorem dX6_init_26 : decode cX6_init 26 = .ok (.new 9, 3) := by decide +kernel
theorem dX6_init_29 : decode cX6_init 29 = .ok (.dup, 1) := by decide +kernel
theorem dX6_init_30 : decode cX6_init 30 = .ok (.invokespecial 17, 3) := by decide +kernel
theorem dX6_init_33 : decode cX6_init 33 = .ok (.aastore, 1) := by decide +kernel
theorem dX6_init_34 : decode cX6_init 34 = .ok (.iinc 1 1, 3) := by decide +kernel
theorem dX6_init_37 : decode cX6_init 37 = .ok (.goto (-22), 3) := by decide +kernel
theorem dX6_init_40 : decode cX6_init 40 = .ok (.return_, 1) := by decide +kernel
theorem dX6_keep_0 : decode cX6_keep 0 = .ok (.aload_n 0, 1) := by decide +kernel
theorem dX6_keep_1 : decode cX6_keep 1 = .ok (.getfield 11, 3) := by decide +kernel
theorem dX6_keep_4 : decode cX6_keep 4 = .ok (.aload_n 0, 1) := by decide +kernel
theorem dX6_keep_5 : decode cX6_keep 5 = .ok (.getfield 18, 3) := by decide +kernel
theorem dX6_keep_8 : decode cX6_keep 8 = .ok (.aload_n 0, 1) := by decide +kernel
theorem dX6_keep_9 : decode cX6_keep 9 = .ok (.getfield 22, 3) := by decide +kernel
theorem dX6_keep_12 : decode cX6_keep 12 = .ok (.iadd, 1) := by decide +kernel
theorem dX6_keep_13 : decode cX6_keep 13 = .ok (.bipush 30, 2) := by decide +kernel
theorem dX6_keep_15 : decode cX6_keep 15 = .ok (.irem, 1) := by decide +kernel
theorem dX6_keep_16 : decode cX6_keep 16 = .ok (.aaload, 1) := by decide +kernel
theorem dX6_keep_17 : decode cX6_keep 17 = .ok (.aload_n 1, 1) := by decide +kernel
theorem dX6_keep_18 : decode cX6_keep 18 = .ok (.invokevirtual 25, 3) := by decide +kernel
theorem dX6_keep_21 : decode cX6_keep 21 = .ok (.aload_n 0, 1) := by decide +kernel
theorem dX6_keep_22 : decode cX6_keep 22 = .ok (.getfield 22, 3) := by decide +kernel
theorem dX6_keep_25 : decode cX6_keep 25 = .ok (.bipush 30, 2) := by decide +kernel
theorem dX6_keep_27 : decode cX6_keep 27 = .ok (.if_icmp .ge 16, 3) := by decide +kernel
theorem dX6_keep_30 : decode cX6_keep 30 = .ok (.aload_n 0, 1) := by decide +kernel
theorem dX6_keep_31 : decode cX6_keep 31 = .ok (.dup, 1) := by decide +kernel
theorem dX6_keep_32 : decode cX6_keep 32 = .ok (.getfield 22, 3) := by decide +kernel
theorem dX6_keep_35 : decode cX6_keep 35 = .ok (.iconst 1, 1) := by decide +kernel
theorem dX6_keep_36 : decode cX6_keep 36 = .ok (.iadd, 1) := by decide +kernel
theorem dX6_keep_37 : decode cX6_keep 37 = .ok (.putfield 22, 3) := by decide +kernel
theorem dX6_keep_40 : decode cX6_keep 40 = .ok (.goto 16, 3) := by decide +kernel
theorem dX6_keep_43 : decode cX6_keep 43 = .ok (.aload_n 0, 1) := by decide +kernel
theorem dX6_keep_44 : decode cX6_keep 44 = .ok (.aload_n 0, 1) := by decide +kernel
theorem dX6_keep_45 : decode cX6_keep 45 = .ok (.getfield 18, 3) := by decide +kernel
theorem dX6_keep_48 : decode cX6_keep 48 = .ok (.iconst 1, 1) := by decide +kernel
theorem dX6_keep_49 : decode cX6_keep 49 = .ok (.iadd, 1) := by decide +kernel
theorem dX6_keep_50 : decode cX6_keep 50 = .ok (.bipush 30, 2) := by decide +kernel
theorem dX6_keep_52 : decode cX6_keep 52 = .ok (.irem, 1) := by decide +kernel
theorem dX6_keep_53 : decode cX6_keep 53 = .ok (.putfield 18, 3) := by decide +kernel
theorem dX6_keep_56 : decode cX6_keep 56 = .ok (.return_, 1) := by decide +kernel
theorem dX6_takeBack_0 : decode cX6_takeBack 0 = .ok (.aload_n 0, 1) := by decide +kernel
theorem dX6_takeBack_1 : decode cX6_takeBack 1 = .ok (.getfield 22, 3) := by decide +kernel
theorem dX6_takeBack_4 : decode cX6_takeBack 4 = .ok (.ifCond .ne 5, 3) := by decide +kernel
theorem dX6_takeBack_7 : decode cX6_takeBack 7 = .ok (.iconst (-1), 1) := by decide +kernel
theorem dX6_takeBack_8 : decode cX6_takeBack 8 = .ok (.ireturn, 1) := by decide +kernel
theorem dX6_takeBack_9 : decode cX6_takeBack 9 = .ok (.aload_n 0, 1) := by decide +kernel
theorem dX6_takeBack_10 : decode cX6_takeBack 10 = .ok (.dup, 1) := by decide +kernel
theorem dX6_takeBack_11 : decode cX6_takeBack 11 = .ok (.getfield 22, 3) := by decide +kernel
theorem dX6_takeBack_14 : decode cX6_takeBack 14 = .ok (.iconst 1, 1) := by decide +kernel
theorem dX6_takeBack_15 : decode cX6_takeBack 15 = .ok (.isub, 1) := by decide +kernel
theorem dX6_takeBack_16 : decode cX6_takeBack 16 = .ok (.putfield 22, 3) := by decide +kernel
theorem dX6_takeBack_19 : decode cX6_takeBack 19 = .ok (.aload_n 1, 1) := by decide +kernel
theorem dX6_takeBack_20 : decode cX6_takeBack 20 = .ok (.aload_n 0, 1) := by decide +kernel
theorem dX6_takeBack_21 : decode cX6_takeBack 21 = .ok (.getfield 11, 3) := by decide +kernel
theorem dX6_takeBack_24 : decode cX6_takeBack 24 = .ok (.aload_n 0, 1) := by decide +kernel
theorem dX6_takeBack_25 : decode cX6_takeBack 25 = .ok (.getfield 18, 3) := by decide +kernel
theorem dX6_takeBack_28 : decode cX6_takeBack 28 = .ok (.aload_n 0, 1) := by decide +kernel
theorem dX6_takeBack_29 : decode cX6_takeBack 29 = .ok (.getfield 22, 3) := by decide +kernel
theorem dX6_takeBack_32 : decode cX6_takeBack 32 = .ok (.iadd, 1) := by decide +kernel
theorem dX6_takeBack_33 : decode cX6_takeBack 33 = .ok (.bipush 30, 2) := by decide +kernel
theorem dX6_takeBack_35 : decode cX6_takeBack 35 = .ok (.irem, 1) := by decide +kernel
theorem dX6_takeBack_36 : decode cX6_takeBack 36 = .ok (.aaload, 1) := by decide +kernel
theorem dX6_takeBack_37 : decode cX6_takeBack 37 = .ok (.invokevirtual 25, 3) := by decide +kernel
theorem dX6_takeBack_40 : decode cX6_takeBack 40 = .ok (.aload_n 0, 1) := by decide +kernel
theorem dX6_takeBack_41 : decode cX6_takeBack 41 = .ok (.getfield 22, 3) := by decide +kernel
theorem dX6_takeBack_44 : decode cX6_takeBack 44 = .ok (.ireturn, 1) := by decide +kernel
theorem dX6_copyFrom_0 : decode cX6_copyFrom 0 = .ok (.aload_n 0, 1) := by decide +kernel
theorem dX6_copyFrom_1 : decode cX6_copyFrom 1 = .ok (.aload_n 1, 1) := by decide +kernel
theorem dX6_copyFrom_2 : decode cX6_copyFrom 2 = .ok (.getfield 22, 3) := by decide +kernel
theorem dX6_copyFrom_5 : decode cX6_copyFrom 5 = .ok (.putfield 22, 3) := by decide +kernel
theorem dX6_copyFrom_8 : decode cX6_copyFrom 8 = .ok (.aload_n 0, 1) := by decide +kernel
theorem dX6_copyFrom_9 : decode cX6_copyFrom 9 = .ok (.aload_n 1, 1) := by decide +kernel
theorem dX6_copyFrom_10 : decode cX6_copyFrom 10 = .ok (.getfield 18, 3) := by decide +kernel
theorem dX6_copyFrom_13 : decode cX6_copyFrom 13 = .ok (.putfield 18, 3) := by decide +kernel
theorem dX6_copyFrom_16 : decode cX6_copyFrom 16 = .ok (.iconst 0, 1) := by decide +kernel
theorem dX6_copyFrom_17 : decode cX6_copyFrom 17 = .ok (.istore_n 2, 1) := by decide +kernel
theorem dX6_copyFrom_18 : decode cX6_copyFrom 18 = .ok (.iload_n 2, 1) := by decide +kernel
theorem dX6_copyFrom_19 : decode cX6_copyFrom 19 = .ok (.bipush 30, 2) := by decide +kernel
theorem dX6_copyFrom_21 : decode cX6_copyFrom 21 = .ok (.if_icmp .ge 24, 3) := by decide +kernel
theorem dX6_copyFrom_24 : decode cX6_copyFrom 24 = .ok (.aload_n 0, 1) := by decide +kernel
theorem dX6_copyFrom_25 : decode cX6_copyFrom 25 = .ok (.getfield 11, 3) := by decide +kernel
theorem dX6_copyFrom_28 : decode cX6_copyFrom 28 = .ok (.iload_n 2, 1) := by decide +kernel
theorem dX6_copyFrom_29 : decode cX6_copyFrom 29 = .ok (.aaload, 1) := by decide +kernel
theorem dX6_copyFrom_30 : decode cX6_copyFrom 30 = .ok (.aload_n 1, 1) := by decide +kernel
theorem dX6_copyFrom_31 : decode cX6_copyFrom 31 = .ok (.getfield 11, 3) := by decide +kernel
theorem dX6_copyFrom_34 : decode cX6_copyFrom 34 = .ok (.iload_n 2, 1) := by decide +kernel
theorem dX6_copyFrom_35 : decode cX6_copyFrom 35 = .ok (.aaload, 1) := by decide +kernel
theorem dX6_copyFrom_36 : decode cX6_copyFrom 36 = .ok (.invokevirtual 25, 3) := by decide +kernel
theorem dX6_copyFrom_39 : decode cX6_copyFrom 39 = .ok (.iinc 2 1, 3) := by decide +kernel
theorem dX6_copyFrom_42 : decode cX6_copyFrom 42 = .ok (.goto (-24), 3) := by decide +kernel
theorem dX6_copyFrom_45 : decode cX6_copyFrom 45 = .ok (.return_, 1) := by decide +kernel
theorem dX7_init_0 : decode cX7_init 0 = .ok (.aload_n 0, 1) := by decide +kernel
theorem dX7_init_1 : decode cX7_init 1 = .ok (.invokespecial 5, 3) := by decide +kernel
theorem dX7_init_4 : decode cX7_init 4 = .ok (.aload_n 0, 1) := by decide +kernel
theorem dX7_init_5 : decode cX7_init 5 = .ok (.sipush 300, 3) := by decide +kernel
theorem dX7_init_8 : decode cX7_init 8 = .ok (.newarray .byte, 2) := by decide +kernel
theorem dX7_init_10 : decode cX7_init 10 = .ok (.putfield 11, 3) := by decide +kernel
theorem dX7_init_13 : decode cX7_init 13 = .ok (.aload_n 0, 1) := by decide +kernel
theorem dX7_init_14 : decode cX7_init 14 = .ok (.sipush 301, 3) := by decide +kernel
theorem dX7_init_17 : decode cX7_init 17 = .ok (.newarray .int, 2) := by decide +kernel
theorem dX7_init_19 : decode cX7_init 19 = .ok (.putfield 15, 3) := by decide +kernel
theorem dX7_init_22 : decode cX7_init 22 = .ok (.aload_n 0, 1) := by decide +kernel
theorem dX7_init_23 : decode cX7_init 23 = .ok (.sipush 301, 3) := by decide +kernel
theorem dX7_init_26 : decode cX7_init 26 = .ok (.newarray .int, 2) := by decide +kernel
theorem dX7_init_28 : decode cX7_init 28 = .ok (.putfield 19, 3) := by decide +kernel
theorem dX7_init_31 : decode cX7_init 31 = .ok (.aload_n 0, 1) := by decide +kernel
theorem dX7_init_32 : decode cX7_init 32 = .ok (.sipush 301, 3) := by decide +kernel
theorem dX7_init_35 : decode cX7_init 35 = .ok (.newarray .int, 2) := by decide +kernel
theorem dX7_init_37 : decode cX7_init 37 = .ok (.putfield 22, 3) := by decide +kernel
theorem dX7_init_40 : decode cX7_init 40 = .ok (.return_, 1) := by decide +kernel
theorem dX7_append_0 : decode cX7_append 0 = .ok (.bipush 24, 2) := by decide +kernel
theorem dX7_append_2 : decode cX7_append 2 = .ok (.istore_n 2, 1) := by decide +kernel
theorem dX7_append_3 : decode cX7_append 3 = .ok (.iload_n 2, 1) := by decide +kernel
theorem dX7_append_4 : decode cX7_append 4 = .ok (.ifCond .lt 42, 3) := by decide +kernel
theorem dX7_append_7 : decode cX7_append 7 = .ok (.aload_n 0, 1) := by decide +kernel
theorem dX7_append_8 : decode cX7_append 8 = .ok (.getfield 25, 3) := by decide +kernel
theorem dX7_append_11 : decode cX7_append 11 = .ok (.sipush 300, 3) := by decide +kernel
theorem dX7_append_14 : decode cX7_append 14 = .ok (.if_icmp .ge 26, 3) := by decide +kernel
theorem dX7_append_17 : decode cX7_append 17 = .ok (.aload_n 0, 1) := by decide +kernel
theorem dX7_append_18 : decode cX7_append 18 = .ok (.getfield 11, 3) := by decide +kernel
theorem dX7_append_21 : decode cX7_append 21 = .ok (.aload_n 0, 1) := by decide +kernel
theorem dX7_append_22 : decode cX7_append 22 = .ok (.getfield 25, 3) := by decide +kernel
theorem dX7_append_25 : decode cX7_append 25 = .ok (.iload_n 1, 1) := by decide +kernel
theorem dX7_append_26 : decode cX7_append 26 = .ok (.iload_n 2, 1) := by decide +kernel
theorem dX7_append_27 : decode cX7_append 27 = .ok (.ishr, 1) := by decide +kernel
theorem dX7_append_28 : decode cX7_append 28 = .ok (.i2b, 1) := by decide +kernel
theorem dX7_append_29 : decode cX7_append 29 = .ok (.bastore, 1) := by decide +kernel
theorem dX7_append_30 : decode cX7_append 30 = .ok (.aload_n 0, 1) := by decide +kernel
theorem dX7_append_31 : decode cX7_append 31 = .ok (.dup, 1) := by decide +kernel
theorem dX7_append_32 : decode cX7_append 32 = .ok (.getfield 25, 3) := by decide +kernel
theorem dX7_append_35 : decode cX7_append 35 = .ok (.iconst 1, 1) := by decide +kernel
theorem dX7_append_36 : decode cX7_append 36 = .ok (.iadd, 1) := by decide +kernel
theorem dX7_append_37 : decode cX7_append 37 = .ok (.putfield 25, 3) := by decide +kernel
theorem dX7_append_40 : decode cX7_append 40 = .ok (.iinc 2 (-8), 3) := by decide +kernel
theorem dX7_append_43 : decode cX7_append 43 = .ok (.goto (-40), 3) := by decide +kernel
theorem dX7_append_46 : decode cX7_append 46 = .ok (.return_, 1) := by decide +kernel
theorem dX7_scan_0 : decode cX7_scan 0 = .ok (.iconst 0, 1) := by decide +kernel
theorem dX7_scan_1 : decode cX7_scan 1 = .ok (.istore_n 1, 1) := by decide +kernel
theorem dX7_scan_2 : decode cX7_scan 2 = .ok (.iconst 0, 1) := by decide +kernel
theorem dX7_scan_3 : decode cX7_scan 3 = .ok (.istore_n 2, 1) := by decide +kernel
theorem dX7_scan_4 : decode cX7_scan 4 = .ok (.iload_n 2, 1) := by decide +kernel
theorem dX7_scan_5 : decode cX7_scan 5 = .ok (.aload_n 0, 1) := by decide +kernel
theorem dX7_scan_6 : decode cX7_scan 6 = .ok (.getfield 25, 3) := by decide +kernel
theorem dX7_scan_9 : decode cX7_scan 9 = .ok (.if_icmp .ge 131, 3) := by decide +kernel
theorem dX7_scan_12 : decode cX7_scan 12 = .ok (.aload_n 0, 1) := by decide +kernel
theorem dX7_scan_13 : decode cX7_scan 13 = .ok (.getfield 11, 3) := by decide +kernel
theorem dX7_scan_16 : decode cX7_scan 16 = .ok (.iload_n 2, 1) := by decide +kernel
theorem dX7_scan_17 : decode cX7_scan 17 = .ok (.baload, 1) := by decide +kernel
theorem dX7_scan_18 : decode cX7_scan 18 = .ok (.invokestatic 29, 3) := by decide +kernel
theorem dX7_scan_21 : decode cX7_scan 21 = .ok (.istore_n 3, 1) := by decide +kernel
theorem dX7_scan_22 : decode cX7_scan 22 = .ok (.iload_n 2, 1) := by decide +kernel
theorem dX7_scan_23 : decode cX7_scan 23 = .ok (.iconst 1, 1) := by decide +kernel
theorem dX7_scan_24 : decode cX7_scan 24 = .ok (.iadd, 1) := by decide +kernel
theorem dX7_scan_25 : decode cX7_scan 25 = .ok (.istore 4, 2) := by decide +kernel
theorem dX7_scan_27 : decode cX7_scan 27 = .ok (.iload 4, 2) := by decide +kernel
theorem dX7_scan_29 : decode cX7_scan 29 = .ok (.aload_n 0, 1) := by decide +kernel
theorem dX7_scan_30 : decode cX7_scan 30 = .ok (.getfield 25, 3) := by decide +kernel
theorem dX7_scan_33 : decode cX7_scan 33 = .ok (.if_icmp .ge 28, 3) := by decide +kernel
theorem dX7_scan_36 : decode cX7_scan 36 = .ok (.iload_n 3, 1) := by decide +kernel
theorem dX7_scan_37 : decode cX7_scan 37 = .ok (.iconst 3, 1) := by decide +kernel
theorem dX7_scan_38 : decode cX7_scan 38 = .ok (.if_icmp .eq 23, 3) := by decide +kernel
theorem dX7_scan_41 : decode cX7_scan 41 = .ok (.aload_n 0, 1) := by decide +kernel
theorem dX7_scan_42 : decode cX7_scan 42 = .ok (.getfield 11, 3) := by decide +kernel
theorem dX7_scan_45 : decode cX7_scan 45 = .ok (.iload 4, 2) := by decide +kernel
theorem dX7_scan_47 : decode cX7_scan 47 = .ok (.baload, 1) := by decide +kernel
theorem dX7_scan_48 : decode cX7_scan 48 = .ok (.invokestatic 29, 3) := by decide +kernel
theorem dX7_scan_51 : decode cX7_scan 51 = .ok (.iload_n 3, 1) := by decide +kernel
theorem dX7_scan_52 : decode cX7_scan 52 = .ok (.if_icmp .ne 9, 3) := by decide +kernel
theorem dX7_scan_55 : decode cX7_scan 55 = .ok (.iinc 4 1, 3) := by decide +kernel
theorem dX7_scan_58 : decode cX7_scan 58 = .ok (.goto (-31), 3) := by decide +kernel
theorem dX7_scan_61 : decode cX7_scan 61 = .ok (.iload_n 3, 1) := by decide +kernel
theorem dX7_scan_62 : decode cX7_scan 62 = .ok (.ifCond .eq 72, 3) := by decide +kernel
theorem dX7_scan_65 : decode cX7_scan 65 = .ok (.aload_n 0, 1) := by decide +kernel
theorem dX7_scan_66 : decode cX7_scan 66 = .ok (.getfield 19, 3) := by decide +kernel
theorem dX7_scan_69 : decode cX7_scan 69 = .ok (.iload_n 1, 1) := by decide +kernel
theorem dX7_scan_70 : decode cX7_scan 70 = .ok (.iload_n 2, 1) := by decide +kernel
theorem dX7_scan_71 : decode cX7_scan 71 = .ok (.iastore, 1) := by decide +kernel
theorem dX7_scan_72 : decode cX7_scan 72 = .ok (.aload_n 0, 1) := by decide +kernel
theorem dX7_scan_73 : decode cX7_scan 73 = .ok (.getfield 15, 3) := by decide +kernel
theorem dX7_scan_76 : decode cX7_scan 76 = .ok (.iload_n 1, 1) := by decide +kernel
theorem dX7_scan_77 : decode cX7_scan 77 = .ok (.aload_n 0, 1) := by decide +kernel
theorem dX7_scan_78 : decode cX7_scan 78 = .ok (.iload_n 3, 1) := by decide +kernel
theorem dX7_scan_79 : decode cX7_scan 79 = .ok (.iload_n 2, 1) := by decide +kernel
theorem dX7_scan_80 : decode cX7_scan 80 = .ok (.iload 4, 2) := by decide +kernel
theorem dX7_scan_82 : decode cX7_scan 82 = .ok (.invokevirtual 33, 3) := by decide +kernel
theorem dX7_scan_85 : decode cX7_scan 85 = .ok (.iastore, 1) := by decide +kernel
theorem dX7_scan_86 : decode cX7_scan 86 = .ok (.aload_n 0, 1) := by decide +kernel
theorem dX7_scan_87 : decode cX7_scan 87 = .ok (.getfield 22, 3) := by decide +kernel
theorem dX7_scan_90 : decode cX7_scan 90 = .ok (.iload_n 1, 1) := by decide +kernel
theorem dX7_scan_91 : decode cX7_scan 91 = .ok (.iload_n 3, 1) := by decide +kernel
theorem dX7_scan_92 : decode cX7_scan 92 = .ok (.iconst 1, 1) := by decide +kernel
theorem dX7_scan_93 : decode cX7_scan 93 = .ok (.if_icmp .ne 13, 3) := by decide +kernel
theorem dX7_scan_96 : decode cX7_scan 96 = .ok (.aload_n 0, 1) := by decide +kernel
theorem dX7_scan_97 : decode cX7_scan 97 = .ok (.iload_n 2, 1) := by decide +kernel
theorem dX7_scan_98 : decode cX7_scan 98 = .ok (.iload 4, 2) := by decide +kernel
theorem dX7_scan_100 : decode cX7_scan 100 = .ok (.invokevirtual 37, 3) := by decide +kernel
theorem dX7_scan_103 : decode cX7_scan 103 = .ok (.goto 4, 3) := by decide +kernel
theorem dX7_scan_106 : decode cX7_scan 106 = .ok (.iconst 0, 1) := by decide +kernel
theorem dX7_scan_107 : decode cX7_scan 107 = .ok (.iastore, 1) := by decide +kernel
theorem dX7_scan_108 : decode cX7_scan 108 = .ok (.aload_n 0, 1) := by decide +kernel
theorem dX7_scan_109 : decode cX7_scan 109 = .ok (.getfield 15, 3) := by decide +kernel
theorem dX7_scan_112 : decode cX7_scan 112 = .ok (.iload_n 1, 1) := by decide +kernel
theorem dX7_scan_113 : decode cX7_scan 113 = .ok (.iaload, 1) := by decide +kernel
