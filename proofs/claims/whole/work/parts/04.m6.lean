theorem dX12_line_75 : decode cX12_line 75 = .ok (.iadd, 1) := by decide +kernel
theorem dX12_line_76 : decode cX12_line 76 = .ok (.iconst 1, 1) := by decide +kernel
theorem dX12_line_77 : decode cX12_line 77 = .ok (.iadd, 1) := by decide +kernel
theorem dX12_line_78 : decode cX12_line 78 = .ok (.iload_n 2, 1) := by decide +kernel
theorem dX12_line_79 : decode cX12_line 79 = .ok (.iastore, 1) := by decide +kernel
theorem dX12_line_80 : decode cX12_line 80 = .ok (.aload_n 0, 1) := by decide +kernel
theorem dX12_line_81 : decode cX12_line 81 = .ok (.getfield 7, 3) := by decide +kernel
theorem dX12_line_84 : decode cX12_line 84 = .ok (.iconst 5, 1) := by decide +kernel
theorem dX12_line_85 : decode cX12_line 85 = .ok (.dup2, 1) := by decide +kernel
theorem dX12_line_86 : decode cX12_line 86 = .ok (.iaload, 1) := by decide +kernel
theorem dX12_line_87 : decode cX12_line 87 = .ok (.iconst 1, 1) := by decide +kernel
theorem dX12_line_88 : decode cX12_line 88 = .ok (.iadd, 1) := by decide +kernel
theorem dX12_line_89 : decode cX12_line 89 = .ok (.iastore, 1) := by decide +kernel
theorem dX12_line_90 : decode cX12_line 90 = .ok (.aload_n 0, 1) := by decide +kernel
theorem dX12_line_91 : decode cX12_line 91 = .ok (.getfield 7, 3) := by decide +kernel
theorem dX12_line_94 : decode cX12_line 94 = .ok (.iconst 5, 1) := by decide +kernel
theorem dX12_line_95 : decode cX12_line 95 = .ok (.iaload, 1) := by decide +kernel
theorem dX12_line_96 : decode cX12_line 96 = .ok (.ireturn, 1) := by decide +kernel
theorem dX12_whose_0 : decode cX12_whose 0 = .ok (.iconst 0, 1) := by decide +kernel
theorem dX12_whose_1 : decode cX12_whose 1 = .ok (.istore_n 1, 1) := by decide +kernel
theorem dX12_whose_2 : decode cX12_whose 2 = .ok (.iconst 0, 1) := by decide +kernel
theorem dX12_whose_3 : decode cX12_whose 3 = .ok (.istore_n 2, 1) := by decide +kernel
theorem dX12_whose_4 : decode cX12_whose 4 = .ok (.iload_n 2, 1) := by decide +kernel
theorem dX12_whose_5 : decode cX12_whose 5 = .ok (.aload_n 0, 1) := by decide +kernel
theorem dX12_whose_6 : decode cX12_whose 6 = .ok (.getfield 7, 3) := by decide +kernel
theorem dX12_whose_9 : decode cX12_whose 9 = .ok (.iconst 2, 1) := by decide +kernel
theorem dX12_whose_10 : decode cX12_whose 10 = .ok (.iaload, 1) := by decide +kernel
theorem dX12_whose_11 : decode cX12_whose 11 = .ok (.if_icmp .ge 90, 3) := by decide +kernel
theorem dX12_whose_14 : decode cX12_whose 14 = .ok (.iconst 1, 1) := by decide +kernel
theorem dX12_whose_15 : decode cX12_whose 15 = .ok (.istore_n 3, 1) := by decide +kernel
theorem dX12_whose_16 : decode cX12_whose 16 = .ok (.iconst 0, 1) := by decide +kernel
theorem dX12_whose_17 : decode cX12_whose 17 = .ok (.istore 4, 2) := by decide +kernel
theorem dX12_whose_19 : decode cX12_whose 19 = .ok (.iload 4, 2) := by decide +kernel
theorem dX12_whose_21 : decode cX12_whose 21 = .ok (.aload_n 0, 1) := by decide +kernel
theorem dX12_whose_22 : decode cX12_whose 22 = .ok (.getfield 7, 3) := by decide +kernel
theorem dX12_whose_25 : decode cX12_whose 25 = .ok (.iconst 5, 1) := by decide +kernel
theorem dX12_whose_26 : decode cX12_whose 26 = .ok (.iaload, 1) := by decide +kernel
theorem dX12_whose_27 : decode cX12_whose 27 = .ok (.if_icmp .ge 54, 3) := by decide +kernel
theorem dX12_whose_30 : decode cX12_whose 30 = .ok (.iload_n 3, 1) := by decide +kernel
theorem dX12_whose_31 : decode cX12_whose 31 = .ok (.ifCond .eq 42, 3) := by decide +kernel
theorem dX12_whose_34 : decode cX12_whose 34 = .ok (.aload_n 0, 1) := by decide +kernel
theorem dX12_whose_35 : decode cX12_whose 35 = .ok (.iload_n 2, 1) := by decide +kernel
theorem dX12_whose_36 : decode cX12_whose 36 = .ok (.aload_n 0, 1) := by decide +kernel
theorem dX12_whose_37 : decode cX12_whose 37 = .ok (.getfield 7, 3) := by decide +kernel
theorem dX12_whose_40 : decode cX12_whose 40 = .ok (.bipush 124, 2) := by decide +kernel
theorem dX12_whose_42 : decode cX12_whose 42 = .ok (.iconst 2, 1) := by decide +kernel
theorem dX12_whose_43 : decode cX12_whose 43 = .ok (.iload 4, 2) := by decide +kernel
theorem dX12_whose_45 : decode cX12_whose 45 = .ok (.imul, 1) := by decide +kernel
theorem dX12_whose_46 : decode cX12_whose 46 = .ok (.iadd, 1) := by decide +kernel
theorem dX12_whose_47 : decode cX12_whose 47 = .ok (.iaload, 1) := by decide +kernel
theorem dX12_whose_48 : decode cX12_whose 48 = .ok (.aload_n 0, 1) := by decide +kernel
theorem dX12_whose_49 : decode cX12_whose 49 = .ok (.getfield 7, 3) := by decide +kernel
theorem dX12_whose_52 : decode cX12_whose 52 = .ok (.bipush 124, 2) := by decide +kernel
theorem dX12_whose_54 : decode cX12_whose 54 = .ok (.iconst 2, 1) := by decide +kernel
theorem dX12_whose_55 : decode cX12_whose 55 = .ok (.iload 4, 2) := by decide +kernel
theorem dX12_whose_57 : decode cX12_whose 57 = .ok (.imul, 1) := by decide +kernel
theorem dX12_whose_58 : decode cX12_whose 58 = .ok (.iadd, 1) := by decide +kernel
theorem dX12_whose_59 : decode cX12_whose 59 = .ok (.iconst 1, 1) := by decide +kernel
theorem dX12_whose_60 : decode cX12_whose 60 = .ok (.iadd, 1) := by decide +kernel
theorem dX12_whose_61 : decode cX12_whose 61 = .ok (.iaload, 1) := by decide +kernel
theorem dX12_whose_62 : decode cX12_whose 62 = .ok (.iconst 1, 1) := by decide +kernel
theorem dX12_whose_63 : decode cX12_whose 63 = .ok (.invokevirtual 394, 3) := by decide +kernel
theorem dX12_whose_66 : decode cX12_whose 66 = .ok (.ifCond .eq 7, 3) := by decide +kernel
theorem dX12_whose_69 : decode cX12_whose 69 = .ok (.iconst 1, 1) := by decide +kernel
theorem dX12_whose_70 : decode cX12_whose 70 = .ok (.goto 4, 3) := by decide +kernel
theorem dX12_whose_73 : decode cX12_whose 73 = .ok (.iconst 0, 1) := by decide +kernel
theorem dX12_whose_74 : decode cX12_whose 74 = .ok (.istore_n 3, 1) := by decide +kernel
theorem dX12_whose_75 : decode cX12_whose 75 = .ok (.iinc 4 1, 3) := by decide +kernel
theorem dX12_whose_78 : decode cX12_whose 78 = .ok (.goto (-59), 3) := by decide +kernel
theorem dX12_whose_81 : decode cX12_whose 81 = .ok (.iload_n 1, 1) := by decide +kernel
theorem dX12_whose_82 : decode cX12_whose 82 = .ok (.iload_n 3, 1) := by decide +kernel
theorem dX12_whose_83 : decode cX12_whose 83 = .ok (.ifCond .eq 9, 3) := by decide +kernel
theorem dX12_whose_86 : decode cX12_whose 86 = .ok (.iconst 1, 1) := by decide +kernel
theorem dX12_whose_87 : decode cX12_whose 87 = .ok (.iload_n 2, 1) := by decide +kernel
theorem dX12_whose_88 : decode cX12_whose 88 = .ok (.ishl, 1) := by decide +kernel
theorem dX12_whose_89 : decode cX12_whose 89 = .ok (.goto 4, 3) := by decide +kernel
theorem dX12_whose_92 : decode cX12_whose 92 = .ok (.iconst 0, 1) := by decide +kernel
theorem dX12_whose_93 : decode cX12_whose 93 = .ok (.ior, 1) := by decide +kernel
theorem dX12_whose_94 : decode cX12_whose 94 = .ok (.istore_n 1, 1) := by decide +kernel
theorem dX12_whose_95 : decode cX12_whose 95 = .ok (.iinc 2 1, 3) := by decide +kernel
theorem dX12_whose_98 : decode cX12_whose 98 = .ok (.goto (-94), 3) := by decide +kernel
theorem dX12_whose_101 : decode cX12_whose 101 = .ok (.iload_n 1, 1) := by decide +kernel
theorem dX12_whose_102 : decode cX12_whose 102 = .ok (.ireturn, 1) := by decide +kernel
theorem dX12_pairs_0 : decode cX12_pairs 0 = .ok (.iconst 0, 1) := by decide +kernel
theorem dX12_pairs_1 : decode cX12_pairs 1 = .ok (.istore_n 1, 1) := by decide +kernel
theorem dX12_pairs_2 : decode cX12_pairs 2 = .ok (.iconst 0, 1) := by decide +kernel
theorem dX12_pairs_3 : decode cX12_pairs 3 = .ok (.istore_n 2, 1) := by decide +kernel
theorem dX12_pairs_4 : decode cX12_pairs 4 = .ok (.iload_n 2, 1) := by decide +kernel
theorem dX12_pairs_5 : decode cX12_pairs 5 = .ok (.aload_n 0, 1) := by decide +kernel
theorem dX12_pairs_6 : decode cX12_pairs 6 = .ok (.getfield 7, 3) := by decide +kernel
theorem dX12_pairs_9 : decode cX12_pairs 9 = .ok (.iconst 5, 1) := by decide +kernel
theorem dX12_pairs_10 : decode cX12_pairs 10 = .ok (.iaload, 1) := by decide +kernel
theorem dX12_pairs_11 : decode cX12_pairs 11 = .ok (.if_icmp .ge 51, 3) := by decide +kernel
theorem dX12_pairs_14 : decode cX12_pairs 14 = .ok (.iload_n 1, 1) := by decide +kernel
theorem dX12_pairs_15 : decode cX12_pairs 15 = .ok (.iconst 1, 1) := by decide +kernel
theorem dX12_pairs_16 : decode cX12_pairs 16 = .ok (.iconst 4, 1) := by decide +kernel
theorem dX12_pairs_17 : decode cX12_pairs 17 = .ok (.aload_n 0, 1) := by decide +kernel
theorem dX12_pairs_18 : decode cX12_pairs 18 = .ok (.aload_n 0, 1) := by decide +kernel
theorem dX12_pairs_19 : decode cX12_pairs 19 = .ok (.getfield 7, 3) := by decide +kernel
theorem dX12_pairs_22 : decode cX12_pairs 22 = .ok (.bipush 124, 2) := by decide +kernel
theorem dX12_pairs_24 : decode cX12_pairs 24 = .ok (.iconst 2, 1) := by decide +kernel
theorem dX12_pairs_25 : decode cX12_pairs 25 = .ok (.iload_n 2, 1) := by decide +kernel
theorem dX12_pairs_26 : decode cX12_pairs 26 = .ok (.imul, 1) := by decide +kernel
theorem dX12_pairs_27 : decode cX12_pairs 27 = .ok (.iadd, 1) := by decide +kernel
theorem dX12_pairs_28 : decode cX12_pairs 28 = .ok (.iaload, 1) := by decide +kernel
theorem dX12_pairs_29 : decode cX12_pairs 29 = .ok (.iconst 0, 1) := by decide +kernel
theorem dX12_pairs_30 : decode cX12_pairs 30 = .ok (.invokevirtual 84, 3) := by decide +kernel
theorem dX12_pairs_33 : decode cX12_pairs 33 = .ok (.imul, 1) := by decide +kernel
theorem dX12_pairs_34 : decode cX12_pairs 34 = .ok (.aload_n 0, 1) := by decide +kernel
theorem dX12_pairs_35 : decode cX12_pairs 35 = .ok (.aload_n 0, 1) := by decide +kernel
theorem dX12_pairs_36 : decode cX12_pairs 36 = .ok (.getfield 7, 3) := by decide +kernel
theorem dX12_pairs_39 : decode cX12_pairs 39 = .ok (.bipush 124, 2) := by decide +kernel
theorem dX12_pairs_41 : decode cX12_pairs 41 = .ok (.iconst 2, 1) := by decide +kernel
theorem dX12_pairs_42 : decode cX12_pairs 42 = .ok (.iload_n 2, 1) := by decide +kernel
theorem dX12_pairs_43 : decode cX12_pairs 43 = .ok (.imul, 1) := by decide +kernel
theorem dX12_pairs_44 : decode cX12_pairs 44 = .ok (.iadd, 1) := by decide +kernel
theorem dX12_pairs_45 : decode cX12_pairs 45 = .ok (.iconst 1, 1) := by decide +kernel
theorem dX12_pairs_46 : decode cX12_pairs 46 = .ok (.iadd, 1) := by decide +kernel
theorem dX12_pairs_47 : decode cX12_pairs 47 = .ok (.iaload, 1) := by decide +kernel
theorem dX12_pairs_48 : decode cX12_pairs 48 = .ok (.iconst 0, 1) := by decide +kernel
theorem dX12_pairs_49 : decode cX12_pairs 49 = .ok (.invokevirtual 84, 3) := by decide +kernel
theorem dX12_pairs_52 : decode cX12_pairs 52 = .ok (.iadd, 1) := by decide +kernel
theorem dX12_pairs_53 : decode cX12_pairs 53 = .ok (.ishl, 1) := by decide +kernel
theorem dX12_pairs_54 : decode cX12_pairs 54 = .ok (.ior, 1) := by decide +kernel
theorem dX12_pairs_55 : decode cX12_pairs 55 = .ok (.istore_n 1, 1) := by decide +kernel
theorem dX12_pairs_56 : decode cX12_pairs 56 = .ok (.iinc 2 1, 3) := by decide +kernel
theorem dX12_pairs_59 : decode cX12_pairs 59 = .ok (.goto (-55), 3) := by decide +kernel
theorem dX12_pairs_62 : decode cX12_pairs 62 = .ok (.iload_n 1, 1) := by decide +kernel
theorem dX12_pairs_63 : decode cX12_pairs 63 = .ok (.ireturn, 1) := by decide +kernel
theorem dX12_tower_0 : decode cX12_tower 0 = .ok (.iload_n 1, 1) := by decide +kernel
theorem dX12_tower_1 : decode cX12_tower 1 = .ok (.iconst 0, 1) := by decide +kernel
theorem dX12_tower_2 : decode cX12_tower 2 = .ok (.iconst 1, 1) := by decide +kernel
theorem dX12_tower_3 : decode cX12_tower 3 = .ok (.invokestatic 80, 3) := by decide +kernel
theorem dX12_tower_6 : decode cX12_tower 6 = .ok (.ifCond .ne 6, 3) := by decide +kernel
theorem dX12_tower_9 : decode cX12_tower 9 = .ok (.bipush (-2), 2) := by decide +kernel
theorem dX12_tower_11 : decode cX12_tower 11 = .ok (.ireturn, 1) := by decide +kernel
theorem dX12_tower_12 : decode cX12_tower 12 = .ok (.iload_n 2, 1) := by decide +kernel
theorem dX12_tower_13 : decode cX12_tower 13 = .ok (.iconst (-1), 1) := by decide +kernel
theorem dX12_tower_14 : decode cX12_tower 14 = .ok (.if_icmp .ne 15, 3) := by decide +kernel
theorem dX12_tower_17 : decode cX12_tower 17 = .ok (.aload_n 0, 1) := by decide +kernel
theorem dX12_tower_18 : decode cX12_tower 18 = .ok (.getfield 7, 3) := by decide +kernel
theorem dX12_tower_21 : decode cX12_tower 21 = .ok (.bipush 6, 2) := by decide +kernel
theorem dX12_tower_23 : decode cX12_tower 23 = .ok (.iload_n 1, 1) := by decide +kernel
theorem dX12_tower_24 : decode cX12_tower 24 = .ok (.iadd, 1) := by decide +kernel
theorem dX12_tower_25 : decode cX12_tower 25 = .ok (.iconst 0, 1) := by decide +kernel
theorem dX12_tower_26 : decode cX12_tower 26 = .ok (.iastore, 1) := by decide +kernel
theorem dX12_tower_27 : decode cX12_tower 27 = .ok (.iconst 0, 1) := by decide +kernel
theorem dX12_tower_28 : decode cX12_tower 28 = .ok (.ireturn, 1) := by decide +kernel
theorem dX12_tower_29 : decode cX12_tower 29 = .ok (.aload_n 0, 1) := by decide +kernel
theorem dX12_tower_30 : decode cX12_tower 30 = .ok (.iload_n 2, 1) := by decide +kernel
theorem dX12_tower_31 : decode cX12_tower 31 = .ok (.invokevirtual 88, 3) := by decide +kernel
theorem dX12_tower_34 : decode cX12_tower 34 = .ok (.ifCond .eq 17, 3) := by decide +kernel
theorem dX12_tower_37 : decode cX12_tower 37 = .ok (.aload_n 0, 1) := by decide +kernel
theorem dX12_tower_38 : decode cX12_tower 38 = .ok (.getfield 7, 3) := by decide +kernel
theorem dX12_tower_41 : decode cX12_tower 41 = .ok (.bipush 6, 2) := by decide +kernel
theorem dX12_tower_43 : decode cX12_tower 43 = .ok (.iload_n 1, 1) := by decide +kernel
theorem dX12_tower_44 : decode cX12_tower 44 = .ok (.iadd, 1) := by decide +kernel
theorem dX12_tower_45 : decode cX12_tower 45 = .ok (.iaload, 1) := by decide +kernel
theorem dX12_tower_46 : decode cX12_tower 46 = .ok (.bipush 12, 2) := by decide +kernel
theorem dX12_tower_48 : decode cX12_tower 48 = .ok (.if_icmp .ne 6, 3) := by decide +kernel
theorem dX12_tower_51 : decode cX12_tower 51 = .ok (.bipush (-2), 2) := by decide +kernel
theorem dX12_tower_53 : decode cX12_tower 53 = .ok (.ireturn, 1) := by decide +kernel
theorem dX12_tower_54 : decode cX12_tower 54 = .ok (.aload_n 0, 1) := by decide +kernel
theorem dX12_tower_55 : decode cX12_tower 55 = .ok (.getfield 7, 3) := by decide +kernel
theorem dX12_tower_58 : decode cX12_tower 58 = .ok (.sipush 140, 3) := by decide +kernel
theorem dX12_tower_61 : decode cX12_tower 61 = .ok (.bipush 12, 2) := by decide +kernel
theorem dX12_tower_63 : decode cX12_tower 63 = .ok (.iload_n 1, 1) := by decide +kernel
theorem dX12_tower_64 : decode cX12_tower 64 = .ok (.imul, 1) := by decide +kernel
theorem dX12_tower_65 : decode cX12_tower 65 = .ok (.iadd, 1) := by decide +kernel
theorem dX12_tower_66 : decode cX12_tower 66 = .ok (.aload_n 0, 1) := by decide +kernel
theorem dX12_tower_67 : decode cX12_tower 67 = .ok (.getfield 7, 3) := by decide +kernel
theorem dX12_tower_70 : decode cX12_tower 70 = .ok (.bipush 6, 2) := by decide +kernel
theorem dX12_tower_72 : decode cX12_tower 72 = .ok (.iload_n 1, 1) := by decide +kernel
theorem dX12_tower_73 : decode cX12_tower 73 = .ok (.iadd, 1) := by decide +kernel
theorem dX12_tower_74 : decode cX12_tower 74 = .ok (.iaload, 1) := by decide +kernel
theorem dX12_tower_75 : decode cX12_tower 75 = .ok (.iadd, 1) := by decide +kernel
theorem dX12_tower_76 : decode cX12_tower 76 = .ok (.iload_n 2, 1) := by decide +kernel
theorem dX12_tower_77 : decode cX12_tower 77 = .ok (.iastore, 1) := by decide +kernel
theorem dX12_tower_78 : decode cX12_tower 78 = .ok (.aload_n 0, 1) := by decide +kernel
theorem dX12_tower_79 : decode cX12_tower 79 = .ok (.getfield 7, 3) := by decide +kernel
theorem dX12_tower_82 : decode cX12_tower 82 = .ok (.bipush 6, 2) := by decide +kernel
theorem dX12_tower_84 : decode cX12_tower 84 = .ok (.iload_n 1, 1) := by decide +kernel
theorem dX12_tower_85 : decode cX12_tower 85 = .ok (.iadd, 1) := by decide +kernel
theorem dX12_tower_86 : decode cX12_tower 86 = .ok (.dup2, 1) := by decide +kernel
theorem dX12_tower_87 : decode cX12_tower 87 = .ok (.iaload, 1) := by decide +kernel
theorem dX12_tower_88 : decode cX12_tower 88 = .ok (.iconst 1, 1) := by decide +kernel
theorem dX12_tower_89 : decode cX12_tower 89 = .ok (.iadd, 1) := by decide +kernel
theorem dX12_tower_90 : decode cX12_tower 90 = .ok (.iastore, 1) := by decide +kernel
theorem dX12_tower_91 : decode cX12_tower 91 = .ok (.aload_n 0, 1) := by decide +kernel
theorem dX12_tower_92 : decode cX12_tower 92 = .ok (.getfield 7, 3) := by decide +kernel
theorem dX12_tower_95 : decode cX12_tower 95 = .ok (.bipush 6, 2) := by decide +kernel
theorem dX12_tower_97 : decode cX12_tower 97 = .ok (.iload_n 1, 1) := by decide +kernel
theorem dX12_tower_98 : decode cX12_tower 98 = .ok (.iadd, 1) := by decide +kernel
theorem dX12_tower_99 : decode cX12_tower 99 = .ok (.iaload, 1) := by decide +kernel
theorem dX12_tower_100 : decode cX12_tower 100 = .ok (.ireturn, 1) := by decide +kernel
theorem dX12_runFrom_0 : decode cX12_runFrom 0 = .ok (.iconst 0, 1) := by decide +kernel
theorem dX12_runFrom_1 : decode cX12_runFrom 1 = .ok (.istore_n 3, 1) := by decide +kernel
theorem dX12_runFrom_2 : decode cX12_runFrom 2 = .ok (.iload_n 1, 1) := by decide +kernel
theorem dX12_runFrom_3 : decode cX12_runFrom 3 = .ok (.iload_n 3, 1) := by decide +kernel
theorem dX12_runFrom_4 : decode cX12_runFrom 4 = .ok (.iadd, 1) := by decide +kernel
theorem dX12_runFrom_5 : decode cX12_runFrom 5 = .ok (.aload_n 0, 1) := by decide +kernel
theorem dX12_runFrom_6 : decode cX12_runFrom 6 = .ok (.getfield 7, 3) := by decide +kernel
theorem dX12_runFrom_9 : decode cX12_runFrom 9 = .ok (.bipush 6, 2) := by decide +kernel
theorem dX12_runFrom_11 : decode cX12_runFrom 11 = .ok (.iaload, 1) := by decide +kernel
theorem dX12_runFrom_12 : decode cX12_runFrom 12 = .ok (.if_icmp .ge 49, 3) := by decide +kernel
theorem dX12_runFrom_15 : decode cX12_runFrom 15 = .ok (.iload_n 2, 1) := by decide +kernel
theorem dX12_runFrom_16 : decode cX12_runFrom 16 = .ok (.iload_n 3, 1) := by decide +kernel
theorem dX12_runFrom_17 : decode cX12_runFrom 17 = .ok (.iadd, 1) := by decide +kernel
theorem dX12_runFrom_18 : decode cX12_runFrom 18 = .ok (.aload_n 0, 1) := by decide +kernel
theorem dX12_runFrom_19 : decode cX12_runFrom 19 = .ok (.getfield 7, 3) := by decide +kernel
theorem dX12_runFrom_22 : decode cX12_runFrom 22 = .ok (.bipush 7, 2) := by decide +kernel
theorem dX12_runFrom_24 : decode cX12_runFrom 24 = .ok (.iaload, 1) := by decide +kernel
theorem dX12_runFrom_25 : decode cX12_runFrom 25 = .ok (.if_icmp .ge 36, 3) := by decide +kernel
theorem dX12_runFrom_28 : decode cX12_runFrom 28 = .ok (.aload_n 0, 1) := by decide +kernel
theorem dX12_runFrom_29 : decode cX12_runFrom 29 = .ok (.getfield 7, 3) := by decide +kernel
theorem dX12_runFrom_32 : decode cX12_runFrom 32 = .ok (.sipush 140, 3) := by decide +kernel
theorem dX12_runFrom_35 : decode cX12_runFrom 35 = .ok (.iload_n 1, 1) := by decide +kernel
theorem dX12_runFrom_36 : decode cX12_runFrom 36 = .ok (.iadd, 1) := by decide +kernel
theorem dX12_runFrom_37 : decode cX12_runFrom 37 = .ok (.iload_n 3, 1) := by decide +kernel
theorem dX12_runFrom_38 : decode cX12_runFrom 38 = .ok (.iadd, 1) := by decide +kernel
theorem dX12_runFrom_39 : decode cX12_runFrom 39 = .ok (.iaload, 1) := by decide +kernel
theorem dX12_runFrom_40 : decode cX12_runFrom 40 = .ok (.aload_n 0, 1) := by decide +kernel
theorem dX12_runFrom_41 : decode cX12_runFrom 41 = .ok (.getfield 7, 3) := by decide +kernel
theorem dX12_runFrom_44 : decode cX12_runFrom 44 = .ok (.sipush 152, 3) := by decide +kernel
theorem dX12_runFrom_47 : decode cX12_runFrom 47 = .ok (.iload_n 2, 1) := by decide +kernel
theorem dX12_runFrom_48 : decode cX12_runFrom 48 = .ok (.iadd, 1) := by decide +kernel
theorem dX12_runFrom_49 : decode cX12_runFrom 49 = .ok (.iload_n 3, 1) := by decide +kernel
theorem dX12_runFrom_50 : decode cX12_runFrom 50 = .ok (.iadd, 1) := by decide +kernel
theorem dX12_runFrom_51 : decode cX12_runFrom 51 = .ok (.iaload, 1) := by decide +kernel
theorem dX12_runFrom_52 : decode cX12_runFrom 52 = .ok (.if_icmp .ne 9, 3) := by decide +kernel
theorem dX12_runFrom_55 : decode cX12_runFrom 55 = .ok (.iinc 3 1, 3) := by decide +kernel
theorem dX12_runFrom_58 : decode cX12_runFrom 58 = .ok (.goto (-56), 3) := by decide +kernel
theorem dX12_runFrom_61 : decode cX12_runFrom 61 = .ok (.iload_n 3, 1) := by decide +kernel
theorem dX12_runFrom_62 : decode cX12_runFrom 62 = .ok (.ireturn, 1) := by decide +kernel
theorem dX12_lies_0 : decode cX12_lies 0 = .ok (.aload_n 0, 1) := by decide +kernel
theorem dX12_lies_1 : decode cX12_lies 1 = .ok (.iconst 0, 1) := by decide +kernel
theorem dX12_lies_2 : decode cX12_lies 2 = .ok (.iconst 0, 1) := by decide +kernel
theorem dX12_lies_3 : decode cX12_lies 3 = .ok (.invokevirtual 449, 3) := by decide +kernel
theorem dX12_lies_6 : decode cX12_lies 6 = .ok (.istore_n 2, 1) := by decide +kernel
theorem dX12_lies_7 : decode cX12_lies 7 = .ok (.iload_n 1, 1) := by decide +kernel
theorem dX12_lies_8 : decode cX12_lies 8 = .ok (.ifCond .ne 31, 3) := by decide +kernel
theorem dX12_lies_11 : decode cX12_lies 11 = .ok (.iload_n 2, 1) := by decide +kernel
theorem dX12_lies_12 : decode cX12_lies 12 = .ok (.aload_n 0, 1) := by decide +kernel
theorem dX12_lies_13 : decode cX12_lies 13 = .ok (.getfield 7, 3) := by decide +kernel
theorem dX12_lies_16 : decode cX12_lies 16 = .ok (.bipush 6, 2) := by decide +kernel
theorem dX12_lies_18 : decode cX12_lies 18 = .ok (.iaload, 1) := by decide +kernel
theorem dX12_lies_19 : decode cX12_lies 19 = .ok (.if_icmp .ne 18, 3) := by decide +kernel
theorem dX12_lies_22 : decode cX12_lies 22 = .ok (.iload_n 2, 1) := by decide +kernel
theorem dX12_lies_23 : decode cX12_lies 23 = .ok (.aload_n 0, 1) := by decide +kernel
theorem dX12_lies_24 : decode cX12_lies 24 = .ok (.getfield 7, 3) := by decide +kernel
theorem dX12_lies_27 : decode cX12_lies 27 = .ok (.bipush 7, 2) := by decide +kernel
theorem dX12_lies_29 : decode cX12_lies 29 = .ok (.iaload, 1) := by decide +kernel
theorem dX12_lies_30 : decode cX12_lies 30 = .ok (.if_icmp .ne 7, 3) := by decide +kernel
theorem dX12_lies_33 : decode cX12_lies 33 = .ok (.iconst (-1), 1) := by decide +kernel
theorem dX12_lies_34 : decode cX12_lies 34 = .ok (.goto 4, 3) := by decide +kernel
theorem dX12_lies_37 : decode cX12_lies 37 = .ok (.iload_n 2, 1) := by decide +kernel
theorem dX12_lies_38 : decode cX12_lies 38 = .ok (.ireturn, 1) := by decide +kernel
theorem dX12_lies_39 : decode cX12_lies 39 = .ok (.iconst 0, 1) := by decide +kernel
theorem dX12_lies_40 : decode cX12_lies 40 = .ok (.istore_n 3, 1) := by decide +kernel
theorem dX12_lies_41 : decode cX12_lies 41 = .ok (.iconst 0, 1) := by decide +kernel
theorem dX12_lies_42 : decode cX12_lies 42 = .ok (.istore 4, 2) := by decide +kernel
theorem dX12_lies_44 : decode cX12_lies 44 = .ok (.iload 4, 2) := by decide +kernel
theorem dX12_lies_46 : decode cX12_lies 46 = .ok (.aload_n 0, 1) := by decide +kernel
theorem dX12_lies_47 : decode cX12_lies 47 = .ok (.getfield 7, 3) := by decide +kernel
theorem dX12_lies_50 : decode cX12_lies 50 = .ok (.bipush 6, 2) := by decide +kernel
theorem dX12_lies_52 : decode cX12_lies 52 = .ok (.iaload, 1) := by decide +kernel
theorem dX12_lies_53 : decode cX12_lies 53 = .ok (.if_icmp .ge 55, 3) := by decide +kernel
theorem dX12_lies_56 : decode cX12_lies 56 = .ok (.iconst 0, 1) := by decide +kernel
theorem dX12_lies_57 : decode cX12_lies 57 = .ok (.istore 5, 2) := by decide +kernel
theorem dX12_lies_59 : decode cX12_lies 59 = .ok (.iload 5, 2) := by decide +kernel
theorem dX12_lies_61 : decode cX12_lies 61 = .ok (.aload_n 0, 1) := by decide +kernel
theorem dX12_lies_62 : decode cX12_lies 62 = .ok (.getfield 7, 3) := by decide +kernel
theorem dX12_lies_65 : decode cX12_lies 65 = .ok (.bipush 7, 2) := by decide +kernel
theorem dX12_lies_67 : decode cX12_lies 67 = .ok (.iaload, 1) := by decide +kernel
theorem dX12_lies_68 : decode cX12_lies 68 = .ok (.if_icmp .ge 34, 3) := by decide +kernel
theorem dX12_lies_71 : decode cX12_lies 71 = .ok (.aload_n 0, 1) := by decide +kernel
theorem dX12_lies_72 : decode cX12_lies 72 = .ok (.iload 4, 2) := by decide +kernel
theorem dX12_lies_74 : decode cX12_lies 74 = .ok (.iload 5, 2) := by decide +kernel
theorem dX12_lies_76 : decode cX12_lies 76 = .ok (.invokevirtual 449, 3) := by decide +kernel
theorem dX12_lies_79 : decode cX12_lies 79 = .ok (.iload_n 3, 1) := by decide +kernel
theorem dX12_lies_80 : decode cX12_lies 80 = .ok (.if_icmp .le 14, 3) := by decide +kernel
theorem dX12_lies_83 : decode cX12_lies 83 = .ok (.aload_n 0, 1) := by decide +kernel
theorem dX12_lies_84 : decode cX12_lies 84 = .ok (.iload 4, 2) := by decide +kernel
theorem dX12_lies_86 : decode cX12_lies 86 = .ok (.iload 5, 2) := by decide +kernel
theorem dX12_lies_88 : decode cX12_lies 88 = .ok (.invokevirtual 449, 3) := by decide +kernel
theorem dX12_lies_91 : decode cX12_lies 91 = .ok (.goto 4, 3) := by decide +kernel
theorem dX12_lies_94 : decode cX12_lies 94 = .ok (.iload_n 3, 1) := by decide +kernel
theorem dX12_lies_95 : decode cX12_lies 95 = .ok (.istore_n 3, 1) := by decide +kernel
theorem dX12_lies_96 : decode cX12_lies 96 = .ok (.iinc 5 1, 3) := by decide +kernel
theorem dX12_lies_99 : decode cX12_lies 99 = .ok (.goto (-40), 3) := by decide +kernel
theorem dX12_lies_102 : decode cX12_lies 102 = .ok (.iinc 4 1, 3) := by decide +kernel
theorem dX12_lies_105 : decode cX12_lies 105 = .ok (.goto (-61), 3) := by decide +kernel
theorem dX12_lies_108 : decode cX12_lies 108 = .ok (.iload_n 3, 1) := by decide +kernel
theorem dX12_lies_109 : decode cX12_lies 109 = .ok (.ireturn, 1) := by decide +kernel
theorem dX12_farFrom_0 : decode cX12_farFrom 0 = .ok (.bipush 10, 2) := by decide +kernel
theorem dX12_farFrom_2 : decode cX12_farFrom 2 = .ok (.istore_n 2, 1) := by decide +kernel
theorem dX12_farFrom_3 : decode cX12_farFrom 3 = .ok (.iconst 0, 1) := by decide +kernel
theorem dX12_farFrom_4 : decode cX12_farFrom 4 = .ok (.istore_n 3, 1) := by decide +kernel
theorem dX12_farFrom_5 : decode cX12_farFrom 5 = .ok (.iload_n 3, 1) := by decide +kernel
theorem dX12_farFrom_6 : decode cX12_farFrom 6 = .ok (.aload_n 0, 1) := by decide +kernel
theorem dX12_farFrom_7 : decode cX12_farFrom 7 = .ok (.getfield 7, 3) := by decide +kernel
theorem dX12_farFrom_10 : decode cX12_farFrom 10 = .ok (.iconst 0, 1) := by decide +kernel
theorem dX12_farFrom_11 : decode cX12_farFrom 11 = .ok (.iaload, 1) := by decide +kernel
theorem dX12_farFrom_12 : decode cX12_farFrom 12 = .ok (.if_icmp .ge 50, 3) := by decide +kernel
theorem dX12_farFrom_15 : decode cX12_farFrom 15 = .ok (.iload_n 1, 1) := by decide +kernel
theorem dX12_farFrom_16 : decode cX12_farFrom 16 = .ok (.aload_n 0, 1) := by decide +kernel
theorem dX12_farFrom_17 : decode cX12_farFrom 17 = .ok (.iload_n 3, 1) := by decide +kernel
theorem dX12_farFrom_18 : decode cX12_farFrom 18 = .ok (.invokevirtual 299, 3) := by decide +kernel
theorem dX12_farFrom_21 : decode cX12_farFrom 21 = .ok (.if_icmp .le 13, 3) := by decide +kernel
theorem dX12_farFrom_24 : decode cX12_farFrom 24 = .ok (.iload_n 1, 1) := by decide +kernel
theorem dX12_farFrom_25 : decode cX12_farFrom 25 = .ok (.aload_n 0, 1) := by decide +kernel
theorem dX12_farFrom_26 : decode cX12_farFrom 26 = .ok (.iload_n 3, 1) := by decide +kernel
theorem dX12_farFrom_27 : decode cX12_farFrom 27 = .ok (.invokevirtual 299, 3) := by decide +kernel
theorem dX12_farFrom_30 : decode cX12_farFrom 30 = .ok (.isub, 1) := by decide +kernel
theorem dX12_farFrom_31 : decode cX12_farFrom 31 = .ok (.goto 10, 3) := by decide +kernel
theorem dX12_farFrom_34 : decode cX12_farFrom 34 = .ok (.aload_n 0, 1) := by decide +kernel
theorem dX12_farFrom_35 : decode cX12_farFrom 35 = .ok (.iload_n 3, 1) := by decide +kernel
theorem dX12_farFrom_36 : decode cX12_farFrom 36 = .ok (.invokevirtual 299, 3) := by decide +kernel
theorem dX12_farFrom_39 : decode cX12_farFrom 39 = .ok (.iload_n 1, 1) := by decide +kernel
theorem dX12_farFrom_40 : decode cX12_farFrom 40 = .ok (.isub, 1) := by decide +kernel
theorem dX12_farFrom_41 : decode cX12_farFrom 41 = .ok (.istore 4, 2) := by decide +kernel
theorem dX12_farFrom_43 : decode cX12_farFrom 43 = .ok (.iload 4, 2) := by decide +kernel
theorem dX12_farFrom_45 : decode cX12_farFrom 45 = .ok (.iload_n 2, 1) := by decide +kernel
theorem dX12_farFrom_46 : decode cX12_farFrom 46 = .ok (.if_icmp .ge 8, 3) := by decide +kernel
theorem dX12_farFrom_49 : decode cX12_farFrom 49 = .ok (.iload 4, 2) := by decide +kernel
theorem dX12_farFrom_51 : decode cX12_farFrom 51 = .ok (.goto 4, 3) := by decide +kernel
theorem dX12_farFrom_54 : decode cX12_farFrom 54 = .ok (.iload_n 2, 1) := by decide +kernel
theorem dX12_farFrom_55 : decode cX12_farFrom 55 = .ok (.istore_n 2, 1) := by decide +kernel
theorem dX12_farFrom_56 : decode cX12_farFrom 56 = .ok (.iinc 3 1, 3) := by decide +kernel
theorem dX12_farFrom_59 : decode cX12_farFrom 59 = .ok (.goto (-54), 3) := by decide +kernel
theorem dX12_farFrom_62 : decode cX12_farFrom 62 = .ok (.iload_n 2, 1) := by decide +kernel
theorem dX12_farFrom_63 : decode cX12_farFrom 63 = .ok (.ireturn, 1) := by decide +kernel
theorem dX12_newBell_0 : decode cX12_newBell 0 = .ok (.iconst 0, 1) := by decide +kernel
theorem dX12_newBell_1 : decode cX12_newBell 1 = .ok (.istore_n 2, 1) := by decide +kernel
theorem dX12_newBell_2 : decode cX12_newBell 2 = .ok (.iload_n 2, 1) := by decide +kernel
theorem dX12_newBell_3 : decode cX12_newBell 3 = .ok (.bipush 10, 2) := by decide +kernel
theorem dX12_newBell_5 : decode cX12_newBell 5 = .ok (.if_icmp .ge 30, 3) := by decide +kernel
theorem dX12_newBell_8 : decode cX12_newBell 8 = .ok (.iload_n 1, 1) := by decide +kernel
theorem dX12_newBell_9 : decode cX12_newBell 9 = .ok (.iconst 1, 1) := by decide +kernel
theorem dX12_newBell_10 : decode cX12_newBell 10 = .ok (.bipush 9, 2) := by decide +kernel
theorem dX12_newBell_12 : decode cX12_newBell 12 = .ok (.invokestatic 80, 3) := by decide +kernel
theorem dX12_newBell_15 : decode cX12_newBell 15 = .ok (.ifCond .eq 20, 3) := by decide +kernel
theorem dX12_newBell_18 : decode cX12_newBell 18 = .ok (.aload_n 0, 1) := by decide +kernel
theorem dX12_newBell_19 : decode cX12_newBell 19 = .ok (.iload_n 2, 1) := by decide +kernel
theorem dX12_newBell_20 : decode cX12_newBell 20 = .ok (.invokevirtual 452, 3) := by decide +kernel
theorem dX12_newBell_23 : decode cX12_newBell 23 = .ok (.iload_n 1, 1) := by decide +kernel
theorem dX12_newBell_24 : decode cX12_newBell 24 = .ok (.if_icmp .lt 5, 3) := by decide +kernel
theorem dX12_newBell_27 : decode cX12_newBell 27 = .ok (.iload_n 2, 1) := by decide +kernel
theorem dX12_newBell_28 : decode cX12_newBell 28 = .ok (.ireturn, 1) := by decide +kernel
theorem dX12_newBell_29 : decode cX12_newBell 29 = .ok (.iinc 2 1, 3) := by decide +kernel
theorem dX12_newBell_32 : decode cX12_newBell 32 = .ok (.goto (-30), 3) := by decide +kernel
theorem dX12_newBell_35 : decode cX12_newBell 35 = .ok (.iconst (-1), 1) := by decide +kernel
theorem dX12_newBell_36 : decode cX12_newBell 36 = .ok (.ireturn, 1) := by decide +kernel
theorem dX12_farthest_0 : decode cX12_farthest 0 = .ok (.iconst 0, 1) := by decide +kernel
theorem dX12_farthest_1 : decode cX12_farthest 1 = .ok (.istore_n 1, 1) := by decide +kernel
theorem dX12_farthest_2 : decode cX12_farthest 2 = .ok (.iconst 0, 1) := by decide +kernel
theorem dX12_farthest_3 : decode cX12_farthest 3 = .ok (.istore_n 2, 1) := by decide +kernel
theorem dX12_farthest_4 : decode cX12_farthest 4 = .ok (.iload_n 2, 1) := by decide +kernel
theorem dX12_farthest_5 : decode cX12_farthest 5 = .ok (.bipush 10, 2) := by decide +kernel
theorem dX12_farthest_7 : decode cX12_farthest 7 = .ok (.if_icmp .ge 28, 3) := by decide +kernel
theorem dX12_farthest_10 : decode cX12_farthest 10 = .ok (.aload_n 0, 1) := by decide +kernel
theorem dX12_farthest_11 : decode cX12_farthest 11 = .ok (.iload_n 2, 1) := by decide +kernel
theorem dX12_farthest_12 : decode cX12_farthest 12 = .ok (.invokevirtual 452, 3) := by decide +kernel
theorem dX12_farthest_15 : decode cX12_farthest 15 = .ok (.iload_n 1, 1) := by decide +kernel
theorem dX12_farthest_16 : decode cX12_farthest 16 = .ok (.if_icmp .le 11, 3) := by decide +kernel
theorem dX12_farthest_19 : decode cX12_farthest 19 = .ok (.aload_n 0, 1) := by decide +kernel
theorem dX12_farthest_20 : decode cX12_farthest 20 = .ok (.iload_n 2, 1) := by decide +kernel
theorem dX12_farthest_21 : decode cX12_farthest 21 = .ok (.invokevirtual 452, 3) := by decide +kernel
theorem dX12_farthest_24 : decode cX12_farthest 24 = .ok (.goto 4, 3) := by decide +kernel
theorem dX12_farthest_27 : decode cX12_farthest 27 = .ok (.iload_n 1, 1) := by decide +kernel
theorem dX12_farthest_28 : decode cX12_farthest 28 = .ok (.istore_n 1, 1) := by decide +kernel
theorem dX12_farthest_29 : decode cX12_farthest 29 = .ok (.iinc 2 1, 3) := by decide +kernel
theorem dX12_farthest_32 : decode cX12_farthest 32 = .ok (.goto (-28), 3) := by decide +kernel
theorem dX12_farthest_35 : decode cX12_farthest 35 = .ok (.iload_n 1, 1) := by decide +kernel
theorem dX12_farthest_36 : decode cX12_farthest 36 = .ok (.ireturn, 1) := by decide +kernel
theorem dX12_ropes_0 : decode cX12_ropes 0 = .ok (.iconst 0, 1) := by decide +kernel
theorem dX12_ropes_1 : decode cX12_ropes 1 = .ok (.istore_n 1, 1) := by decide +kernel
theorem dX12_ropes_2 : decode cX12_ropes 2 = .ok (.iconst 0, 1) := by decide +kernel
theorem dX12_ropes_3 : decode cX12_ropes 3 = .ok (.istore_n 2, 1) := by decide +kernel
theorem dX12_ropes_4 : decode cX12_ropes 4 = .ok (.iload_n 2, 1) := by decide +kernel
theorem dX12_ropes_5 : decode cX12_ropes 5 = .ok (.aload_n 0, 1) := by decide +kernel
theorem dX12_ropes_6 : decode cX12_ropes 6 = .ok (.getfield 7, 3) := by decide +kernel
theorem dX12_ropes_9 : decode cX12_ropes 9 = .ok (.iconst 0, 1) := by decide +kernel
theorem dX12_ropes_10 : decode cX12_ropes 10 = .ok (.iaload, 1) := by decide +kernel
theorem dX12_ropes_11 : decode cX12_ropes 11 = .ok (.if_icmp .ge 34, 3) := by decide +kernel
theorem dX12_ropes_14 : decode cX12_ropes 14 = .ok (.iload_n 1, 1) := by decide +kernel
theorem dX12_ropes_15 : decode cX12_ropes 15 = .ok (.aload_n 0, 1) := by decide +kernel
theorem dX12_ropes_16 : decode cX12_ropes 16 = .ok (.iload_n 2, 1) := by decide +kernel
theorem dX12_ropes_17 : decode cX12_ropes 17 = .ok (.invokevirtual 302, 3) := by decide +kernel
theorem dX12_ropes_20 : decode cX12_ropes 20 = .ok (.aload_n 0, 1) := by decide +kernel
theorem dX12_ropes_21 : decode cX12_ropes 21 = .ok (.getfield 7, 3) := by decide +kernel
theorem dX12_ropes_24 : decode cX12_ropes 24 = .ok (.bipush 11, 2) := by decide +kernel
theorem dX12_ropes_26 : decode cX12_ropes 26 = .ok (.iaload, 1) := by decide +kernel
theorem dX12_ropes_27 : decode cX12_ropes 27 = .ok (.if_icmp .gt 9, 3) := by decide +kernel
theorem dX12_ropes_30 : decode cX12_ropes 30 = .ok (.iconst 1, 1) := by decide +kernel
theorem dX12_ropes_31 : decode cX12_ropes 31 = .ok (.iload_n 2, 1) := by decide +kernel
theorem dX12_ropes_32 : decode cX12_ropes 32 = .ok (.ishl, 1) := by decide +kernel
theorem dX12_ropes_33 : decode cX12_ropes 33 = .ok (.goto 4, 3) := by decide +kernel
theorem dX12_ropes_36 : decode cX12_ropes 36 = .ok (.iconst 0, 1) := by decide +kernel
theorem dX12_ropes_37 : decode cX12_ropes 37 = .ok (.ior, 1) := by decide +kernel
theorem dX12_ropes_38 : decode cX12_ropes 38 = .ok (.istore_n 1, 1) := by decide +kernel
theorem dX12_ropes_39 : decode cX12_ropes 39 = .ok (.iinc 2 1, 3) := by decide +kernel
theorem dX12_ropes_42 : decode cX12_ropes 42 = .ok (.goto (-38), 3) := by decide +kernel
theorem dX12_ropes_45 : decode cX12_ropes 45 = .ok (.iload_n 1, 1) := by decide +kernel
theorem dX12_ropes_46 : decode cX12_ropes 46 = .ok (.ireturn, 1) := by decide +kernel
theorem dX12_digitOf_0 : decode cX12_digitOf 0 = .ok (.iload_n 0, 1) := by decide +kernel
theorem dX12_digitOf_1 : decode cX12_digitOf 1 = .ok (.istore_n 3, 1) := by decide +kernel
theorem dX12_digitOf_2 : decode cX12_digitOf 2 = .ok (.iload_n 1, 1) := by decide +kernel
theorem dX12_digitOf_3 : decode cX12_digitOf 3 = .ok (.iconst 1, 1) := by decide +kernel
theorem dX12_digitOf_4 : decode cX12_digitOf 4 = .ok (.isub, 1) := by decide +kernel
theorem dX12_digitOf_5 : decode cX12_digitOf 5 = .ok (.istore 4, 2) := by decide +kernel
theorem dX12_digitOf_7 : decode cX12_digitOf 7 = .ok (.iload 4, 2) := by decide +kernel
theorem dX12_digitOf_9 : decode cX12_digitOf 9 = .ok (.iload_n 2, 1) := by decide +kernel
theorem dX12_digitOf_10 : decode cX12_digitOf 10 = .ok (.if_icmp .le 14, 3) := by decide +kernel
theorem dX12_digitOf_13 : decode cX12_digitOf 13 = .ok (.iload_n 3, 1) := by decide +kernel
theorem dX12_digitOf_14 : decode cX12_digitOf 14 = .ok (.bipush 10, 2) := by decide +kernel
theorem dX12_digitOf_16 : decode cX12_digitOf 16 = .ok (.idiv, 1) := by decide +kernel
theorem dX12_digitOf_17 : decode cX12_digitOf 17 = .ok (.istore_n 3, 1) := by decide +kernel
theorem dX12_digitOf_18 : decode cX12_digitOf 18 = .ok (.iinc 4 (-1), 3) := by decide +kernel
theorem dX12_digitOf_21 : decode cX12_digitOf 21 = .ok (.goto (-14), 3) := by decide +kernel
theorem dX12_digitOf_24 : decode cX12_digitOf 24 = .ok (.iload_n 3, 1) := by decide +kernel
theorem dX12_digitOf_25 : decode cX12_digitOf 25 = .ok (.bipush 10, 2) := by decide +kernel
theorem dX12_digitOf_27 : decode cX12_digitOf 27 = .ok (.irem, 1) := by decide +kernel
theorem dX12_digitOf_28 : decode cX12_digitOf 28 = .ok (.ireturn, 1) := by decide +kernel
theorem dX12_isRow_0 : decode cX12_isRow 0 = .ok (.iconst 0, 1) := by decide +kernel
theorem dX12_isRow_1 : decode cX12_isRow 1 = .ok (.istore_n 2, 1) := by decide +kernel
theorem dX12_isRow_2 : decode cX12_isRow 2 = .ok (.iconst 0, 1) := by decide +kernel
theorem dX12_isRow_3 : decode cX12_isRow 3 = .ok (.istore_n 3, 1) := by decide +kernel
theorem dX12_isRow_4 : decode cX12_isRow 4 = .ok (.iload_n 3, 1) := by decide +kernel
theorem dX12_isRow_5 : decode cX12_isRow 5 = .ok (.iload_n 1, 1) := by decide +kernel
theorem dX12_isRow_6 : decode cX12_isRow 6 = .ok (.if_icmp .ge 20, 3) := by decide +kernel
theorem dX12_isRow_9 : decode cX12_isRow 9 = .ok (.iload_n 2, 1) := by decide +kernel
theorem dX12_isRow_10 : decode cX12_isRow 10 = .ok (.iconst 1, 1) := by decide +kernel
theorem dX12_isRow_11 : decode cX12_isRow 11 = .ok (.iload_n 0, 1) := by decide +kernel
theorem dX12_isRow_12 : decode cX12_isRow 12 = .ok (.iload_n 1, 1) := by decide +kernel
theorem dX12_isRow_13 : decode cX12_isRow 13 = .ok (.iload_n 3, 1) := by decide +kernel
theorem dX12_isRow_14 : decode cX12_isRow 14 = .ok (.invokestatic 455, 3) := by decide +kernel
theorem dX12_isRow_17 : decode cX12_isRow 17 = .ok (.ishl, 1) := by decide +kernel
theorem dX12_isRow_18 : decode cX12_isRow 18 = .ok (.ior, 1) := by decide +kernel
theorem dX12_isRow_19 : decode cX12_isRow 19 = .ok (.istore_n 2, 1) := by decide +kernel
theorem dX12_isRow_20 : decode cX12_isRow 20 = .ok (.iinc 3 1, 3) := by decide +kernel
theorem dX12_isRow_23 : decode cX12_isRow 23 = .ok (.goto (-19), 3) := by decide +kernel
theorem dX12_isRow_26 : decode cX12_isRow 26 = .ok (.iload_n 2, 1) := by decide +kernel
theorem dX12_isRow_27 : decode cX12_isRow 27 = .ok (.iconst 1, 1) := by decide +kernel
theorem dX12_isRow_28 : decode cX12_isRow 28 = .ok (.iload_n 1, 1) := by decide +kernel
theorem dX12_isRow_29 : decode cX12_isRow 29 = .ok (.ishl, 1) := by decide +kernel
theorem dX12_isRow_30 : decode cX12_isRow 30 = .ok (.iconst 1, 1) := by decide +kernel
theorem dX12_isRow_31 : decode cX12_isRow 31 = .ok (.isub, 1) := by decide +kernel
theorem dX12_isRow_32 : decode cX12_isRow 32 = .ok (.if_icmp .ne 7, 3) := by decide +kernel
theorem dX12_isRow_35 : decode cX12_isRow 35 = .ok (.iconst 1, 1) := by decide +kernel
theorem dX12_isRow_36 : decode cX12_isRow 36 = .ok (.goto 4, 3) := by decide +kernel
theorem dX12_isRow_39 : decode cX12_isRow 39 = .ok (.iconst 0, 1) := by decide +kernel
theorem dX12_isRow_40 : decode cX12_isRow 40 = .ok (.ireturn, 1) := by decide +kernel
theorem dX12_tens_0 : decode cX12_tens 0 = .ok (.iconst 1, 1) := by decide +kernel
theorem dX12_tens_1 : decode cX12_tens 1 = .ok (.istore_n 1, 1) := by decide +kernel
theorem dX12_tens_2 : decode cX12_tens 2 = .ok (.iconst 0, 1) := by decide +kernel
theorem dX12_tens_3 : decode cX12_tens 3 = .ok (.istore_n 2, 1) := by decide +kernel
theorem dX12_tens_4 : decode cX12_tens 4 = .ok (.iload_n 2, 1) := by decide +kernel
theorem dX12_tens_5 : decode cX12_tens 5 = .ok (.iload_n 0, 1) := by decide +kernel
theorem dX12_tens_6 : decode cX12_tens 6 = .ok (.if_icmp .ge 14, 3) := by decide +kernel
theorem dX12_tens_9 : decode cX12_tens 9 = .ok (.iload_n 1, 1) := by decide +kernel
theorem dX12_tens_10 : decode cX12_tens 10 = .ok (.bipush 10, 2) := by decide +kernel
theorem dX12_tens_12 : decode cX12_tens 12 = .ok (.imul, 1) := by decide +kernel
theorem dX12_tens_13 : decode cX12_tens 13 = .ok (.istore_n 1, 1) := by decide +kernel
theorem dX12_tens_14 : decode cX12_tens 14 = .ok (.iinc 2 1, 3) := by decide +kernel
theorem dX12_tens_17 : decode cX12_tens 17 = .ok (.goto (-13), 3) := by decide +kernel
theorem dX12_tens_20 : decode cX12_tens 20 = .ok (.iload_n 1, 1) := by decide +kernel
theorem dX12_tens_21 : decode cX12_tens 21 = .ok (.ireturn, 1) := by decide +kernel
theorem dX12_layRows_0 : decode cX12_layRows 0 = .ok (.aload_n 0, 1) := by decide +kernel
theorem dX12_layRows_1 : decode cX12_layRows 1 = .ok (.iconst 0, 1) := by decide +kernel
theorem dX12_layRows_2 : decode cX12_layRows 2 = .ok (.putfield 458, 3) := by decide +kernel
theorem dX12_layRows_5 : decode cX12_layRows 5 = .ok (.iconst 0, 1) := by decide +kernel
theorem dX12_layRows_6 : decode cX12_layRows 6 = .ok (.istore_n 2, 1) := by decide +kernel
theorem dX12_layRows_7 : decode cX12_layRows 7 = .ok (.iload_n 2, 1) := by decide +kernel
theorem dX12_layRows_8 : decode cX12_layRows 8 = .ok (.iload_n 1, 1) := by decide +kernel
theorem dX12_layRows_9 : decode cX12_layRows 9 = .ok (.invokestatic 461, 3) := by decide +kernel
theorem dX12_layRows_12 : decode cX12_layRows 12 = .ok (.if_icmp .ge 50, 3) := by decide +kernel
theorem dX12_layRows_15 : decode cX12_layRows 15 = .ok (.iload_n 2, 1) := by decide +kernel
theorem dX12_layRows_16 : decode cX12_layRows 16 = .ok (.iload_n 1, 1) := by decide +kernel
theorem dX12_layRows_17 : decode cX12_layRows 17 = .ok (.invokestatic 464, 3) := by decide +kernel
theorem dX12_layRows_20 : decode cX12_layRows 20 = .ok (.ifCond .ne 6, 3) := by decide +kernel
theorem dX12_layRows_23 : decode cX12_layRows 23 = .ok (.goto 33, 3) := by decide +kernel
theorem dX12_layRows_26 : decode cX12_layRows 26 = .ok (.aload_n 0, 1) := by decide +kernel
theorem dX12_layRows_27 : decode cX12_layRows 27 = .ok (.getfield 70, 3) := by decide +kernel
theorem dX12_layRows_30 : decode cX12_layRows 30 = .ok (.aload_n 0, 1) := by decide +kernel
theorem dX12_layRows_31 : decode cX12_layRows 31 = .ok (.getfield 458, 3) := by decide +kernel
theorem dX12_layRows_34 : decode cX12_layRows 34 = .ok (.iload_n 2, 1) := by decide +kernel
theorem dX12_layRows_35 : decode cX12_layRows 35 = .ok (.iastore, 1) := by decide +kernel
theorem dX12_layRows_36 : decode cX12_layRows 36 = .ok (.aload_n 0, 1) := by decide +kernel
theorem dX12_layRows_37 : decode cX12_layRows 37 = .ok (.getfield 73, 3) := by decide +kernel
theorem dX12_layRows_40 : decode cX12_layRows 40 = .ok (.aload_n 0, 1) := by decide +kernel
theorem dX12_layRows_41 : decode cX12_layRows 41 = .ok (.getfield 458, 3) := by decide +kernel
theorem dX12_layRows_44 : decode cX12_layRows 44 = .ok (.iconst (-1), 1) := by decide +kernel
theorem dX12_layRows_45 : decode cX12_layRows 45 = .ok (.iastore, 1) := by decide +kernel
theorem dX12_layRows_46 : decode cX12_layRows 46 = .ok (.aload_n 0, 1) := by decide +kernel
theorem dX12_layRows_47 : decode cX12_layRows 47 = .ok (.dup, 1) := by decide +kernel
theorem dX12_layRows_48 : decode cX12_layRows 48 = .ok (.getfield 458, 3) := by decide +kernel
theorem dX12_layRows_51 : decode cX12_layRows 51 = .ok (.iconst 1, 1) := by decide +kernel
theorem dX12_layRows_52 : decode cX12_layRows 52 = .ok (.iadd, 1) := by decide +kernel
theorem dX12_layRows_53 : decode cX12_layRows 53 = .ok (.putfield 458, 3) := by decide +kernel
theorem dX12_layRows_56 : decode cX12_layRows 56 = .ok (.iinc 2 1, 3) := by decide +kernel
theorem dX12_layRows_59 : decode cX12_layRows 59 = .ok (.goto (-52), 3) := by decide +kernel
theorem dX12_layRows_62 : decode cX12_layRows 62 = .ok (.return_, 1) := by decide +kernel
theorem dX12_isChange_0 : decode cX12_isChange 0 = .ok (.iconst 0, 1) := by decide +kernel
theorem dX12_isChange_1 : decode cX12_isChange 1 = .ok (.istore_n 3, 1) := by decide +kernel
theorem dX12_isChange_2 : decode cX12_isChange 2 = .ok (.iload_n 3, 1) := by decide +kernel
theorem dX12_isChange_3 : decode cX12_isChange 3 = .ok (.iload_n 2, 1) := by decide +kernel
theorem dX12_isChange_4 : decode cX12_isChange 4 = .ok (.if_icmp .ge 73, 3) := by decide +kernel
theorem dX12_isChange_7 : decode cX12_isChange 7 = .ok (.iload_n 0, 1) := by decide +kernel
theorem dX12_isChange_8 : decode cX12_isChange 8 = .ok (.iload_n 2, 1) := by decide +kernel
theorem dX12_isChange_9 : decode cX12_isChange 9 = .ok (.iload_n 3, 1) := by decide +kernel
theorem dX12_isChange_10 : decode cX12_isChange 10 = .ok (.invokestatic 455, 3) := by decide +kernel
theorem dX12_isChange_13 : decode cX12_isChange 13 = .ok (.iload_n 1, 1) := by decide +kernel
theorem dX12_isChange_14 : decode cX12_isChange 14 = .ok (.iload_n 2, 1) := by decide +kernel
theorem dX12_isChange_15 : decode cX12_isChange 15 = .ok (.iload_n 3, 1) := by decide +kernel
theorem dX12_isChange_16 : decode cX12_isChange 16 = .ok (.invokestatic 455, 3) := by decide +kernel
theorem dX12_isChange_19 : decode cX12_isChange 19 = .ok (.if_icmp .ne 9, 3) := by decide +kernel
theorem dX12_isChange_22 : decode cX12_isChange 22 = .ok (.iinc 3 1, 3) := by decide +kernel
theorem dX12_isChange_25 : decode cX12_isChange 25 = .ok (.goto (-23), 3) := by decide +kernel
theorem dX12_isChange_28 : decode cX12_isChange 28 = .ok (.iload_n 3, 1) := by decide +kernel
theorem dX12_isChange_29 : decode cX12_isChange 29 = .ok (.iconst 1, 1) := by decide +kernel
theorem dX12_isChange_30 : decode cX12_isChange 30 = .ok (.iadd, 1) := by decide +kernel
theorem dX12_isChange_31 : decode cX12_isChange 31 = .ok (.iload_n 2, 1) := by decide +kernel
theorem dX12_isChange_32 : decode cX12_isChange 32 = .ok (.if_icmp .ge 43, 3) := by decide +kernel
theorem dX12_isChange_35 : decode cX12_isChange 35 = .ok (.iload_n 0, 1) := by decide +kernel
theorem dX12_isChange_36 : decode cX12_isChange 36 = .ok (.iload_n 2, 1) := by decide +kernel
theorem dX12_isChange_37 : decode cX12_isChange 37 = .ok (.iload_n 3, 1) := by decide +kernel
theorem dX12_isChange_38 : decode cX12_isChange 38 = .ok (.invokestatic 455, 3) := by decide +kernel
theorem dX12_isChange_41 : decode cX12_isChange 41 = .ok (.iload_n 1, 1) := by decide +kernel
theorem dX12_isChange_42 : decode cX12_isChange 42 = .ok (.iload_n 2, 1) := by decide +kernel
theorem dX12_isChange_43 : decode cX12_isChange 43 = .ok (.iload_n 3, 1) := by decide +kernel
theorem dX12_isChange_44 : decode cX12_isChange 44 = .ok (.iconst 1, 1) := by decide +kernel
theorem dX12_isChange_45 : decode cX12_isChange 45 = .ok (.iadd, 1) := by decide +kernel
theorem dX12_isChange_46 : decode cX12_isChange 46 = .ok (.invokestatic 455, 3) := by decide +kernel
theorem dX12_isChange_49 : decode cX12_isChange 49 = .ok (.if_icmp .ne 26, 3) := by decide +kernel
theorem dX12_isChange_52 : decode cX12_isChange 52 = .ok (.iload_n 0, 1) := by decide +kernel
theorem dX12_isChange_53 : decode cX12_isChange 53 = .ok (.iload_n 2, 1) := by decide +kernel
theorem dX12_isChange_54 : decode cX12_isChange 54 = .ok (.iload_n 3, 1) := by decide +kernel
theorem dX12_isChange_55 : decode cX12_isChange 55 = .ok (.iconst 1, 1) := by decide +kernel
theorem dX12_isChange_56 : decode cX12_isChange 56 = .ok (.iadd, 1) := by decide +kernel
theorem dX12_isChange_57 : decode cX12_isChange 57 = .ok (.invokestatic 455, 3) := by decide +kernel
theorem dX12_isChange_60 : decode cX12_isChange 60 = .ok (.iload_n 1, 1) := by decide +kernel
theorem dX12_isChange_61 : decode cX12_isChange 61 = .ok (.iload_n 2, 1) := by decide +kernel
theorem dX12_isChange_62 : decode cX12_isChange 62 = .ok (.iload_n 3, 1) := by decide +kernel
theorem dX12_isChange_63 : decode cX12_isChange 63 = .ok (.invokestatic 455, 3) := by decide +kernel
theorem dX12_isChange_66 : decode cX12_isChange 66 = .ok (.if_icmp .ne 9, 3) := by decide +kernel
theorem dX12_isChange_69 : decode cX12_isChange 69 = .ok (.iinc 3 2, 3) := by decide +kernel
theorem dX12_isChange_72 : decode cX12_isChange 72 = .ok (.goto (-70), 3) := by decide +kernel
theorem dX12_isChange_75 : decode cX12_isChange 75 = .ok (.iconst 0, 1) := by decide +kernel
theorem dX12_isChange_76 : decode cX12_isChange 76 = .ok (.ireturn, 1) := by decide +kernel
theorem dX12_isChange_77 : decode cX12_isChange 77 = .ok (.iload_n 0, 1) := by decide +kernel
theorem dX12_isChange_78 : decode cX12_isChange 78 = .ok (.iload_n 1, 1) := by decide +kernel
theorem dX12_isChange_79 : decode cX12_isChange 79 = .ok (.if_icmp .eq 7, 3) := by decide +kernel
theorem dX12_isChange_82 : decode cX12_isChange 82 = .ok (.iconst 1, 1) := by decide +kernel
theorem dX12_isChange_83 : decode cX12_isChange 83 = .ok (.goto 4, 3) := by decide +kernel
theorem dX12_isChange_86 : decode cX12_isChange 86 = .ok (.iconst 0, 1) := by decide +kernel
theorem dX12_isChange_87 : decode cX12_isChange 87 = .ok (.ireturn, 1) := by decide +kernel
theorem dX12_changes_0 : decode cX12_changes 0 = .ok (.iload_n 1, 1) := by decide +kernel
theorem dX12_changes_1 : decode cX12_changes 1 = .ok (.iconst 2, 1) := by decide +kernel
theorem dX12_changes_2 : decode cX12_changes 2 = .ok (.iconst 5, 1) := by decide +kernel
theorem dX12_changes_3 : decode cX12_changes 3 = .ok (.invokestatic 80, 3) := by decide +kernel
theorem dX12_changes_6 : decode cX12_changes 6 = .ok (.ifCond .eq 47, 3) := by decide +kernel
theorem dX12_changes_9 : decode cX12_changes 9 = .ok (.iload_n 2, 1) := by decide +kernel
theorem dX12_changes_10 : decode cX12_changes 10 = .ok (.iconst 0, 1) := by decide +kernel
theorem dX12_changes_11 : decode cX12_changes 11 = .ok (.iload_n 1, 1) := by decide +kernel
theorem dX12_changes_12 : decode cX12_changes 12 = .ok (.invokestatic 461, 3) := by decide +kernel
theorem dX12_changes_15 : decode cX12_changes 15 = .ok (.iconst 1, 1) := by decide +kernel
theorem dX12_changes_16 : decode cX12_changes 16 = .ok (.isub, 1) := by decide +kernel
theorem dX12_changes_17 : decode cX12_changes 17 = .ok (.invokestatic 80, 3) := by decide +kernel
theorem dX12_changes_20 : decode cX12_changes 20 = .ok (.ifCond .eq 33, 3) := by decide +kernel
theorem dX12_changes_23 : decode cX12_changes 23 = .ok (.iload_n 3, 1) := by decide +kernel
theorem dX12_changes_24 : decode cX12_changes 24 = .ok (.iconst 0, 1) := by decide +kernel
theorem dX12_changes_25 : decode cX12_changes 25 = .ok (.iload_n 1, 1) := by decide +kernel
theorem dX12_changes_26 : decode cX12_changes 26 = .ok (.invokestatic 461, 3) := by decide +kernel
theorem dX12_changes_29 : decode cX12_changes 29 = .ok (.iconst 1, 1) := by decide +kernel
theorem dX12_changes_30 : decode cX12_changes 30 = .ok (.isub, 1) := by decide +kernel
theorem dX12_changes_31 : decode cX12_changes 31 = .ok (.invokestatic 80, 3) := by decide +kernel
theorem dX12_changes_34 : decode cX12_changes 34 = .ok (.ifCond .eq 19, 3) := by decide +kernel
theorem dX12_changes_37 : decode cX12_changes 37 = .ok (.iload_n 2, 1) := by decide +kernel
theorem dX12_changes_38 : decode cX12_changes 38 = .ok (.iload_n 1, 1) := by decide +kernel
theorem dX12_changes_39 : decode cX12_changes 39 = .ok (.invokestatic 464, 3) := by decide +kernel
theorem dX12_changes_42 : decode cX12_changes 42 = .ok (.ifCond .eq 11, 3) := by decide +kernel
theorem dX12_changes_45 : decode cX12_changes 45 = .ok (.iload_n 3, 1) := by decide +kernel
theorem dX12_changes_46 : decode cX12_changes 46 = .ok (.iload_n 1, 1) := by decide +kernel
theorem dX12_changes_47 : decode cX12_changes 47 = .ok (.invokestatic 464, 3) := by decide +kernel
theorem dX12_changes_50 : decode cX12_changes 50 = .ok (.ifCond .ne 5, 3) := by decide +kernel
theorem dX12_changes_53 : decode cX12_changes 53 = .ok (.iconst (-1), 1) := by decide +kernel
theorem dX12_changes_54 : decode cX12_changes 54 = .ok (.ireturn, 1) := by decide +kernel
theorem dX12_changes_55 : decode cX12_changes 55 = .ok (.iload_n 2, 1) := by decide +kernel
theorem dX12_changes_56 : decode cX12_changes 56 = .ok (.iload_n 3, 1) := by decide +kernel
theorem dX12_changes_57 : decode cX12_changes 57 = .ok (.if_icmp .ne 14, 3) := by decide +kernel
theorem dX12_changes_60 : decode cX12_changes 60 = .ok (.iload 4, 2) := by decide +kernel
theorem dX12_changes_62 : decode cX12_changes 62 = .ok (.ifCond .eq 7, 3) := by decide +kernel
theorem dX12_changes_65 : decode cX12_changes 65 = .ok (.iload_n 2, 1) := by decide +kernel
theorem dX12_changes_66 : decode cX12_changes 66 = .ok (.goto 4, 3) := by decide +kernel
theorem dX12_changes_69 : decode cX12_changes 69 = .ok (.iconst 0, 1) := by decide +kernel
theorem dX12_changes_70 : decode cX12_changes 70 = .ok (.ireturn, 1) := by decide +kernel
theorem dX12_changes_71 : decode cX12_changes 71 = .ok (.aload_n 0, 1) := by decide +kernel
theorem dX12_changes_72 : decode cX12_changes 72 = .ok (.iload_n 1, 1) := by decide +kernel
theorem dX12_changes_73 : decode cX12_changes 73 = .ok (.invokevirtual 467, 3) := by decide +kernel
theorem dX12_changes_76 : decode cX12_changes 76 = .ok (.iconst 0, 1) := by decide +kernel
theorem dX12_changes_77 : decode cX12_changes 77 = .ok (.istore 5, 2) := by decide +kernel
theorem dX12_changes_79 : decode cX12_changes 79 = .ok (.iload 5, 2) := by decide +kernel
theorem dX12_changes_81 : decode cX12_changes 81 = .ok (.aload_n 0, 1) := by decide +kernel
theorem dX12_changes_82 : decode cX12_changes 82 = .ok (.getfield 458, 3) := by decide +kernel
theorem dX12_changes_85 : decode cX12_changes 85 = .ok (.if_icmp .ge 32, 3) := by decide +kernel
theorem dX12_changes_88 : decode cX12_changes 88 = .ok (.aload_n 0, 1) := by decide +kernel
theorem dX12_changes_89 : decode cX12_changes 89 = .ok (.getfield 73, 3) := by decide +kernel
theorem dX12_changes_92 : decode cX12_changes 92 = .ok (.iload 5, 2) := by decide +kernel
theorem dX12_changes_94 : decode cX12_changes 94 = .ok (.aload_n 0, 1) := by decide +kernel
theorem dX12_changes_95 : decode cX12_changes 95 = .ok (.getfield 70, 3) := by decide +kernel
theorem dX12_changes_98 : decode cX12_changes 98 = .ok (.iload 5, 2) := by decide +kernel
theorem dX12_changes_100 : decode cX12_changes 100 = .ok (.iaload, 1) := by decide +kernel
theorem dX12_changes_101 : decode cX12_changes 101 = .ok (.iload_n 3, 1) := by decide +kernel
theorem dX12_changes_102 : decode cX12_changes 102 = .ok (.if_icmp .ne 7, 3) := by decide +kernel
theorem dX12_changes_105 : decode cX12_changes 105 = .ok (.iconst 0, 1) := by decide +kernel
theorem dX12_changes_106 : decode cX12_changes 106 = .ok (.goto 4, 3) := by decide +kernel
theorem dX12_changes_109 : decode cX12_changes 109 = .ok (.iconst (-1), 1) := by decide +kernel
theorem dX12_changes_110 : decode cX12_changes 110 = .ok (.iastore, 1) := by decide +kernel
theorem dX12_changes_111 : decode cX12_changes 111 = .ok (.iinc 5 1, 3) := by decide +kernel
theorem dX12_changes_114 : decode cX12_changes 114 = .ok (.goto (-35), 3) := by decide +kernel
theorem dX12_changes_117 : decode cX12_changes 117 = .ok (.iconst 0, 1) := by decide +kernel
theorem dX12_changes_118 : decode cX12_changes 118 = .ok (.istore 5, 2) := by decide +kernel
theorem dX12_changes_120 : decode cX12_changes 120 = .ok (.iload 5, 2) := by decide +kernel
theorem dX12_changes_122 : decode cX12_changes 122 = .ok (.aload_n 0, 1) := by decide +kernel
theorem dX12_changes_123 : decode cX12_changes 123 = .ok (.getfield 458, 3) := by decide +kernel
theorem dX12_changes_126 : decode cX12_changes 126 = .ok (.if_icmp .ge 152, 3) := by decide +kernel
theorem dX12_changes_129 : decode cX12_changes 129 = .ok (.iconst 0, 1) := by decide +kernel
theorem dX12_changes_130 : decode cX12_changes 130 = .ok (.istore 6, 2) := by decide +kernel
theorem dX12_changes_132 : decode cX12_changes 132 = .ok (.iload 6, 2) := by decide +kernel
theorem dX12_changes_134 : decode cX12_changes 134 = .ok (.aload_n 0, 1) := by decide +kernel
theorem dX12_changes_135 : decode cX12_changes 135 = .ok (.getfield 458, 3) := by decide +kernel
theorem dX12_changes_138 : decode cX12_changes 138 = .ok (.if_icmp .ge 134, 3) := by decide +kernel
theorem dX12_changes_141 : decode cX12_changes 141 = .ok (.aload_n 0, 1) := by decide +kernel
theorem dX12_changes_142 : decode cX12_changes 142 = .ok (.getfield 70, 3) := by decide +kernel
theorem dX12_changes_145 : decode cX12_changes 145 = .ok (.iload 6, 2) := by decide +kernel
theorem dX12_changes_147 : decode cX12_changes 147 = .ok (.iaload, 1) := by decide +kernel
theorem dX12_changes_148 : decode cX12_changes 148 = .ok (.iload_n 2, 1) := by decide +kernel
theorem dX12_changes_149 : decode cX12_changes 149 = .ok (.if_icmp .ne 44, 3) := by decide +kernel
theorem dX12_changes_152 : decode cX12_changes 152 = .ok (.aload_n 0, 1) := by decide +kernel
theorem dX12_changes_153 : decode cX12_changes 153 = .ok (.getfield 73, 3) := by decide +kernel
theorem dX12_changes_156 : decode cX12_changes 156 = .ok (.iload 6, 2) := by decide +kernel
theorem dX12_changes_158 : decode cX12_changes 158 = .ok (.iaload, 1) := by decide +kernel
theorem dX12_changes_159 : decode cX12_changes 159 = .ok (.ifCond .lt 34, 3) := by decide +kernel
theorem dX12_changes_162 : decode cX12_changes 162 = .ok (.iload 4, 2) := by decide +kernel
theorem dX12_changes_164 : decode cX12_changes 164 = .ok (.ifCond .eq 21, 3) := by decide +kernel
theorem dX12_changes_167 : decode cX12_changes 167 = .ok (.aload_n 0, 1) := by decide +kernel
theorem dX12_changes_168 : decode cX12_changes 168 = .ok (.iload_n 2, 1) := by decide +kernel
theorem dX12_changes_169 : decode cX12_changes 169 = .ok (.iload_n 1, 1) := by decide +kernel
theorem dX12_changes_170 : decode cX12_changes 170 = .ok (.aload_n 0, 1) := by decide +kernel
theorem dX12_changes_171 : decode cX12_changes 171 = .ok (.getfield 73, 3) := by decide +kernel
theorem dX12_changes_174 : decode cX12_changes 174 = .ok (.iload 6, 2) := by decide +kernel
theorem dX12_changes_176 : decode cX12_changes 176 = .ok (.iaload, 1) := by decide +kernel
theorem dX12_changes_177 : decode cX12_changes 177 = .ok (.iconst 1, 1) := by decide +kernel
theorem dX12_changes_178 : decode cX12_changes 178 = .ok (.isub, 1) := by decide +kernel
theorem dX12_changes_179 : decode cX12_changes 179 = .ok (.invokevirtual 470, 3) := by decide +kernel
theorem dX12_changes_182 : decode cX12_changes 182 = .ok (.goto 10, 3) := by decide +kernel
theorem dX12_changes_185 : decode cX12_changes 185 = .ok (.aload_n 0, 1) := by decide +kernel
theorem dX12_changes_186 : decode cX12_changes 186 = .ok (.getfield 73, 3) := by decide +kernel
theorem dX12_changes_189 : decode cX12_changes 189 = .ok (.iload 6, 2) := by decide +kernel
theorem dX12_changes_191 : decode cX12_changes 191 = .ok (.iaload, 1) := by decide +kernel
theorem dX12_changes_192 : decode cX12_changes 192 = .ok (.ireturn, 1) := by decide +kernel
theorem dX12_changes_193 : decode cX12_changes 193 = .ok (.iconst 0, 1) := by decide +kernel
theorem dX12_changes_194 : decode cX12_changes 194 = .ok (.istore 7, 2) := by decide +kernel
theorem dX12_changes_196 : decode cX12_changes 196 = .ok (.iload 7, 2) := by decide +kernel
theorem dX12_changes_198 : decode cX12_changes 198 = .ok (.aload_n 0, 1) := by decide +kernel
theorem dX12_changes_199 : decode cX12_changes 199 = .ok (.getfield 458, 3) := by decide +kernel
theorem dX12_changes_202 : decode cX12_changes 202 = .ok (.if_icmp .ge 64, 3) := by decide +kernel
theorem dX12_changes_205 : decode cX12_changes 205 = .ok (.aload_n 0, 1) := by decide +kernel
theorem dX12_changes_206 : decode cX12_changes 206 = .ok (.getfield 73, 3) := by decide +kernel
theorem dX12_changes_209 : decode cX12_changes 209 = .ok (.iload 6, 2) := by decide +kernel
theorem dX12_changes_211 : decode cX12_changes 211 = .ok (.iaload, 1) := by decide +kernel
theorem dX12_changes_212 : decode cX12_changes 212 = .ok (.iload 5, 2) := by decide +kernel
theorem dX12_changes_214 : decode cX12_changes 214 = .ok (.if_icmp .ne 52, 3) := by decide +kernel
theorem dX12_changes_217 : decode cX12_changes 217 = .ok (.aload_n 0, 1) := by decide +kernel
theorem dX12_changes_218 : decode cX12_changes 218 = .ok (.getfield 73, 3) := by decide +kernel
theorem dX12_changes_221 : decode cX12_changes 221 = .ok (.iload 7, 2) := by decide +kernel
theorem dX12_changes_223 : decode cX12_changes 223 = .ok (.iaload, 1) := by decide +kernel
theorem dX12_changes_224 : decode cX12_changes 224 = .ok (.iconst (-1), 1) := by decide +kernel
theorem dX12_changes_225 : decode cX12_changes 225 = .ok (.if_icmp .ne 35, 3) := by decide +kernel
theorem dX12_changes_228 : decode cX12_changes 228 = .ok (.aload_n 0, 1) := by decide +kernel
theorem dX12_changes_229 : decode cX12_changes 229 = .ok (.getfield 70, 3) := by decide +kernel
theorem dX12_changes_232 : decode cX12_changes 232 = .ok (.iload 6, 2) := by decide +kernel
theorem dX12_changes_234 : decode cX12_changes 234 = .ok (.iaload, 1) := by decide +kernel
theorem dX12_changes_235 : decode cX12_changes 235 = .ok (.aload_n 0, 1) := by decide +kernel
theorem dX12_changes_236 : decode cX12_changes 236 = .ok (.getfield 70, 3) := by decide +kernel
theorem dX12_changes_239 : decode cX12_changes 239 = .ok (.iload 7, 2) := by decide +kernel
theorem dX12_changes_241 : decode cX12_changes 241 = .ok (.iaload, 1) := by decide +kernel
theorem dX12_changes_242 : decode cX12_changes 242 = .ok (.iload_n 1, 1) := by decide +kernel
theorem dX12_changes_243 : decode cX12_changes 243 = .ok (.invokestatic 473, 3) := by decide +kernel
theorem dX12_changes_246 : decode cX12_changes 246 = .ok (.ifCond .eq 14, 3) := by decide +kernel
theorem dX12_changes_249 : decode cX12_changes 249 = .ok (.aload_n 0, 1) := by decide +kernel
theorem dX12_changes_250 : decode cX12_changes 250 = .ok (.getfield 73, 3) := by decide +kernel
theorem dX12_changes_253 : decode cX12_changes 253 = .ok (.iload 7, 2) := by decide +kernel
theorem dX12_changes_255 : decode cX12_changes 255 = .ok (.iload 5, 2) := by decide +kernel
theorem dX12_changes_257 : decode cX12_changes 257 = .ok (.iconst 1, 1) := by decide +kernel
theorem dX12_changes_258 : decode cX12_changes 258 = .ok (.iadd, 1) := by decide +kernel
theorem dX12_changes_259 : decode cX12_changes 259 = .ok (.iastore, 1) := by decide +kernel
theorem dX12_changes_260 : decode cX12_changes 260 = .ok (.iinc 7 1, 3) := by decide +kernel
theorem dX12_changes_263 : decode cX12_changes 263 = .ok (.goto (-67), 3) := by decide +kernel
theorem dX12_changes_266 : decode cX12_changes 266 = .ok (.iinc 6 1, 3) := by decide +kernel
theorem dX12_changes_269 : decode cX12_changes 269 = .ok (.goto (-137), 3) := by decide +kernel
theorem dX12_changes_272 : decode cX12_changes 272 = .ok (.iinc 5 1, 3) := by decide +kernel
theorem dX12_changes_275 : decode cX12_changes 275 = .ok (.goto (-155), 3) := by decide +kernel
theorem dX12_changes_278 : decode cX12_changes 278 = .ok (.iconst (-1), 1) := by decide +kernel
theorem dX12_changes_279 : decode cX12_changes 279 = .ok (.ireturn, 1) := by decide +kernel
theorem dX12_nextOf_0 : decode cX12_nextOf 0 = .ok (.iconst 0, 1) := by decide +kernel
theorem dX12_nextOf_1 : decode cX12_nextOf 1 = .ok (.istore 4, 2) := by decide +kernel
theorem dX12_nextOf_3 : decode cX12_nextOf 3 = .ok (.aload_n 0, 1) := by decide +kernel
theorem dX12_nextOf_4 : decode cX12_nextOf 4 = .ok (.getfield 73, 3) := by decide +kernel
theorem dX12_nextOf_7 : decode cX12_nextOf 7 = .ok (.iload 4, 2) := by decide +kernel
theorem dX12_nextOf_9 : decode cX12_nextOf 9 = .ok (.iaload, 1) := by decide +kernel
theorem dX12_nextOf_10 : decode cX12_nextOf 10 = .ok (.iload_n 3, 1) := by decide +kernel
theorem dX12_nextOf_11 : decode cX12_nextOf 11 = .ok (.if_icmp .ne 18, 3) := by decide +kernel
theorem dX12_nextOf_14 : decode cX12_nextOf 14 = .ok (.iload_n 1, 1) := by decide +kernel
theorem dX12_nextOf_15 : decode cX12_nextOf 15 = .ok (.aload_n 0, 1) := by decide +kernel
theorem dX12_nextOf_16 : decode cX12_nextOf 16 = .ok (.getfield 70, 3) := by decide +kernel
theorem dX12_nextOf_19 : decode cX12_nextOf 19 = .ok (.iload 4, 2) := by decide +kernel
theorem dX12_nextOf_21 : decode cX12_nextOf 21 = .ok (.iaload, 1) := by decide +kernel
theorem dX12_nextOf_22 : decode cX12_nextOf 22 = .ok (.iload_n 2, 1) := by decide +kernel
theorem dX12_nextOf_23 : decode cX12_nextOf 23 = .ok (.invokestatic 473, 3) := by decide +kernel
theorem dX12_nextOf_26 : decode cX12_nextOf 26 = .ok (.ifCond .ne 9, 3) := by decide +kernel
theorem dX12_nextOf_29 : decode cX12_nextOf 29 = .ok (.iinc 4 1, 3) := by decide +kernel
theorem dX12_nextOf_32 : decode cX12_nextOf 32 = .ok (.goto (-29), 3) := by decide +kernel
theorem dX12_nextOf_35 : decode cX12_nextOf 35 = .ok (.aload_n 0, 1) := by decide +kernel
theorem dX12_nextOf_36 : decode cX12_nextOf 36 = .ok (.getfield 70, 3) := by decide +kernel
theorem dX12_nextOf_39 : decode cX12_nextOf 39 = .ok (.iload 4, 2) := by decide +kernel
theorem dX12_nextOf_41 : decode cX12_nextOf 41 = .ok (.iaload, 1) := by decide +kernel
theorem dX12_nextOf_42 : decode cX12_nextOf 42 = .ok (.ireturn, 1) := by decide +kernel
theorem dX12_takes_0 : decode cX12_takes 0 = .ok (.iload_n 1, 1) := by decide +kernel
theorem dX12_takes_1 : decode cX12_takes 1 = .ok (.iconst 0, 1) := by decide +kernel
theorem dX12_takes_2 : decode cX12_takes 2 = .ok (.iconst 1, 1) := by decide +kernel
theorem dX12_takes_3 : decode cX12_takes 3 = .ok (.aload_n 0, 1) := by decide +kernel
theorem dX12_takes_4 : decode cX12_takes 4 = .ok (.getfield 7, 3) := by decide +kernel
theorem dX12_takes_7 : decode cX12_takes 7 = .ok (.iconst 1, 1) := by decide +kernel
theorem dX12_takes_8 : decode cX12_takes 8 = .ok (.iaload, 1) := by decide +kernel
theorem dX12_takes_9 : decode cX12_takes 9 = .ok (.ishl, 1) := by decide +kernel
theorem dX12_takes_10 : decode cX12_takes 10 = .ok (.iconst 1, 1) := by decide +kernel
theorem dX12_takes_11 : decode cX12_takes 11 = .ok (.isub, 1) := by decide +kernel
theorem dX12_takes_12 : decode cX12_takes 12 = .ok (.invokestatic 80, 3) := by decide +kernel
theorem dX12_takes_15 : decode cX12_takes 15 = .ok (.ifCond .ne 5, 3) := by decide +kernel
theorem dX12_takes_18 : decode cX12_takes 18 = .ok (.iconst (-1), 1) := by decide +kernel
theorem dX12_takes_19 : decode cX12_takes 19 = .ok (.ireturn, 1) := by decide +kernel
theorem dX12_takes_20 : decode cX12_takes 20 = .ok (.iconst 0, 1) := by decide +kernel
theorem dX12_takes_21 : decode cX12_takes 21 = .ok (.istore_n 2, 1) := by decide +kernel
theorem dX12_takes_22 : decode cX12_takes 22 = .ok (.iconst 0, 1) := by decide +kernel
theorem dX12_takes_23 : decode cX12_takes 23 = .ok (.istore_n 3, 1) := by decide +kernel
theorem dX12_takes_24 : decode cX12_takes 24 = .ok (.iload_n 3, 1) := by decide +kernel
theorem dX12_takes_25 : decode cX12_takes 25 = .ok (.aload_n 0, 1) := by decide +kernel
theorem dX12_takes_26 : decode cX12_takes 26 = .ok (.getfield 7, 3) := by decide +kernel
theorem dX12_takes_29 : decode cX12_takes 29 = .ok (.iconst 1, 1) := by decide +kernel
theorem dX12_takes_30 : decode cX12_takes 30 = .ok (.iaload, 1) := by decide +kernel
theorem dX12_takes_31 : decode cX12_takes 31 = .ok (.if_icmp .ge 30, 3) := by decide +kernel
theorem dX12_takes_34 : decode cX12_takes 34 = .ok (.iload_n 2, 1) := by decide +kernel
theorem dX12_takes_35 : decode cX12_takes 35 = .ok (.iload_n 1, 1) := by decide +kernel
theorem dX12_takes_36 : decode cX12_takes 36 = .ok (.iload_n 3, 1) := by decide +kernel
theorem dX12_takes_37 : decode cX12_takes 37 = .ok (.invokestatic 261, 3) := by decide +kernel
theorem dX12_takes_40 : decode cX12_takes 40 = .ok (.ifCond .eq 12, 3) := by decide +kernel
theorem dX12_takes_43 : decode cX12_takes 43 = .ok (.aload_n 0, 1) := by decide +kernel
theorem dX12_takes_44 : decode cX12_takes 44 = .ok (.iload_n 3, 1) := by decide +kernel
theorem dX12_takes_45 : decode cX12_takes 45 = .ok (.iconst 2, 1) := by decide +kernel
theorem dX12_takes_46 : decode cX12_takes 46 = .ok (.invokevirtual 84, 3) := by decide +kernel
theorem dX12_takes_49 : decode cX12_takes 49 = .ok (.goto 4, 3) := by decide +kernel
theorem dX12_takes_52 : decode cX12_takes 52 = .ok (.iconst 0, 1) := by decide +kernel
theorem dX12_takes_53 : decode cX12_takes 53 = .ok (.iadd, 1) := by decide +kernel
theorem dX12_takes_54 : decode cX12_takes 54 = .ok (.istore_n 2, 1) := by decide +kernel
theorem dX12_takes_55 : decode cX12_takes 55 = .ok (.iinc 3 1, 3) := by decide +kernel
theorem dX12_takes_58 : decode cX12_takes 58 = .ok (.goto (-34), 3) := by decide +kernel
theorem dX12_takes_61 : decode cX12_takes 61 = .ok (.iload_n 2, 1) := by decide +kernel
theorem dX12_takes_62 : decode cX12_takes 62 = .ok (.ireturn, 1) := by decide +kernel
theorem dX12_image_0 : decode cX12_image 0 = .ok (.aload_n 0, 1) := by decide +kernel
theorem dX12_image_1 : decode cX12_image 1 = .ok (.getfield 7, 3) := by decide +kernel
theorem dX12_image_4 : decode cX12_image 4 = .ok (.aload_n 0, 1) := by decide +kernel
theorem dX12_image_5 : decode cX12_image 5 = .ok (.getfield 13, 3) := by decide +kernel
theorem dX12_image_8 : decode cX12_image 8 = .ok (.invokestatic 76, 3) := by decide +kernel
theorem dX12_image_11 : decode cX12_image 11 = .ok (.aload_n 0, 1) := by decide +kernel
theorem dX12_image_12 : decode cX12_image 12 = .ok (.getfield 7, 3) := by decide +kernel
theorem dX12_image_15 : decode cX12_image 15 = .ok (.bipush 10, 2) := by decide +kernel
theorem dX12_image_17 : decode cX12_image 17 = .ok (.iaload, 1) := by decide +kernel
theorem dX12_image_18 : decode cX12_image 18 = .ok (.ireturn, 1) := by decide +kernel
theorem dX12_back_0 : decode cX12_back 0 = .ok (.aload_n 0, 1) := by decide +kernel
theorem dX12_back_1 : decode cX12_back 1 = .ok (.getfield 13, 3) := by decide +kernel
theorem dX12_back_4 : decode cX12_back 4 = .ok (.aload_n 0, 1) := by decide +kernel
theorem dX12_back_5 : decode cX12_back 5 = .ok (.getfield 7, 3) := by decide +kernel
theorem dX12_back_8 : decode cX12_back 8 = .ok (.invokestatic 76, 3) := by decide +kernel
theorem dX12_back_11 : decode cX12_back 11 = .ok (.aload_n 0, 1) := by decide +kernel
theorem dX12_back_12 : decode cX12_back 12 = .ok (.getfield 7, 3) := by decide +kernel
theorem dX12_back_15 : decode cX12_back 15 = .ok (.bipush 10, 2) := by decide +kernel
theorem dX12_back_17 : decode cX12_back 17 = .ok (.iaload, 1) := by decide +kernel
theorem dX12_back_18 : decode cX12_back 18 = .ok (.ireturn, 1) := by decide +kernel
theorem dX12_about_0 : decode cX12_about 0 = .ok (.iload_n 1, 1) := by decide +kernel
theorem dX12_about_1 : decode cX12_about 1 = .ok (.iconst 0, 1) := by decide +kernel
theorem dX12_about_2 : decode cX12_about 2 = .ok (.iconst 5, 1) := by decide +kernel
theorem dX12_about_3 : decode cX12_about 3 = .ok (.invokestatic 80, 3) := by decide +kernel
theorem dX12_about_6 : decode cX12_about 6 = .ok (.ifCond .eq 12, 3) := by decide +kernel
theorem dX12_about_9 : decode cX12_about 9 = .ok (.aload_n 0, 1) := by decide +kernel
theorem dX12_about_10 : decode cX12_about 10 = .ok (.getfield 7, 3) := by decide +kernel
theorem dX12_about_13 : decode cX12_about 13 = .ok (.iload_n 1, 1) := by decide +kernel
theorem dX12_about_14 : decode cX12_about 14 = .ok (.iaload, 1) := by decide +kernel
theorem dX12_about_15 : decode cX12_about 15 = .ok (.goto 18, 3) := by decide +kernel
theorem dX12_about_18 : decode cX12_about 18 = .ok (.iload_n 1, 1) := by decide +kernel
theorem dX12_about_19 : decode cX12_about 19 = .ok (.bipush 6, 2) := by decide +kernel
theorem dX12_about_21 : decode cX12_about 21 = .ok (.if_icmp .ne 10, 3) := by decide +kernel
theorem dX12_about_24 : decode cX12_about 24 = .ok (.aload_n 0, 1) := by decide +kernel
theorem dX12_about_25 : decode cX12_about 25 = .ok (.getfield 96, 3) := by decide +kernel
theorem dX12_about_28 : decode cX12_about 28 = .ok (.goto 5, 3) := by decide +kernel
theorem dX12_about_31 : decode cX12_about 31 = .ok (.bipush (-2), 2) := by decide +kernel
theorem dX12_about_33 : decode cX12_about 33 = .ok (.ireturn, 1) := by decide +kernel
