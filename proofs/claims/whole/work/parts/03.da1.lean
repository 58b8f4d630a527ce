theorem dX0_likelihood_42 : decode cX0_likelihood 42 = .ok (.aload_n 0, 1) := by decide +kernel
theorem dX0_likelihood_43 : decode cX0_likelihood 43 = .ok (.getfield 44, 3) := by decide +kernel
theorem dX0_likelihood_46 : decode cX0_likelihood 46 = .ok (.if_icmp .ge 16, 3) := by decide +kernel
theorem dX0_likelihood_49 : decode cX0_likelihood 49 = .ok (.lload 4, 2) := by decide +kernel
theorem dX0_likelihood_51 : decode cX0_likelihood 51 = .ok (.bipush 10, 2) := by decide +kernel
theorem dX0_likelihood_53 : decode cX0_likelihood 53 = .ok (.iload_n 2, 1) := by decide +kernel
theorem dX0_likelihood_54 : decode cX0_likelihood 54 = .ok (.isub, 1) := by decide +kernel
theorem dX0_likelihood_55 : decode cX0_likelihood 55 = .ok (.i2l, 1) := by decide +kernel
theorem dX0_likelihood_56 : decode cX0_likelihood 56 = .ok (.lmul, 1) := by decide +kernel
theorem dX0_likelihood_57 : decode cX0_likelihood 57 = .ok (.lstore 4, 2) := by decide +kernel
theorem dX0_likelihood_59 : decode cX0_likelihood 59 = .ok (.goto 22, 3) := by decide +kernel
theorem dX0_likelihood_62 : decode cX0_likelihood 62 = .ok (.lload 4, 2) := by decide +kernel
theorem dX0_likelihood_64 : decode cX0_likelihood 64 = .ok (.iload 6, 2) := by decide +kernel
theorem dX0_likelihood_66 : decode cX0_likelihood 66 = .ok (.iload_n 3, 1) := by decide +kernel
theorem dX0_likelihood_67 : decode cX0_likelihood 67 = .ok (.if_icmp .ge 8, 3) := by decide +kernel
theorem dX0_likelihood_70 : decode cX0_likelihood 70 = .ok (.iload_n 2, 1) := by decide +kernel
theorem dX0_likelihood_71 : decode cX0_likelihood 71 = .ok (.i2l, 1) := by decide +kernel
theorem dX0_likelihood_72 : decode cX0_likelihood 72 = .ok (.goto 6, 3) := by decide +kernel
theorem dX0_likelihood_75 : decode cX0_likelihood 75 = .ok (.ldc2_w 124, 3) := by decide +kernel
theorem dX0_likelihood_78 : decode cX0_likelihood 78 = .ok (.lmul, 1) := by decide +kernel
theorem dX0_likelihood_79 : decode cX0_likelihood 79 = .ok (.lstore 4, 2) := by decide +kernel
theorem dX0_likelihood_81 : decode cX0_likelihood 81 = .ok (.iinc 6 1, 3) := by decide +kernel
theorem dX0_likelihood_84 : decode cX0_likelihood 84 = .ok (.goto (-50), 3) := by decide +kernel
theorem dX0_likelihood_87 : decode cX0_likelihood 87 = .ok (.lload 4, 2) := by decide +kernel
theorem dX0_likelihood_89 : decode cX0_likelihood 89 = .ok (.lreturn, 1) := by decide +kernel
theorem dX0_waysLeft_0 : decode cX0_waysLeft 0 = .ok (.aload_n 0, 1) := by decide +kernel
theorem dX0_waysLeft_1 : decode cX0_waysLeft 1 = .ok (.getfield 27, 3) := by decide +kernel
theorem dX0_waysLeft_4 : decode cX0_waysLeft 4 = .ok (.iconst 0, 1) := by decide +kernel
theorem dX0_waysLeft_5 : decode cX0_waysLeft 5 = .ok (.invokestatic 100, 3) := by decide +kernel
theorem dX0_waysLeft_8 : decode cX0_waysLeft 8 = .ok (.aload_n 0, 1) := by decide +kernel
theorem dX0_waysLeft_9 : decode cX0_waysLeft 9 = .ok (.getfield 27, 3) := by decide +kernel
theorem dX0_waysLeft_12 : decode cX0_waysLeft 12 = .ok (.iconst 0, 1) := by decide +kernel
theorem dX0_waysLeft_13 : decode cX0_waysLeft 13 = .ok (.iconst 1, 1) := by decide +kernel
theorem dX0_waysLeft_14 : decode cX0_waysLeft 14 = .ok (.iastore, 1) := by decide +kernel
theorem dX0_waysLeft_15 : decode cX0_waysLeft 15 = .ok (.iconst 0, 1) := by decide +kernel
theorem dX0_waysLeft_16 : decode cX0_waysLeft 16 = .ok (.istore_n 2, 1) := by decide +kernel
theorem dX0_waysLeft_17 : decode cX0_waysLeft 17 = .ok (.iload_n 2, 1) := by decide +kernel
theorem dX0_waysLeft_18 : decode cX0_waysLeft 18 = .ok (.aload_n 0, 1) := by decide +kernel
theorem dX0_waysLeft_19 : decode cX0_waysLeft 19 = .ok (.getfield 30, 3) := by decide +kernel
theorem dX0_waysLeft_22 : decode cX0_waysLeft 22 = .ok (.getfield 66, 3) := by decide +kernel
theorem dX0_waysLeft_25 : decode cX0_waysLeft 25 = .ok (.getfield 75, 3) := by decide +kernel
theorem dX0_waysLeft_28 : decode cX0_waysLeft 28 = .ok (.iload_n 1, 1) := by decide +kernel
theorem dX0_waysLeft_29 : decode cX0_waysLeft 29 = .ok (.iaload, 1) := by decide +kernel
theorem dX0_waysLeft_30 : decode cX0_waysLeft 30 = .ok (.if_icmp .ge 71, 3) := by decide +kernel
theorem dX0_waysLeft_33 : decode cX0_waysLeft 33 = .ok (.aload_n 0, 1) := by decide +kernel
theorem dX0_waysLeft_34 : decode cX0_waysLeft 34 = .ok (.getfield 30, 3) := by decide +kernel
theorem dX0_waysLeft_37 : decode cX0_waysLeft 37 = .ok (.getfield 66, 3) := by decide +kernel
theorem dX0_waysLeft_40 : decode cX0_waysLeft 40 = .ok (.iload_n 1, 1) := by decide +kernel
theorem dX0_waysLeft_41 : decode cX0_waysLeft 41 = .ok (.iload_n 2, 1) := by decide +kernel
theorem dX0_waysLeft_42 : decode cX0_waysLeft 42 = .ok (.invokevirtual 109, 3) := by decide +kernel
theorem dX0_waysLeft_45 : decode cX0_waysLeft 45 = .ok (.istore_n 3, 1) := by decide +kernel
theorem dX0_waysLeft_46 : decode cX0_waysLeft 46 = .ok (.aload_n 0, 1) := by decide +kernel
theorem dX0_waysLeft_47 : decode cX0_waysLeft 47 = .ok (.getfield 44, 3) := by decide +kernel
theorem dX0_waysLeft_50 : decode cX0_waysLeft 50 = .ok (.istore 4, 2) := by decide +kernel
theorem dX0_waysLeft_52 : decode cX0_waysLeft 52 = .ok (.iload 4, 2) := by decide +kernel
theorem dX0_waysLeft_54 : decode cX0_waysLeft 54 = .ok (.ifCond .le 41, 3) := by decide +kernel
theorem dX0_waysLeft_57 : decode cX0_waysLeft 57 = .ok (.aload_n 0, 1) := by decide +kernel
theorem dX0_waysLeft_58 : decode cX0_waysLeft 58 = .ok (.getfield 9, 3) := by decide +kernel
theorem dX0_waysLeft_61 : decode cX0_waysLeft 61 = .ok (.iload 4, 2) := by decide +kernel
theorem dX0_waysLeft_63 : decode cX0_waysLeft 63 = .ok (.iconst 1, 1) := by decide +kernel
theorem dX0_waysLeft_64 : decode cX0_waysLeft 64 = .ok (.isub, 1) := by decide +kernel
theorem dX0_waysLeft_65 : decode cX0_waysLeft 65 = .ok (.iaload, 1) := by decide +kernel
theorem dX0_waysLeft_66 : decode cX0_waysLeft 66 = .ok (.iload_n 3, 1) := by decide +kernel
theorem dX0_waysLeft_67 : decode cX0_waysLeft 67 = .ok (.if_icmp .ne 22, 3) := by decide +kernel
theorem dX0_waysLeft_70 : decode cX0_waysLeft 70 = .ok (.aload_n 0, 1) := by decide +kernel
theorem dX0_waysLeft_71 : decode cX0_waysLeft 71 = .ok (.getfield 27, 3) := by decide +kernel
theorem dX0_waysLeft_74 : decode cX0_waysLeft 74 = .ok (.iload 4, 2) := by decide +kernel
theorem dX0_waysLeft_76 : decode cX0_waysLeft 76 = .ok (.dup2, 1) := by decide +kernel
theorem dX0_waysLeft_77 : decode cX0_waysLeft 77 = .ok (.iaload, 1) := by decide +kernel
theorem dX0_waysLeft_78 : decode cX0_waysLeft 78 = .ok (.aload_n 0, 1) := by decide +kernel
theorem dX0_waysLeft_79 : decode cX0_waysLeft 79 = .ok (.getfield 27, 3) := by decide +kernel
theorem dX0_waysLeft_82 : decode cX0_waysLeft 82 = .ok (.iload 4, 2) := by decide +kernel
theorem dX0_waysLeft_84 : decode cX0_waysLeft 84 = .ok (.iconst 1, 1) := by decide +kernel
theorem dX0_waysLeft_85 : decode cX0_waysLeft 85 = .ok (.isub, 1) := by decide +kernel
theorem dX0_waysLeft_86 : decode cX0_waysLeft 86 = .ok (.iaload, 1) := by decide +kernel
theorem dX0_waysLeft_87 : decode cX0_waysLeft 87 = .ok (.iadd, 1) := by decide +kernel
theorem dX0_waysLeft_88 : decode cX0_waysLeft 88 = .ok (.iastore, 1) := by decide +kernel
theorem dX0_waysLeft_89 : decode cX0_waysLeft 89 = .ok (.iinc 4 (-1), 3) := by decide +kernel
theorem dX0_waysLeft_92 : decode cX0_waysLeft 92 = .ok (.goto (-40), 3) := by decide +kernel
theorem dX0_waysLeft_95 : decode cX0_waysLeft 95 = .ok (.iinc 2 1, 3) := by decide +kernel
theorem dX0_waysLeft_98 : decode cX0_waysLeft 98 = .ok (.goto (-81), 3) := by decide +kernel
theorem dX0_waysLeft_101 : decode cX0_waysLeft 101 = .ok (.aload_n 0, 1) := by decide +kernel
theorem dX0_waysLeft_102 : decode cX0_waysLeft 102 = .ok (.getfield 27, 3) := by decide +kernel
theorem dX0_waysLeft_105 : decode cX0_waysLeft 105 = .ok (.aload_n 0, 1) := by decide +kernel
theorem dX0_waysLeft_106 : decode cX0_waysLeft 106 = .ok (.getfield 44, 3) := by decide +kernel
theorem dX0_waysLeft_109 : decode cX0_waysLeft 109 = .ok (.iaload, 1) := by decide +kernel
theorem dX0_waysLeft_110 : decode cX0_waysLeft 110 = .ok (.ireturn, 1) := by decide +kernel
theorem dX1_init_0 : decode cX1_init 0 = .ok (.aload_n 0, 1) := by decide +kernel
theorem dX1_init_1 : decode cX1_init 1 = .ok (.invokespecial 3, 3) := by decide +kernel
theorem dX1_init_4 : decode cX1_init 4 = .ok (.aload_n 0, 1) := by decide +kernel
theorem dX1_init_5 : decode cX1_init 5 = .ok (.bipush 23, 2) := by decide +kernel
theorem dX1_init_7 : decode cX1_init 7 = .ok (.newarray .int, 2) := by decide +kernel
theorem dX1_init_9 : decode cX1_init 9 = .ok (.putfield 11, 3) := by decide +kernel
theorem dX1_init_12 : decode cX1_init 12 = .ok (.aload_n 0, 1) := by decide +kernel
theorem dX1_init_13 : decode cX1_init 13 = .ok (.bipush 64, 2) := by decide +kernel
theorem dX1_init_15 : decode cX1_init 15 = .ok (.newarray .int, 2) := by decide +kernel
theorem dX1_init_17 : decode cX1_init 17 = .ok (.putfield 19, 3) := by decide +kernel
theorem dX1_init_20 : decode cX1_init 20 = .ok (.aload_n 0, 1) := by decide +kernel
theorem dX1_init_21 : decode cX1_init 21 = .ok (.sipush 2400, 3) := by decide +kernel
theorem dX1_init_24 : decode cX1_init 24 = .ok (.newarray .int, 2) := by decide +kernel
theorem dX1_init_26 : decode cX1_init 26 = .ok (.putfield 22, 3) := by decide +kernel
theorem dX1_init_29 : decode cX1_init 29 = .ok (.aload_n 0, 1) := by decide +kernel
theorem dX1_init_30 : decode cX1_init 30 = .ok (.aload_n 1, 1) := by decide +kernel
theorem dX1_init_31 : decode cX1_init 31 = .ok (.putfield 25, 3) := by decide +kernel
theorem dX1_init_34 : decode cX1_init 34 = .ok (.aload_n 0, 1) := by decide +kernel
theorem dX1_init_35 : decode cX1_init 35 = .ok (.aload_n 2, 1) := by decide +kernel
theorem dX1_init_36 : decode cX1_init 36 = .ok (.putfield 29, 3) := by decide +kernel
theorem dX1_init_39 : decode cX1_init 39 = .ok (.return_, 1) := by decide +kernel
theorem dX1_forget_0 : decode cX1_forget 0 = .ok (.aload_n 0, 1) := by decide +kernel
theorem dX1_forget_1 : decode cX1_forget 1 = .ok (.getfield 22, 3) := by decide +kernel
theorem dX1_forget_4 : decode cX1_forget 4 = .ok (.iconst 0, 1) := by decide +kernel
theorem dX1_forget_5 : decode cX1_forget 5 = .ok (.invokestatic 33, 3) := by decide +kernel
theorem dX1_forget_8 : decode cX1_forget 8 = .ok (.return_, 1) := by decide +kernel
theorem dX1_ruling_0 : decode cX1_ruling 0 = .ok (.aload_n 0, 1) := by decide +kernel
theorem dX1_ruling_1 : decode cX1_ruling 1 = .ok (.getfield 25, 3) := by decide +kernel
theorem dX1_ruling_4 : decode cX1_ruling 4 = .ok (.aload_n 0, 1) := by decide +kernel
theorem dX1_ruling_5 : decode cX1_ruling 5 = .ok (.getfield 25, 3) := by decide +kernel
theorem dX1_ruling_8 : decode cX1_ruling 8 = .ok (.getfield 39, 3) := by decide +kernel
theorem dX1_ruling_11 : decode cX1_ruling 11 = .ok (.invokevirtual 45, 3) := by decide +kernel
theorem dX1_ruling_14 : decode cX1_ruling 14 = .ok (.ifCond .eq 18, 3) := by decide +kernel
theorem dX1_ruling_17 : decode cX1_ruling 17 = .ok (.aload_n 0, 1) := by decide +kernel
theorem dX1_ruling_18 : decode cX1_ruling 18 = .ok (.getfield 29, 3) := by decide +kernel
theorem dX1_ruling_21 : decode cX1_ruling 21 = .ok (.aload_n 0, 1) := by decide +kernel
theorem dX1_ruling_22 : decode cX1_ruling 22 = .ok (.getfield 25, 3) := by decide +kernel
theorem dX1_ruling_25 : decode cX1_ruling 25 = .ok (.getfield 39, 3) := by decide +kernel
theorem dX1_ruling_28 : decode cX1_ruling 28 = .ok (.aaload, 1) := by decide +kernel
theorem dX1_ruling_29 : decode cX1_ruling 29 = .ok (.goto 4, 3) := by decide +kernel
theorem dX1_ruling_32 : decode cX1_ruling 32 = .ok (.aconst_null, 1) := by decide +kernel
theorem dX1_ruling_33 : decode cX1_ruling 33 = .ok (.areturn, 1) := by decide +kernel
theorem dX1_hasGrammar_0 : decode cX1_hasGrammar 0 = .ok (.aload_n 0, 1) := by decide +kernel
theorem dX1_hasGrammar_1 : decode cX1_hasGrammar 1 = .ok (.invokevirtual 49, 3) := by decide +kernel
theorem dX1_hasGrammar_4 : decode cX1_hasGrammar 4 = .ok (.astore_n 1, 1) := by decide +kernel
theorem dX1_hasGrammar_5 : decode cX1_hasGrammar 5 = .ok (.aload_n 1, 1) := by decide +kernel
theorem dX1_hasGrammar_6 : decode cX1_hasGrammar 6 = .ok (.ifnull 23, 3) := by decide +kernel
theorem dX1_hasGrammar_9 : decode cX1_hasGrammar 9 = .ok (.aload_n 1, 1) := by decide +kernel
theorem dX1_hasGrammar_10 : decode cX1_hasGrammar 10 = .ok (.iconst 1, 1) := by decide +kernel
theorem dX1_hasGrammar_11 : decode cX1_hasGrammar 11 = .ok (.invokevirtual 54, 3) := by decide +kernel
theorem dX1_hasGrammar_14 : decode cX1_hasGrammar 14 = .ok (.ifCond .ne 11, 3) := by decide +kernel
theorem dX1_hasGrammar_17 : decode cX1_hasGrammar 17 = .ok (.aload_n 1, 1) := by decide +kernel
theorem dX1_hasGrammar_18 : decode cX1_hasGrammar 18 = .ok (.iconst 2, 1) := by decide +kernel
theorem dX1_hasGrammar_19 : decode cX1_hasGrammar 19 = .ok (.invokevirtual 54, 3) := by decide +kernel
theorem dX1_hasGrammar_22 : decode cX1_hasGrammar 22 = .ok (.ifCond .eq 7, 3) := by decide +kernel
theorem dX1_hasGrammar_25 : decode cX1_hasGrammar 25 = .ok (.iconst 1, 1) := by decide +kernel
theorem dX1_hasGrammar_26 : decode cX1_hasGrammar 26 = .ok (.goto 4, 3) := by decide +kernel
theorem dX1_hasGrammar_29 : decode cX1_hasGrammar 29 = .ok (.iconst 0, 1) := by decide +kernel
theorem dX1_hasGrammar_30 : decode cX1_hasGrammar 30 = .ok (.ireturn, 1) := by decide +kernel
theorem dX1_getsOver_0 : decode cX1_getsOver 0 = .ok (.aload_n 0, 1) := by decide +kernel
theorem dX1_getsOver_1 : decode cX1_getsOver 1 = .ok (.getfield 25, 3) := by decide +kernel
theorem dX1_getsOver_4 : decode cX1_getsOver 4 = .ok (.getfield 57, 3) := by decide +kernel
theorem dX1_getsOver_7 : decode cX1_getsOver 7 = .ok (.astore 4, 2) := by decide +kernel
theorem dX1_getsOver_9 : decode cX1_getsOver 9 = .ok (.aload 4, 2) := by decide +kernel
theorem dX1_getsOver_11 : decode cX1_getsOver 11 = .ok (.iload_n 1, 1) := by decide +kernel
theorem dX1_getsOver_12 : decode cX1_getsOver 12 = .ok (.invokevirtual 61, 3) := by decide +kernel
theorem dX1_getsOver_15 : decode cX1_getsOver 15 = .ok (.ifCond .ne 5, 3) := by decide +kernel
theorem dX1_getsOver_18 : decode cX1_getsOver 18 = .ok (.iconst 0, 1) := by decide +kernel
theorem dX1_getsOver_19 : decode cX1_getsOver 19 = .ok (.ireturn, 1) := by decide +kernel
theorem dX1_getsOver_20 : decode cX1_getsOver 20 = .ok (.aload_n 0, 1) := by decide +kernel
theorem dX1_getsOver_21 : decode cX1_getsOver 21 = .ok (.invokevirtual 49, 3) := by decide +kernel
theorem dX1_getsOver_24 : decode cX1_getsOver 24 = .ok (.astore 5, 2) := by decide +kernel
theorem dX1_getsOver_26 : decode cX1_getsOver 26 = .ok (.aload 5, 2) := by decide +kernel
theorem dX1_getsOver_28 : decode cX1_getsOver 28 = .ok (.ifnull 12, 3) := by decide +kernel
theorem dX1_getsOver_31 : decode cX1_getsOver 31 = .ok (.aload 5, 2) := by decide +kernel
theorem dX1_getsOver_33 : decode cX1_getsOver 33 = .ok (.iconst 0, 1) := by decide +kernel
theorem dX1_getsOver_34 : decode cX1_getsOver 34 = .ok (.invokevirtual 54, 3) := by decide +kernel
theorem dX1_getsOver_37 : decode cX1_getsOver 37 = .ok (.ifCond .ne 31, 3) := by decide +kernel
theorem dX1_getsOver_40 : decode cX1_getsOver 40 = .ok (.aload 4, 2) := by decide +kernel
theorem dX1_getsOver_42 : decode cX1_getsOver 42 = .ok (.getfield 66, 3) := by decide +kernel
theorem dX1_getsOver_45 : decode cX1_getsOver 45 = .ok (.iload_n 1, 1) := by decide +kernel
theorem dX1_getsOver_46 : decode cX1_getsOver 46 = .ok (.iaload, 1) := by decide +kernel
theorem dX1_getsOver_47 : decode cX1_getsOver 47 = .ok (.iload_n 3, 1) := by decide +kernel
theorem dX1_getsOver_48 : decode cX1_getsOver 48 = .ok (.aload_n 0, 1) := by decide +kernel
theorem dX1_getsOver_49 : decode cX1_getsOver 49 = .ok (.getfield 25, 3) := by decide +kernel
theorem dX1_getsOver_52 : decode cX1_getsOver 52 = .ok (.getfield 69, 3) := by decide +kernel
theorem dX1_getsOver_55 : decode cX1_getsOver 55 = .ok (.getfield 73, 3) := by decide +kernel
theorem dX1_getsOver_58 : decode cX1_getsOver 58 = .ok (.isub, 1) := by decide +kernel
theorem dX1_getsOver_59 : decode cX1_getsOver 59 = .ok (.if_icmp .le 7, 3) := by decide +kernel
theorem dX1_getsOver_62 : decode cX1_getsOver 62 = .ok (.iconst 1, 1) := by decide +kernel
theorem dX1_getsOver_63 : decode cX1_getsOver 63 = .ok (.goto 4, 3) := by decide +kernel
theorem dX1_getsOver_66 : decode cX1_getsOver 66 = .ok (.iconst 0, 1) := by decide +kernel
theorem dX1_getsOver_67 : decode cX1_getsOver 67 = .ok (.ireturn, 1) := by decide +kernel
theorem dX1_getsOver_68 : decode cX1_getsOver 68 = .ok (.aload_n 0, 1) := by decide +kernel
theorem dX1_getsOver_69 : decode cX1_getsOver 69 = .ok (.bipush 117, 2) := by decide +kernel
theorem dX1_getsOver_71 : decode cX1_getsOver 71 = .ok (.aload 4, 2) := by decide +kernel
theorem dX1_getsOver_73 : decode cX1_getsOver 73 = .ok (.getfield 66, 3) := by decide +kernel
theorem dX1_getsOver_76 : decode cX1_getsOver 76 = .ok (.iload_n 1, 1) := by decide +kernel
theorem dX1_getsOver_77 : decode cX1_getsOver 77 = .ok (.iaload, 1) := by decide +kernel
theorem dX1_getsOver_78 : decode cX1_getsOver 78 = .ok (.invokevirtual 78, 3) := by decide +kernel
theorem dX1_getsOver_81 : decode cX1_getsOver 81 = .ok (.aload_n 0, 1) := by decide +kernel
theorem dX1_getsOver_82 : decode cX1_getsOver 82 = .ok (.bipush 111, 2) := by decide +kernel
theorem dX1_getsOver_84 : decode cX1_getsOver 84 = .ok (.aload 4, 2) := by decide +kernel
theorem dX1_getsOver_86 : decode cX1_getsOver 86 = .ok (.getfield 82, 3) := by decide +kernel
theorem dX1_getsOver_89 : decode cX1_getsOver 89 = .ok (.iload_n 1, 1) := by decide +kernel
theorem dX1_getsOver_90 : decode cX1_getsOver 90 = .ok (.iaload, 1) := by decide +kernel
theorem dX1_getsOver_91 : decode cX1_getsOver 91 = .ok (.invokevirtual 78, 3) := by decide +kernel
theorem dX1_getsOver_94 : decode cX1_getsOver 94 = .ok (.aload_n 0, 1) := by decide +kernel
theorem dX1_getsOver_95 : decode cX1_getsOver 95 = .ok (.bipush 112, 2) := by decide +kernel
theorem dX1_getsOver_97 : decode cX1_getsOver 97 = .ok (.aload 4, 2) := by decide +kernel
theorem dX1_getsOver_99 : decode cX1_getsOver 99 = .ok (.getfield 85, 3) := by decide +kernel
theorem dX1_getsOver_102 : decode cX1_getsOver 102 = .ok (.iload_n 1, 1) := by decide +kernel
theorem dX1_getsOver_103 : decode cX1_getsOver 103 = .ok (.iaload, 1) := by decide +kernel
theorem dX1_getsOver_104 : decode cX1_getsOver 104 = .ok (.invokevirtual 78, 3) := by decide +kernel
theorem dX1_getsOver_107 : decode cX1_getsOver 107 = .ok (.aload_n 0, 1) := by decide +kernel
theorem dX1_getsOver_108 : decode cX1_getsOver 108 = .ok (.bipush 107, 2) := by decide +kernel
theorem dX1_getsOver_110 : decode cX1_getsOver 110 = .ok (.iload_n 3, 1) := by decide +kernel
theorem dX1_getsOver_111 : decode cX1_getsOver 111 = .ok (.invokevirtual 78, 3) := by decide +kernel
theorem dX1_getsOver_114 : decode cX1_getsOver 114 = .ok (.aload_n 0, 1) := by decide +kernel
theorem dX1_getsOver_115 : decode cX1_getsOver 115 = .ok (.bipush 108, 2) := by decide +kernel
theorem dX1_getsOver_117 : decode cX1_getsOver 117 = .ok (.aload_n 0, 1) := by decide +kernel
theorem dX1_getsOver_118 : decode cX1_getsOver 118 = .ok (.getfield 25, 3) := by decide +kernel
theorem dX1_getsOver_121 : decode cX1_getsOver 121 = .ok (.getfield 69, 3) := by decide +kernel
theorem dX1_getsOver_124 : decode cX1_getsOver 124 = .ok (.getfield 73, 3) := by decide +kernel
theorem dX1_getsOver_127 : decode cX1_getsOver 127 = .ok (.invokevirtual 78, 3) := by decide +kernel
theorem dX1_getsOver_130 : decode cX1_getsOver 130 = .ok (.aload_n 0, 1) := by decide +kernel
theorem dX1_getsOver_131 : decode cX1_getsOver 131 = .ok (.bipush 109, 2) := by decide +kernel
theorem dX1_getsOver_133 : decode cX1_getsOver 133 = .ok (.aload_n 0, 1) := by decide +kernel
theorem dX1_getsOver_134 : decode cX1_getsOver 134 = .ok (.getfield 25, 3) := by decide +kernel
theorem dX1_getsOver_137 : decode cX1_getsOver 137 = .ok (.getfield 69, 3) := by decide +kernel
theorem dX1_getsOver_140 : decode cX1_getsOver 140 = .ok (.getfield 88, 3) := by decide +kernel
theorem dX1_getsOver_143 : decode cX1_getsOver 143 = .ok (.invokevirtual 78, 3) := by decide +kernel
theorem dX1_getsOver_146 : decode cX1_getsOver 146 = .ok (.aload_n 0, 1) := by decide +kernel
theorem dX1_getsOver_147 : decode cX1_getsOver 147 = .ok (.bipush 118, 2) := by decide +kernel
theorem dX1_getsOver_149 : decode cX1_getsOver 149 = .ok (.iload_n 2, 1) := by decide +kernel
theorem dX1_getsOver_150 : decode cX1_getsOver 150 = .ok (.invokevirtual 78, 3) := by decide +kernel
theorem dX1_getsOver_153 : decode cX1_getsOver 153 = .ok (.aload_n 0, 1) := by decide +kernel
theorem dX1_getsOver_154 : decode cX1_getsOver 154 = .ok (.bipush 103, 2) := by decide +kernel
theorem dX1_getsOver_156 : decode cX1_getsOver 156 = .ok (.iload_n 1, 1) := by decide +kernel
theorem dX1_getsOver_157 : decode cX1_getsOver 157 = .ok (.invokevirtual 78, 3) := by decide +kernel
theorem dX1_getsOver_160 : decode cX1_getsOver 160 = .ok (.aload_n 0, 1) := by decide +kernel
theorem dX1_getsOver_161 : decode cX1_getsOver 161 = .ok (.aload 5, 2) := by decide +kernel
theorem dX1_getsOver_163 : decode cX1_getsOver 163 = .ok (.iconst 0, 1) := by decide +kernel
theorem dX1_getsOver_164 : decode cX1_getsOver 164 = .ok (.invokevirtual 91, 3) := by decide +kernel
theorem dX1_getsOver_167 : decode cX1_getsOver 167 = .ok (.ireturn, 1) := by decide +kernel
theorem dX1_mayStand_0 : decode cX1_mayStand 0 = .ok (.aload_n 0, 1) := by decide +kernel
theorem dX1_mayStand_1 : decode cX1_mayStand 1 = .ok (.invokevirtual 49, 3) := by decide +kernel
theorem dX1_mayStand_4 : decode cX1_mayStand 4 = .ok (.astore 4, 2) := by decide +kernel
theorem dX1_mayStand_6 : decode cX1_mayStand 6 = .ok (.iload_n 1, 1) := by decide +kernel
theorem dX1_mayStand_7 : decode cX1_mayStand 7 = .ok (.iconst (-1), 1) := by decide +kernel
theorem dX1_mayStand_8 : decode cX1_mayStand 8 = .ok (.if_icmp .ne 7, 3) := by decide +kernel
theorem dX1_mayStand_11 : decode cX1_mayStand 11 = .ok (.iconst 2, 1) := by decide +kernel
theorem dX1_mayStand_12 : decode cX1_mayStand 12 = .ok (.goto 4, 3) := by decide +kernel
theorem dX1_mayStand_15 : decode cX1_mayStand 15 = .ok (.iconst 1, 1) := by decide +kernel
theorem dX1_mayStand_16 : decode cX1_mayStand 16 = .ok (.istore 5, 2) := by decide +kernel
theorem dX1_mayStand_18 : decode cX1_mayStand 18 = .ok (.aload 4, 2) := by decide +kernel
theorem dX1_mayStand_20 : decode cX1_mayStand 20 = .ok (.ifnull 13, 3) := by decide +kernel
theorem dX1_mayStand_23 : decode cX1_mayStand 23 = .ok (.aload 4, 2) := by decide +kernel
theorem dX1_mayStand_25 : decode cX1_mayStand 25 = .ok (.iload 5, 2) := by decide +kernel
theorem dX1_mayStand_27 : decode cX1_mayStand 27 = .ok (.invokevirtual 54, 3) := by decide +kernel
theorem dX1_mayStand_30 : decode cX1_mayStand 30 = .ok (.ifCond .ne 5, 3) := by decide +kernel
theorem dX1_mayStand_33 : decode cX1_mayStand 33 = .ok (.iconst 1, 1) := by decide +kernel
theorem dX1_mayStand_34 : decode cX1_mayStand 34 = .ok (.ireturn, 1) := by decide +kernel
theorem dX1_mayStand_35 : decode cX1_mayStand 35 = .ok (.iload_n 1, 1) := by decide +kernel
theorem dX1_mayStand_36 : decode cX1_mayStand 36 = .ok (.iconst (-1), 1) := by decide +kernel
theorem dX1_mayStand_37 : decode cX1_mayStand 37 = .ok (.if_icmp .ne 7, 3) := by decide +kernel
theorem dX1_mayStand_40 : decode cX1_mayStand 40 = .ok (.iload_n 2, 1) := by decide +kernel
theorem dX1_mayStand_41 : decode cX1_mayStand 41 = .ok (.goto 4, 3) := by decide +kernel
theorem dX1_mayStand_44 : decode cX1_mayStand 44 = .ok (.iload_n 1, 1) := by decide +kernel
theorem dX1_mayStand_45 : decode cX1_mayStand 45 = .ok (.istore 6, 2) := by decide +kernel
theorem dX1_mayStand_47 : decode cX1_mayStand 47 = .ok (.aload 4, 2) := by decide +kernel
theorem dX1_mayStand_49 : decode cX1_mayStand 49 = .ok (.getfield 95, 3) := by decide +kernel
theorem dX1_mayStand_52 : decode cX1_mayStand 52 = .ok (.ifCond .eq 7, 3) := by decide +kernel
theorem dX1_mayStand_55 : decode cX1_mayStand 55 = .ok (.iload_n 3, 1) := by decide +kernel
theorem dX1_mayStand_56 : decode cX1_mayStand 56 = .ok (.goto 8, 3) := by decide +kernel
theorem dX1_mayStand_59 : decode cX1_mayStand 59 = .ok (.iload_n 3, 1) := by decide +kernel
theorem dX1_mayStand_60 : decode cX1_mayStand 60 = .ok (.iconst 1, 1) := by decide +kernel
theorem dX1_mayStand_61 : decode cX1_mayStand 61 = .ok (.invokestatic 99, 3) := by decide +kernel
theorem dX1_mayStand_64 : decode cX1_mayStand 64 = .ok (.istore 7, 2) := by decide +kernel
theorem dX1_mayStand_66 : decode cX1_mayStand 66 = .ok (.iload 7, 2) := by decide +kernel
theorem dX1_mayStand_68 : decode cX1_mayStand 68 = .ok (.bipush 10, 2) := by decide +kernel
theorem dX1_mayStand_70 : decode cX1_mayStand 70 = .ok (.imul, 1) := by decide +kernel
theorem dX1_mayStand_71 : decode cX1_mayStand 71 = .ok (.iload 6, 2) := by decide +kernel
theorem dX1_mayStand_73 : decode cX1_mayStand 73 = .ok (.iadd, 1) := by decide +kernel
theorem dX1_mayStand_74 : decode cX1_mayStand 74 = .ok (.bipush 10, 2) := by decide +kernel
theorem dX1_mayStand_76 : decode cX1_mayStand 76 = .ok (.imul, 1) := by decide +kernel
theorem dX1_mayStand_77 : decode cX1_mayStand 77 = .ok (.iload_n 2, 1) := by decide +kernel
theorem dX1_mayStand_78 : decode cX1_mayStand 78 = .ok (.iadd, 1) := by decide +kernel
theorem dX1_mayStand_79 : decode cX1_mayStand 79 = .ok (.istore 8, 2) := by decide +kernel
theorem dX1_mayStand_81 : decode cX1_mayStand 81 = .ok (.iload 8, 2) := by decide +kernel
theorem dX1_mayStand_83 : decode cX1_mayStand 83 = .ok (.ifCond .lt 13, 3) := by decide +kernel
theorem dX1_mayStand_86 : decode cX1_mayStand 86 = .ok (.iload 8, 2) := by decide +kernel
theorem dX1_mayStand_88 : decode cX1_mayStand 88 = .ok (.aload_n 0, 1) := by decide +kernel
theorem dX1_mayStand_89 : decode cX1_mayStand 89 = .ok (.getfield 22, 3) := by decide +kernel
theorem dX1_mayStand_92 : decode cX1_mayStand 92 = .ok (.arraylength, 1) := by decide +kernel
theorem dX1_mayStand_93 : decode cX1_mayStand 93 = .ok (.if_icmp .lt 5, 3) := by decide +kernel
theorem dX1_mayStand_96 : decode cX1_mayStand 96 = .ok (.iconst 0, 1) := by decide +kernel
theorem dX1_mayStand_97 : decode cX1_mayStand 97 = .ok (.ireturn, 1) := by decide +kernel
theorem dX1_mayStand_98 : decode cX1_mayStand 98 = .ok (.aload_n 0, 1) := by decide +kernel
theorem dX1_mayStand_99 : decode cX1_mayStand 99 = .ok (.getfield 22, 3) := by decide +kernel
theorem dX1_mayStand_102 : decode cX1_mayStand 102 = .ok (.iload 8, 2) := by decide +kernel
theorem dX1_mayStand_104 : decode cX1_mayStand 104 = .ok (.iaload, 1) := by decide +kernel
theorem dX1_mayStand_105 : decode cX1_mayStand 105 = .ok (.ifCond .ne 34, 3) := by decide +kernel
theorem dX1_mayStand_108 : decode cX1_mayStand 108 = .ok (.aload_n 0, 1) := by decide +kernel
theorem dX1_mayStand_109 : decode cX1_mayStand 109 = .ok (.iload 6, 2) := by decide +kernel
theorem dX1_mayStand_111 : decode cX1_mayStand 111 = .ok (.iload_n 2, 1) := by decide +kernel
theorem dX1_mayStand_112 : decode cX1_mayStand 112 = .ok (.iload_n 3, 1) := by decide +kernel
theorem dX1_mayStand_113 : decode cX1_mayStand 113 = .ok (.invokevirtual 105, 3) := by decide +kernel
theorem dX1_mayStand_116 : decode cX1_mayStand 116 = .ok (.aload_n 0, 1) := by decide +kernel
theorem dX1_mayStand_117 : decode cX1_mayStand 117 = .ok (.getfield 22, 3) := by decide +kernel
theorem dX1_mayStand_120 : decode cX1_mayStand 120 = .ok (.iload 8, 2) := by decide +kernel
theorem dX1_mayStand_122 : decode cX1_mayStand 122 = .ok (.aload_n 0, 1) := by decide +kernel
theorem dX1_mayStand_123 : decode cX1_mayStand 123 = .ok (.aload 4, 2) := by decide +kernel
theorem dX1_mayStand_125 : decode cX1_mayStand 125 = .ok (.iload 5, 2) := by decide +kernel
theorem dX1_mayStand_127 : decode cX1_mayStand 127 = .ok (.invokevirtual 91, 3) := by decide +kernel
theorem dX1_mayStand_130 : decode cX1_mayStand 130 = .ok (.ifCond .eq 7, 3) := by decide +kernel
theorem dX1_mayStand_133 : decode cX1_mayStand 133 = .ok (.iconst 1, 1) := by decide +kernel
theorem dX1_mayStand_134 : decode cX1_mayStand 134 = .ok (.goto 4, 3) := by decide +kernel
theorem dX1_mayStand_137 : decode cX1_mayStand 137 = .ok (.iconst 2, 1) := by decide +kernel
theorem dX1_mayStand_138 : decode cX1_mayStand 138 = .ok (.iastore, 1) := by decide +kernel
theorem dX1_mayStand_139 : decode cX1_mayStand 139 = .ok (.aload_n 0, 1) := by decide +kernel
theorem dX1_mayStand_140 : decode cX1_mayStand 140 = .ok (.getfield 22, 3) := by decide +kernel
theorem dX1_mayStand_143 : decode cX1_mayStand 143 = .ok (.iload 8, 2) := by decide +kernel
theorem dX1_mayStand_145 : decode cX1_mayStand 145 = .ok (.iaload, 1) := by decide +kernel
theorem dX1_mayStand_146 : decode cX1_mayStand 146 = .ok (.iconst 1, 1) := by decide +kernel
theorem dX1_mayStand_147 : decode cX1_mayStand 147 = .ok (.if_icmp .ne 7, 3) := by decide +kernel
theorem dX1_mayStand_150 : decode cX1_mayStand 150 = .ok (.iconst 1, 1) := by decide +kernel
theorem dX1_mayStand_151 : decode cX1_mayStand 151 = .ok (.goto 4, 3) := by decide +kernel
theorem dX1_mayStand_154 : decode cX1_mayStand 154 = .ok (.iconst 0, 1) := by decide +kernel
theorem dX1_mayStand_155 : decode cX1_mayStand 155 = .ok (.ireturn, 1) := by decide +kernel
theorem dX1_follows_0 : decode cX1_follows 0 = .ok (.aload_n 1, 1) := by decide +kernel
theorem dX1_follows_1 : decode cX1_follows 1 = .ok (.iconst 1, 1) := by decide +kernel
theorem dX1_follows_2 : decode cX1_follows 2 = .ok (.invokevirtual 54, 3) := by decide +kernel
theorem dX1_follows_5 : decode cX1_follows 5 = .ok (.ifCond .ne 5, 3) := by decide +kernel
theorem dX1_follows_8 : decode cX1_follows 8 = .ok (.iconst 1, 1) := by decide +kernel
theorem dX1_follows_9 : decode cX1_follows 9 = .ok (.ireturn, 1) := by decide +kernel
theorem dX1_follows_10 : decode cX1_follows 10 = .ok (.aload_n 0, 1) := by decide +kernel
theorem dX1_follows_11 : decode cX1_follows 11 = .ok (.iload_n 2, 1) := by decide +kernel
theorem dX1_follows_12 : decode cX1_follows 12 = .ok (.iload_n 3, 1) := by decide +kernel
theorem dX1_follows_13 : decode cX1_follows 13 = .ok (.iload 4, 2) := by decide +kernel
theorem dX1_follows_15 : decode cX1_follows 15 = .ok (.invokevirtual 105, 3) := by decide +kernel
theorem dX1_follows_18 : decode cX1_follows 18 = .ok (.aload_n 0, 1) := by decide +kernel
theorem dX1_follows_19 : decode cX1_follows 19 = .ok (.aload_n 1, 1) := by decide +kernel
theorem dX1_follows_20 : decode cX1_follows 20 = .ok (.iconst 1, 1) := by decide +kernel
theorem dX1_follows_21 : decode cX1_follows 21 = .ok (.invokevirtual 91, 3) := by decide +kernel
theorem dX1_follows_24 : decode cX1_follows 24 = .ok (.ireturn, 1) := by decide +kernel
theorem dX1_namePair_0 : decode cX1_namePair 0 = .ok (.aload_n 0, 1) := by decide +kernel
theorem dX1_namePair_1 : decode cX1_namePair 1 = .ok (.getfield 25, 3) := by decide +kernel
theorem dX1_namePair_4 : decode cX1_namePair 4 = .ok (.getfield 57, 3) := by decide +kernel
theorem dX1_namePair_7 : decode cX1_namePair 7 = .ok (.astore 4, 2) := by decide +kernel
theorem dX1_namePair_9 : decode cX1_namePair 9 = .ok (.aload_n 0, 1) := by decide +kernel
theorem dX1_namePair_10 : decode cX1_namePair 10 = .ok (.bipush 119, 2) := by decide +kernel
theorem dX1_namePair_12 : decode cX1_namePair 12 = .ok (.aload 4, 2) := by decide +kernel
theorem dX1_namePair_14 : decode cX1_namePair 14 = .ok (.getfield 109, 3) := by decide +kernel
theorem dX1_namePair_17 : decode cX1_namePair 17 = .ok (.iload_n 1, 1) := by decide +kernel
theorem dX1_namePair_18 : decode cX1_namePair 18 = .ok (.iaload, 1) := by decide +kernel
theorem dX1_namePair_19 : decode cX1_namePair 19 = .ok (.invokevirtual 78, 3) := by decide +kernel
theorem dX1_namePair_22 : decode cX1_namePair 22 = .ok (.aload_n 0, 1) := by decide +kernel
theorem dX1_namePair_23 : decode cX1_namePair 23 = .ok (.bipush 113, 2) := by decide +kernel
theorem dX1_namePair_25 : decode cX1_namePair 25 = .ok (.aload 4, 2) := by decide +kernel
theorem dX1_namePair_27 : decode cX1_namePair 27 = .ok (.getfield 112, 3) := by decide +kernel
theorem dX1_namePair_30 : decode cX1_namePair 30 = .ok (.iload_n 1, 1) := by decide +kernel
theorem dX1_namePair_31 : decode cX1_namePair 31 = .ok (.iaload, 1) := by decide +kernel
theorem dX1_namePair_32 : decode cX1_namePair 32 = .ok (.invokevirtual 78, 3) := by decide +kernel
theorem dX1_namePair_35 : decode cX1_namePair 35 = .ok (.aload_n 0, 1) := by decide +kernel
theorem dX1_namePair_36 : decode cX1_namePair 36 = .ok (.bipush 120, 2) := by decide +kernel
theorem dX1_namePair_38 : decode cX1_namePair 38 = .ok (.aload 4, 2) := by decide +kernel
theorem dX1_namePair_40 : decode cX1_namePair 40 = .ok (.getfield 109, 3) := by decide +kernel
theorem dX1_namePair_43 : decode cX1_namePair 43 = .ok (.iload_n 2, 1) := by decide +kernel
theorem dX1_namePair_44 : decode cX1_namePair 44 = .ok (.iaload, 1) := by decide +kernel
theorem dX1_namePair_45 : decode cX1_namePair 45 = .ok (.invokevirtual 78, 3) := by decide +kernel
theorem dX1_namePair_48 : decode cX1_namePair 48 = .ok (.aload_n 0, 1) := by decide +kernel
theorem dX1_namePair_49 : decode cX1_namePair 49 = .ok (.bipush 121, 2) := by decide +kernel
theorem dX1_namePair_51 : decode cX1_namePair 51 = .ok (.aload 4, 2) := by decide +kernel
theorem dX1_namePair_53 : decode cX1_namePair 53 = .ok (.getfield 112, 3) := by decide +kernel
theorem dX1_namePair_56 : decode cX1_namePair 56 = .ok (.iload_n 2, 1) := by decide +kernel
theorem dX1_namePair_57 : decode cX1_namePair 57 = .ok (.iaload, 1) := by decide +kernel
theorem dX1_namePair_58 : decode cX1_namePair 58 = .ok (.invokevirtual 78, 3) := by decide +kernel
theorem dX1_namePair_61 : decode cX1_namePair 61 = .ok (.aload_n 0, 1) := by decide +kernel
theorem dX1_namePair_62 : decode cX1_namePair 62 = .ok (.bipush 122, 2) := by decide +kernel
theorem dX1_namePair_64 : decode cX1_namePair 64 = .ok (.iload_n 3, 1) := by decide +kernel
theorem dX1_namePair_65 : decode cX1_namePair 65 = .ok (.invokevirtual 78, 3) := by decide +kernel
theorem dX1_namePair_68 : decode cX1_namePair 68 = .ok (.return_, 1) := by decide +kernel
theorem dX1_name_0 : decode cX1_name 0 = .ok (.aload_n 0, 1) := by decide +kernel
theorem dX1_name_1 : decode cX1_name 1 = .ok (.getfield 11, 3) := by decide +kernel
theorem dX1_name_4 : decode cX1_name 4 = .ok (.iload_n 1, 1) := by decide +kernel
theorem dX1_name_5 : decode cX1_name 5 = .ok (.bipush 100, 2) := by decide +kernel
theorem dX1_name_7 : decode cX1_name 7 = .ok (.isub, 1) := by decide +kernel
theorem dX1_name_8 : decode cX1_name 8 = .ok (.iload_n 2, 1) := by decide +kernel
theorem dX1_name_9 : decode cX1_name 9 = .ok (.iastore, 1) := by decide +kernel
theorem dX1_name_10 : decode cX1_name 10 = .ok (.return_, 1) := by decide +kernel
theorem dX1_says_0 : decode cX1_says 0 = .ok (.iconst 0, 1) := by decide +kernel
theorem dX1_says_1 : decode cX1_says 1 = .ok (.istore_n 3, 1) := by decide +kernel
theorem dX1_says_2 : decode cX1_says 2 = .ok (.aload_n 1, 1) := by decide +kernel
theorem dX1_says_3 : decode cX1_says 3 = .ok (.getfield 115, 3) := by decide +kernel
theorem dX1_says_6 : decode cX1_says 6 = .ok (.iload_n 2, 1) := by decide +kernel
theorem dX1_says_7 : decode cX1_says 7 = .ok (.iaload, 1) := by decide +kernel
theorem dX1_says_8 : decode cX1_says 8 = .ok (.istore 4, 2) := by decide +kernel
theorem dX1_says_10 : decode cX1_says 10 = .ok (.iload 4, 2) := by decide +kernel
theorem dX1_says_12 : decode cX1_says 12 = .ok (.aload_n 1, 1) := by decide +kernel
theorem dX1_says_13 : decode cX1_says 13 = .ok (.getfield 118, 3) := by decide +kernel
theorem dX1_says_16 : decode cX1_says 16 = .ok (.iload_n 2, 1) := by decide +kernel
theorem dX1_says_17 : decode cX1_says 17 = .ok (.iaload, 1) := by decide +kernel
theorem dX1_says_18 : decode cX1_says 18 = .ok (.if_icmp .ge 190, 3) := by decide +kernel
theorem dX1_says_21 : decode cX1_says 21 = .ok (.iload_n 3, 1) := by decide +kernel
theorem dX1_says_22 : decode cX1_says 22 = .ok (.aload_n 0, 1) := by decide +kernel
theorem dX1_says_23 : decode cX1_says 23 = .ok (.getfield 19, 3) := by decide +kernel
theorem dX1_says_26 : decode cX1_says 26 = .ok (.arraylength, 1) := by decide +kernel
theorem dX1_says_27 : decode cX1_says 27 = .ok (.if_icmp .ge 181, 3) := by decide +kernel
theorem dX1_says_30 : decode cX1_says 30 = .ok (.aload_n 1, 1) := by decide +kernel
theorem dX1_says_31 : decode cX1_says 31 = .ok (.getfield 121, 3) := by decide +kernel
theorem dX1_says_34 : decode cX1_says 34 = .ok (.iload 4, 2) := by decide +kernel
theorem dX1_says_36 : decode cX1_says 36 = .ok (.iaload, 1) := by decide +kernel
theorem dX1_says_37 : decode cX1_says 37 = .ok (.istore 5, 2) := by decide +kernel
theorem dX1_says_39 : decode cX1_says 39 = .ok (.iload 5, 2) := by decide +kernel
theorem dX1_says_41 : decode cX1_says 41 = .ok (.invokestatic 124, 3) := by decide +kernel
theorem dX1_says_44 : decode cX1_says 44 = .ok (.ifCond .eq 73, 3) := by decide +kernel
theorem dX1_says_47 : decode cX1_says 47 = .ok (.iload_n 3, 1) := by decide +kernel
theorem dX1_says_48 : decode cX1_says 48 = .ok (.iconst 1, 1) := by decide +kernel
theorem dX1_says_49 : decode cX1_says 49 = .ok (.if_icmp .le 153, 3) := by decide +kernel
theorem dX1_says_52 : decode cX1_says 52 = .ok (.iinc 3 (-1), 3) := by decide +kernel
theorem dX1_says_55 : decode cX1_says 55 = .ok (.aload_n 0, 1) := by decide +kernel
theorem dX1_says_56 : decode cX1_says 56 = .ok (.getfield 19, 3) := by decide +kernel
theorem dX1_says_59 : decode cX1_says 59 = .ok (.iload_n 3, 1) := by decide +kernel
theorem dX1_says_60 : decode cX1_says 60 = .ok (.iconst 1, 1) := by decide +kernel
theorem dX1_says_61 : decode cX1_says 61 = .ok (.isub, 1) := by decide +kernel
theorem dX1_says_62 : decode cX1_says 62 = .ok (.iload 5, 2) := by decide +kernel
theorem dX1_says_64 : decode cX1_says 64 = .ok (.bipush 94, 2) := by decide +kernel
theorem dX1_says_66 : decode cX1_says 66 = .ok (.if_icmp .ne 23, 3) := by decide +kernel
theorem dX1_says_69 : decode cX1_says 69 = .ok (.aload_n 0, 1) := by decide +kernel
theorem dX1_says_70 : decode cX1_says 70 = .ok (.getfield 19, 3) := by decide +kernel
theorem dX1_says_73 : decode cX1_says 73 = .ok (.iload_n 3, 1) := by decide +kernel
theorem dX1_says_74 : decode cX1_says 74 = .ok (.iconst 1, 1) := by decide +kernel
theorem dX1_says_75 : decode cX1_says 75 = .ok (.isub, 1) := by decide +kernel
theorem dX1_says_76 : decode cX1_says 76 = .ok (.iaload, 1) := by decide +kernel
theorem dX1_says_77 : decode cX1_says 77 = .ok (.aload_n 0, 1) := by decide +kernel
theorem dX1_says_78 : decode cX1_says 78 = .ok (.getfield 19, 3) := by decide +kernel
theorem dX1_says_81 : decode cX1_says 81 = .ok (.iload_n 3, 1) := by decide +kernel
theorem dX1_says_82 : decode cX1_says 82 = .ok (.iaload, 1) := by decide +kernel
theorem dX1_says_83 : decode cX1_says 83 = .ok (.invokestatic 127, 3) := by decide +kernel
theorem dX1_says_86 : decode cX1_says 86 = .ok (.goto 27, 3) := by decide +kernel
theorem dX1_says_89 : decode cX1_says 89 = .ok (.iload 5, 2) := by decide +kernel
theorem dX1_says_91 : decode cX1_says 91 = .ok (.aload_n 0, 1) := by decide +kernel
theorem dX1_says_92 : decode cX1_says 92 = .ok (.getfield 19, 3) := by decide +kernel
theorem dX1_says_95 : decode cX1_says 95 = .ok (.iload_n 3, 1) := by decide +kernel
theorem dX1_says_96 : decode cX1_says 96 = .ok (.iconst 1, 1) := by decide +kernel
theorem dX1_says_97 : decode cX1_says 97 = .ok (.isub, 1) := by decide +kernel
theorem dX1_says_98 : decode cX1_says 98 = .ok (.iaload, 1) := by decide +kernel
theorem dX1_says_99 : decode cX1_says 99 = .ok (.i2l, 1) := by decide +kernel
theorem dX1_says_100 : decode cX1_says 100 = .ok (.aload_n 0, 1) := by decide +kernel
theorem dX1_says_101 : decode cX1_says 101 = .ok (.getfield 19, 3) := by decide +kernel
theorem dX1_says_104 : decode cX1_says 104 = .ok (.iload_n 3, 1) := by decide +kernel
theorem dX1_says_105 : decode cX1_says 105 = .ok (.iaload, 1) := by decide +kernel
theorem dX1_says_106 : decode cX1_says 106 = .ok (.i2l, 1) := by decide +kernel
theorem dX1_says_107 : decode cX1_says 107 = .ok (.invokestatic 130, 3) := by decide +kernel
theorem dX1_says_110 : decode cX1_says 110 = .ok (.invokestatic 134, 3) := by decide +kernel
theorem dX1_says_113 : decode cX1_says 113 = .ok (.iastore, 1) := by decide +kernel
theorem dX1_says_114 : decode cX1_says 114 = .ok (.goto 88, 3) := by decide +kernel
theorem dX1_says_117 : decode cX1_says 117 = .ok (.iload 5, 2) := by decide +kernel
theorem dX1_says_119 : decode cX1_says 119 = .ok (.bipush 116, 2) := by decide +kernel
theorem dX1_says_121 : decode cX1_says 121 = .ok (.if_icmp .eq 9, 3) := by decide +kernel
theorem dX1_says_124 : decode cX1_says 124 = .ok (.iload 5, 2) := by decide +kernel
theorem dX1_says_126 : decode cX1_says 126 = .ok (.iconst 5, 1) := by decide +kernel
theorem dX1_says_127 : decode cX1_says 127 = .ok (.if_icmp .ne 39, 3) := by decide +kernel
theorem dX1_says_130 : decode cX1_says 130 = .ok (.iload_n 3, 1) := by decide +kernel
theorem dX1_says_131 : decode cX1_says 131 = .ok (.ifCond .le 71, 3) := by decide +kernel
theorem dX1_says_134 : decode cX1_says 134 = .ok (.aload_n 0, 1) := by decide +kernel
theorem dX1_says_135 : decode cX1_says 135 = .ok (.getfield 19, 3) := by decide +kernel
theorem dX1_says_138 : decode cX1_says 138 = .ok (.iload_n 3, 1) := by decide +kernel
theorem dX1_says_139 : decode cX1_says 139 = .ok (.iconst 1, 1) := by decide +kernel
theorem dX1_says_140 : decode cX1_says 140 = .ok (.isub, 1) := by decide +kernel
theorem dX1_says_141 : decode cX1_says 141 = .ok (.iload 5, 2) := by decide +kernel
theorem dX1_says_143 : decode cX1_says 143 = .ok (.bipush 116, 2) := by decide +kernel
theorem dX1_says_145 : decode cX1_says 145 = .ok (.if_icmp .ne 7, 3) := by decide +kernel
theorem dX1_says_148 : decode cX1_says 148 = .ok (.iconst 1, 1) := by decide +kernel
theorem dX1_says_149 : decode cX1_says 149 = .ok (.goto 4, 3) := by decide +kernel
theorem dX1_says_152 : decode cX1_says 152 = .ok (.iconst 0, 1) := by decide +kernel
theorem dX1_says_153 : decode cX1_says 153 = .ok (.aload_n 0, 1) := by decide +kernel
theorem dX1_says_154 : decode cX1_says 154 = .ok (.getfield 19, 3) := by decide +kernel
theorem dX1_says_157 : decode cX1_says 157 = .ok (.iload_n 3, 1) := by decide +kernel
theorem dX1_says_158 : decode cX1_says 158 = .ok (.iconst 1, 1) := by decide +kernel
theorem dX1_says_159 : decode cX1_says 159 = .ok (.isub, 1) := by decide +kernel
theorem dX1_says_160 : decode cX1_says 160 = .ok (.iaload, 1) := by decide +kernel
theorem dX1_says_161 : decode cX1_says 161 = .ok (.isub, 1) := by decide +kernel
theorem dX1_says_162 : decode cX1_says 162 = .ok (.iastore, 1) := by decide +kernel
theorem dX1_says_163 : decode cX1_says 163 = .ok (.goto 39, 3) := by decide +kernel
theorem dX1_says_166 : decode cX1_says 166 = .ok (.aload_n 0, 1) := by decide +kernel
theorem dX1_says_167 : decode cX1_says 167 = .ok (.getfield 19, 3) := by decide +kernel
theorem dX1_says_170 : decode cX1_says 170 = .ok (.iload_n 3, 1) := by decide +kernel
theorem dX1_says_171 : decode cX1_says 171 = .ok (.iload 5, 2) := by decide +kernel
theorem dX1_says_173 : decode cX1_says 173 = .ok (.sipush 1000, 3) := by decide +kernel
theorem dX1_says_176 : decode cX1_says 176 = .ok (.if_icmp .lt 12, 3) := by decide +kernel
theorem dX1_says_179 : decode cX1_says 179 = .ok (.iload 5, 2) := by decide +kernel
theorem dX1_says_181 : decode cX1_says 181 = .ok (.sipush 1000, 3) := by decide +kernel
theorem dX1_says_184 : decode cX1_says 184 = .ok (.isub, 1) := by decide +kernel
theorem dX1_says_185 : decode cX1_says 185 = .ok (.goto 13, 3) := by decide +kernel
theorem dX1_says_188 : decode cX1_says 188 = .ok (.aload_n 0, 1) := by decide +kernel
theorem dX1_says_189 : decode cX1_says 189 = .ok (.getfield 11, 3) := by decide +kernel
theorem dX1_says_192 : decode cX1_says 192 = .ok (.iload 5, 2) := by decide +kernel
theorem dX1_says_194 : decode cX1_says 194 = .ok (.bipush 100, 2) := by decide +kernel
theorem dX1_says_196 : decode cX1_says 196 = .ok (.isub, 1) := by decide +kernel
theorem dX1_says_197 : decode cX1_says 197 = .ok (.iaload, 1) := by decide +kernel
theorem dX1_says_198 : decode cX1_says 198 = .ok (.iastore, 1) := by decide +kernel
theorem dX1_says_199 : decode cX1_says 199 = .ok (.iinc 3 1, 3) := by decide +kernel
theorem dX1_says_202 : decode cX1_says 202 = .ok (.iinc 4 1, 3) := by decide +kernel
theorem dX1_says_205 : decode cX1_says 205 = .ok (.goto (-195), 3) := by decide +kernel
theorem dX1_says_208 : decode cX1_says 208 = .ok (.aload_n 0, 1) := by decide +kernel
theorem dX1_says_209 : decode cX1_says 209 = .ok (.getfield 19, 3) := by decide +kernel
theorem dX1_says_212 : decode cX1_says 212 = .ok (.iconst 0, 1) := by decide +kernel
theorem dX1_says_213 : decode cX1_says 213 = .ok (.iaload, 1) := by decide +kernel
theorem dX1_says_214 : decode cX1_says 214 = .ok (.ifCond .eq 7, 3) := by decide +kernel
theorem dX1_says_217 : decode cX1_says 217 = .ok (.iconst 1, 1) := by decide +kernel
theorem dX1_says_218 : decode cX1_says 218 = .ok (.goto 4, 3) := by decide +kernel
theorem dX1_says_221 : decode cX1_says 221 = .ok (.iconst 0, 1) := by decide +kernel
theorem dX1_says_222 : decode cX1_says 222 = .ok (.ireturn, 1) := by decide +kernel
theorem dX1_isJoint_0 : decode cX1_isJoint 0 = .ok (.iload_n 0, 1) := by decide +kernel
theorem dX1_isJoint_1 : decode cX1_isJoint 1 = .ok (.bipush 115, 2) := by decide +kernel
theorem dX1_isJoint_3 : decode cX1_isJoint 3 = .ok (.if_icmp .eq 20, 3) := by decide +kernel
theorem dX1_isJoint_6 : decode cX1_isJoint 6 = .ok (.iload_n 0, 1) := by decide +kernel
theorem dX1_isJoint_7 : decode cX1_isJoint 7 = .ok (.bipush 114, 2) := by decide +kernel
theorem dX1_isJoint_9 : decode cX1_isJoint 9 = .ok (.if_icmp .eq 14, 3) := by decide +kernel
theorem dX1_isJoint_12 : decode cX1_isJoint 12 = .ok (.iload_n 0, 1) := by decide +kernel
theorem dX1_isJoint_13 : decode cX1_isJoint 13 = .ok (.bipush 100, 2) := by decide +kernel
theorem dX1_isJoint_15 : decode cX1_isJoint 15 = .ok (.if_icmp .ge 12, 3) := by decide +kernel
theorem dX1_isJoint_18 : decode cX1_isJoint 18 = .ok (.iload_n 0, 1) := by decide +kernel
theorem dX1_isJoint_19 : decode cX1_isJoint 19 = .ok (.iconst 5, 1) := by decide +kernel
theorem dX1_isJoint_20 : decode cX1_isJoint 20 = .ok (.if_icmp .eq 7, 3) := by decide +kernel
theorem dX1_isJoint_23 : decode cX1_isJoint 23 = .ok (.iconst 1, 1) := by decide +kernel
theorem dX1_isJoint_24 : decode cX1_isJoint 24 = .ok (.goto 4, 3) := by decide +kernel
theorem dX1_isJoint_27 : decode cX1_isJoint 27 = .ok (.iconst 0, 1) := by decide +kernel
theorem dX1_isJoint_28 : decode cX1_isJoint 28 = .ok (.ireturn, 1) := by decide +kernel
theorem dX1_joined_0 : decode cX1_joined 0 = .ok (.iload_n 0, 1) := by decide +kernel
theorem dX1_joined_1 : decode cX1_joined 1 = .ok (.lookupswitch 201 #[(3, 119), (4, 143), (35, 167), (42, 179), (43, 197), (47, 183), (60, 107), (61, 155), (62, 131), (114, 99), (115, 103)], 99) := by decide +kernel
theorem dX1_joined_100 : decode cX1_joined 100 = .ok (.lload_n 1, 1) := by decide +kernel
theorem dX1_joined_101 : decode cX1_joined 101 = .ok (.lload_n 3, 1) := by decide +kernel
theorem dX1_joined_102 : decode cX1_joined 102 = .ok (.lor, 1) := by decide +kernel
theorem dX1_joined_103 : decode cX1_joined 103 = .ok (.lreturn, 1) := by decide +kernel
theorem dX1_joined_104 : decode cX1_joined 104 = .ok (.lload_n 1, 1) := by decide +kernel
theorem dX1_joined_105 : decode cX1_joined 105 = .ok (.lload_n 3, 1) := by decide +kernel
theorem dX1_joined_106 : decode cX1_joined 106 = .ok (.land, 1) := by decide +kernel
theorem dX1_joined_107 : decode cX1_joined 107 = .ok (.lreturn, 1) := by decide +kernel
theorem dX1_joined_108 : decode cX1_joined 108 = .ok (.lload_n 1, 1) := by decide +kernel
theorem dX1_joined_109 : decode cX1_joined 109 = .ok (.lload_n 3, 1) := by decide +kernel
theorem dX1_joined_110 : decode cX1_joined 110 = .ok (.lcmp, 1) := by decide +kernel
theorem dX1_joined_111 : decode cX1_joined 111 = .ok (.ifCond .ge 7, 3) := by decide +kernel
theorem dX1_joined_114 : decode cX1_joined 114 = .ok (.lconst 1, 1) := by decide +kernel
theorem dX1_joined_115 : decode cX1_joined 115 = .ok (.goto 4, 3) := by decide +kernel
theorem dX1_joined_118 : decode cX1_joined 118 = .ok (.lconst 0, 1) := by decide +kernel
theorem dX1_joined_119 : decode cX1_joined 119 = .ok (.lreturn, 1) := by decide +kernel
theorem dX1_joined_120 : decode cX1_joined 120 = .ok (.lload_n 1, 1) := by decide +kernel
theorem dX1_joined_121 : decode cX1_joined 121 = .ok (.lload_n 3, 1) := by decide +kernel
theorem dX1_joined_122 : decode cX1_joined 122 = .ok (.lcmp, 1) := by decide +kernel
theorem dX1_joined_123 : decode cX1_joined 123 = .ok (.ifCond .gt 7, 3) := by decide +kernel
theorem dX1_joined_126 : decode cX1_joined 126 = .ok (.lconst 1, 1) := by decide +kernel
theorem dX1_joined_127 : decode cX1_joined 127 = .ok (.goto 4, 3) := by decide +kernel
theorem dX1_joined_130 : decode cX1_joined 130 = .ok (.lconst 0, 1) := by decide +kernel
theorem dX1_joined_131 : decode cX1_joined 131 = .ok (.lreturn, 1) := by decide +kernel
theorem dX1_joined_132 : decode cX1_joined 132 = .ok (.lload_n 1, 1) := by decide +kernel
theorem dX1_joined_133 : decode cX1_joined 133 = .ok (.lload_n 3, 1) := by decide +kernel
theorem dX1_joined_134 : decode cX1_joined 134 = .ok (.lcmp, 1) := by decide +kernel
theorem dX1_joined_135 : decode cX1_joined 135 = .ok (.ifCond .le 7, 3) := by decide +kernel
theorem dX1_joined_138 : decode cX1_joined 138 = .ok (.lconst 1, 1) := by decide +kernel
theorem dX1_joined_139 : decode cX1_joined 139 = .ok (.goto 4, 3) := by decide +kernel
theorem dX1_joined_142 : decode cX1_joined 142 = .ok (.lconst 0, 1) := by decide +kernel
theorem dX1_joined_143 : decode cX1_joined 143 = .ok (.lreturn, 1) := by decide +kernel
theorem dX1_joined_144 : decode cX1_joined 144 = .ok (.lload_n 1, 1) := by decide +kernel
theorem dX1_joined_145 : decode cX1_joined 145 = .ok (.lload_n 3, 1) := by decide +kernel
theorem dX1_joined_146 : decode cX1_joined 146 = .ok (.lcmp, 1) := by decide +kernel
theorem dX1_joined_147 : decode cX1_joined 147 = .ok (.ifCond .lt 7, 3) := by decide +kernel
theorem dX1_joined_150 : decode cX1_joined 150 = .ok (.lconst 1, 1) := by decide +kernel
theorem dX1_joined_151 : decode cX1_joined 151 = .ok (.goto 4, 3) := by decide +kernel
theorem dX1_joined_154 : decode cX1_joined 154 = .ok (.lconst 0, 1) := by decide +kernel
theorem dX1_joined_155 : decode cX1_joined 155 = .ok (.lreturn, 1) := by decide +kernel
theorem dX1_joined_156 : decode cX1_joined 156 = .ok (.lload_n 1, 1) := by decide +kernel
theorem dX1_joined_157 : decode cX1_joined 157 = .ok (.lload_n 3, 1) := by decide +kernel
theorem dX1_joined_158 : decode cX1_joined 158 = .ok (.lcmp, 1) := by decide +kernel
theorem dX1_joined_159 : decode cX1_joined 159 = .ok (.ifCond .ne 7, 3) := by decide +kernel
theorem dX1_joined_162 : decode cX1_joined 162 = .ok (.lconst 1, 1) := by decide +kernel
theorem dX1_joined_163 : decode cX1_joined 163 = .ok (.goto 4, 3) := by decide +kernel
theorem dX1_joined_166 : decode cX1_joined 166 = .ok (.lconst 0, 1) := by decide +kernel
theorem dX1_joined_167 : decode cX1_joined 167 = .ok (.lreturn, 1) := by decide +kernel
theorem dX1_joined_168 : decode cX1_joined 168 = .ok (.lload_n 1, 1) := by decide +kernel
theorem dX1_joined_169 : decode cX1_joined 169 = .ok (.lload_n 3, 1) := by decide +kernel
theorem dX1_joined_170 : decode cX1_joined 170 = .ok (.lcmp, 1) := by decide +kernel
theorem dX1_joined_171 : decode cX1_joined 171 = .ok (.ifCond .eq 7, 3) := by decide +kernel
theorem dX1_joined_174 : decode cX1_joined 174 = .ok (.lconst 1, 1) := by decide +kernel
theorem dX1_joined_175 : decode cX1_joined 175 = .ok (.goto 4, 3) := by decide +kernel
theorem dX1_joined_178 : decode cX1_joined 178 = .ok (.lconst 0, 1) := by decide +kernel
theorem dX1_joined_179 : decode cX1_joined 179 = .ok (.lreturn, 1) := by decide +kernel
theorem dX1_joined_180 : decode cX1_joined 180 = .ok (.lload_n 1, 1) := by decide +kernel
theorem dX1_joined_181 : decode cX1_joined 181 = .ok (.lload_n 3, 1) := by decide +kernel
theorem dX1_joined_182 : decode cX1_joined 182 = .ok (.lmul, 1) := by decide +kernel
theorem dX1_joined_183 : decode cX1_joined 183 = .ok (.lreturn, 1) := by decide +kernel
theorem dX1_joined_184 : decode cX1_joined 184 = .ok (.lload_n 3, 1) := by decide +kernel
theorem dX1_joined_185 : decode cX1_joined 185 = .ok (.lconst 0, 1) := by decide +kernel
theorem dX1_joined_186 : decode cX1_joined 186 = .ok (.lcmp, 1) := by decide +kernel
theorem dX1_joined_187 : decode cX1_joined 187 = .ok (.ifCond .ne 7, 3) := by decide +kernel
theorem dX1_joined_190 : decode cX1_joined 190 = .ok (.lconst 0, 1) := by decide +kernel
theorem dX1_joined_191 : decode cX1_joined 191 = .ok (.goto 6, 3) := by decide +kernel
theorem dX1_joined_194 : decode cX1_joined 194 = .ok (.lload_n 1, 1) := by decide +kernel
theorem dX1_joined_195 : decode cX1_joined 195 = .ok (.lload_n 3, 1) := by decide +kernel
theorem dX1_joined_196 : decode cX1_joined 196 = .ok (.ldiv, 1) := by decide +kernel
theorem dX1_joined_197 : decode cX1_joined 197 = .ok (.lreturn, 1) := by decide +kernel
theorem dX1_joined_198 : decode cX1_joined 198 = .ok (.lload_n 1, 1) := by decide +kernel
theorem dX1_joined_199 : decode cX1_joined 199 = .ok (.lload_n 3, 1) := by decide +kernel
theorem dX1_joined_200 : decode cX1_joined 200 = .ok (.ladd, 1) := by decide +kernel
theorem dX1_joined_201 : decode cX1_joined 201 = .ok (.lreturn, 1) := by decide +kernel
theorem dX1_joined_202 : decode cX1_joined 202 = .ok (.lload_n 1, 1) := by decide +kernel
theorem dX1_joined_203 : decode cX1_joined 203 = .ok (.lload_n 3, 1) := by decide +kernel
theorem dX1_joined_204 : decode cX1_joined 204 = .ok (.lsub, 1) := by decide +kernel
theorem dX1_joined_205 : decode cX1_joined 205 = .ok (.lreturn, 1) := by decide +kernel
theorem dX1_power_0 : decode cX1_power 0 = .ok (.iload_n 1, 1) := by decide +kernel
theorem dX1_power_1 : decode cX1_power 1 = .ok (.ifCond .ge 5, 3) := by decide +kernel
theorem dX1_power_4 : decode cX1_power 4 = .ok (.iconst 0, 1) := by decide +kernel
theorem dX1_power_5 : decode cX1_power 5 = .ok (.ireturn, 1) := by decide +kernel
theorem dX1_power_6 : decode cX1_power 6 = .ok (.iload_n 1, 1) := by decide +kernel
theorem dX1_power_7 : decode cX1_power 7 = .ok (.bipush 99, 2) := by decide +kernel
theorem dX1_power_9 : decode cX1_power 9 = .ok (.if_icmp .le 8, 3) := by decide +kernel
theorem dX1_power_12 : decode cX1_power 12 = .ok (.bipush 99, 2) := by decide +kernel
theorem dX1_power_14 : decode cX1_power 14 = .ok (.goto 4, 3) := by decide +kernel
theorem dX1_power_17 : decode cX1_power 17 = .ok (.iload_n 1, 1) := by decide +kernel
theorem dX1_power_18 : decode cX1_power 18 = .ok (.istore_n 2, 1) := by decide +kernel
theorem dX1_power_19 : decode cX1_power 19 = .ok (.iload_n 2, 1) := by decide +kernel
theorem dX1_power_20 : decode cX1_power 20 = .ok (.bipush 22, 2) := by decide +kernel
theorem dX1_power_22 : decode cX1_power 22 = .ok (.if_icmp .le 10, 3) := by decide +kernel
theorem dX1_power_25 : decode cX1_power 25 = .ok (.bipush 22, 2) := by decide +kernel
theorem dX1_power_27 : decode cX1_power 27 = .ok (.iload_n 2, 1) := by decide +kernel
theorem dX1_power_28 : decode cX1_power 28 = .ok (.iconst 2, 1) := by decide +kernel
theorem dX1_power_29 : decode cX1_power 29 = .ok (.irem, 1) := by decide +kernel
theorem dX1_power_30 : decode cX1_power 30 = .ok (.isub, 1) := by decide +kernel
theorem dX1_power_31 : decode cX1_power 31 = .ok (.istore_n 2, 1) := by decide +kernel
theorem dX1_power_32 : decode cX1_power 32 = .ok (.iconst 1, 1) := by decide +kernel
theorem dX1_power_33 : decode cX1_power 33 = .ok (.istore_n 3, 1) := by decide +kernel
theorem dX1_power_34 : decode cX1_power 34 = .ok (.iconst 0, 1) := by decide +kernel
theorem dX1_power_35 : decode cX1_power 35 = .ok (.istore 4, 2) := by decide +kernel
theorem dX1_power_37 : decode cX1_power 37 = .ok (.iload 4, 2) := by decide +kernel
theorem dX1_power_39 : decode cX1_power 39 = .ok (.iload_n 2, 1) := by decide +kernel
theorem dX1_power_40 : decode cX1_power 40 = .ok (.if_icmp .ge 18, 3) := by decide +kernel
theorem dX1_power_43 : decode cX1_power 43 = .ok (.iload_n 3, 1) := by decide +kernel
theorem dX1_power_44 : decode cX1_power 44 = .ok (.i2l, 1) := by decide +kernel
theorem dX1_power_45 : decode cX1_power 45 = .ok (.iload_n 0, 1) := by decide +kernel
theorem dX1_power_46 : decode cX1_power 46 = .ok (.i2l, 1) := by decide +kernel
theorem dX1_power_47 : decode cX1_power 47 = .ok (.lmul, 1) := by decide +kernel
theorem dX1_power_48 : decode cX1_power 48 = .ok (.invokestatic 134, 3) := by decide +kernel
theorem dX1_power_51 : decode cX1_power 51 = .ok (.istore_n 3, 1) := by decide +kernel
theorem dX1_power_52 : decode cX1_power 52 = .ok (.iinc 4 1, 3) := by decide +kernel
theorem dX1_power_55 : decode cX1_power 55 = .ok (.goto (-18), 3) := by decide +kernel
theorem dX1_power_58 : decode cX1_power 58 = .ok (.iload_n 3, 1) := by decide +kernel
theorem dX1_power_59 : decode cX1_power 59 = .ok (.ireturn, 1) := by decide +kernel
theorem dX1_held_0 : decode cX1_held 0 = .ok (.lload_n 0, 1) := by decide +kernel
theorem dX1_held_1 : decode cX1_held 1 = .ok (.ldc2_w 138, 3) := by decide +kernel
theorem dX1_held_4 : decode cX1_held 4 = .ok (.lcmp, 1) := by decide +kernel
theorem dX1_held_5 : decode cX1_held 5 = .ok (.ifCond .le 6, 3) := by decide +kernel
theorem dX1_held_8 : decode cX1_held 8 = .ok (.ldc 140, 2) := by decide +kernel
theorem dX1_held_10 : decode cX1_held 10 = .ok (.ireturn, 1) := by decide +kernel
theorem dX1_held_11 : decode cX1_held 11 = .ok (.lload_n 0, 1) := by decide +kernel
theorem dX1_held_12 : decode cX1_held 12 = .ok (.ldc2_w 141, 3) := by decide +kernel
theorem dX1_held_15 : decode cX1_held 15 = .ok (.lcmp, 1) := by decide +kernel
theorem dX1_held_16 : decode cX1_held 16 = .ok (.ifCond .ge 8, 3) := by decide +kernel
theorem dX1_held_19 : decode cX1_held 19 = .ok (.ldc 143, 2) := by decide +kernel
theorem dX1_held_21 : decode cX1_held 21 = .ok (.goto 5, 3) := by decide +kernel
theorem dX1_held_24 : decode cX1_held 24 = .ok (.lload_n 0, 1) := by decide +kernel
theorem dX1_held_25 : decode cX1_held 25 = .ok (.l2i, 1) := by decide +kernel
theorem dX1_held_26 : decode cX1_held 26 = .ok (.ireturn, 1) := by decide +kernel
