theorem dJ6_bitCount_0f7a4_0 : decode cJ6_bitCount_0f7a4 0 = .ok (.iload_n 0, 1) := by decide +kernel
theorem dJ6_bitCount_0f7a4_1 : decode cJ6_bitCount_0f7a4 1 = .ok (.iload_n 0, 1) := by decide +kernel
theorem dJ6_bitCount_0f7a4_2 : decode cJ6_bitCount_0f7a4 2 = .ok (.iconst 1, 1) := by decide +kernel
theorem dJ6_bitCount_0f7a4_3 : decode cJ6_bitCount_0f7a4 3 = .ok (.iushr, 1) := by decide +kernel
theorem dJ6_bitCount_0f7a4_4 : decode cJ6_bitCount_0f7a4 4 = .ok (.ldc_w 265, 3) := by decide +kernel
theorem dJ6_bitCount_0f7a4_7 : decode cJ6_bitCount_0f7a4 7 = .ok (.iand, 1) := by decide +kernel
theorem dJ6_bitCount_0f7a4_8 : decode cJ6_bitCount_0f7a4 8 = .ok (.isub, 1) := by decide +kernel
theorem dJ6_bitCount_0f7a4_9 : decode cJ6_bitCount_0f7a4 9 = .ok (.istore_n 0, 1) := by decide +kernel
theorem dJ6_bitCount_0f7a4_10 : decode cJ6_bitCount_0f7a4 10 = .ok (.iload_n 0, 1) := by decide +kernel
theorem dJ6_bitCount_0f7a4_11 : decode cJ6_bitCount_0f7a4 11 = .ok (.ldc_w 266, 3) := by decide +kernel
theorem dJ6_bitCount_0f7a4_14 : decode cJ6_bitCount_0f7a4 14 = .ok (.iand, 1) := by decide +kernel
theorem dJ6_bitCount_0f7a4_15 : decode cJ6_bitCount_0f7a4 15 = .ok (.iload_n 0, 1) := by decide +kernel
theorem dJ6_bitCount_0f7a4_16 : decode cJ6_bitCount_0f7a4 16 = .ok (.iconst 2, 1) := by decide +kernel
theorem dJ6_bitCount_0f7a4_17 : decode cJ6_bitCount_0f7a4 17 = .ok (.iushr, 1) := by decide +kernel
theorem dJ6_bitCount_0f7a4_18 : decode cJ6_bitCount_0f7a4 18 = .ok (.ldc_w 266, 3) := by decide +kernel
theorem dJ6_bitCount_0f7a4_21 : decode cJ6_bitCount_0f7a4 21 = .ok (.iand, 1) := by decide +kernel
theorem dJ6_bitCount_0f7a4_22 : decode cJ6_bitCount_0f7a4 22 = .ok (.iadd, 1) := by decide +kernel
theorem dJ6_bitCount_0f7a4_23 : decode cJ6_bitCount_0f7a4 23 = .ok (.istore_n 0, 1) := by decide +kernel
theorem dJ6_bitCount_0f7a4_24 : decode cJ6_bitCount_0f7a4 24 = .ok (.iload_n 0, 1) := by decide +kernel
theorem dJ6_bitCount_0f7a4_25 : decode cJ6_bitCount_0f7a4 25 = .ok (.iload_n 0, 1) := by decide +kernel
theorem dJ6_bitCount_0f7a4_26 : decode cJ6_bitCount_0f7a4 26 = .ok (.iconst 4, 1) := by decide +kernel
theorem dJ6_bitCount_0f7a4_27 : decode cJ6_bitCount_0f7a4 27 = .ok (.iushr, 1) := by decide +kernel
theorem dJ6_bitCount_0f7a4_28 : decode cJ6_bitCount_0f7a4 28 = .ok (.iadd, 1) := by decide +kernel
theorem dJ6_bitCount_0f7a4_29 : decode cJ6_bitCount_0f7a4 29 = .ok (.ldc_w 267, 3) := by decide +kernel
theorem dJ6_bitCount_0f7a4_32 : decode cJ6_bitCount_0f7a4 32 = .ok (.iand, 1) := by decide +kernel
theorem dJ6_bitCount_0f7a4_33 : decode cJ6_bitCount_0f7a4 33 = .ok (.istore_n 0, 1) := by decide +kernel
theorem dJ6_bitCount_0f7a4_34 : decode cJ6_bitCount_0f7a4 34 = .ok (.iload_n 0, 1) := by decide +kernel
theorem dJ6_bitCount_0f7a4_35 : decode cJ6_bitCount_0f7a4 35 = .ok (.iload_n 0, 1) := by decide +kernel
theorem dJ6_bitCount_0f7a4_36 : decode cJ6_bitCount_0f7a4 36 = .ok (.bipush 8, 2) := by decide +kernel
theorem dJ6_bitCount_0f7a4_38 : decode cJ6_bitCount_0f7a4 38 = .ok (.iushr, 1) := by decide +kernel
theorem dJ6_bitCount_0f7a4_39 : decode cJ6_bitCount_0f7a4 39 = .ok (.iadd, 1) := by decide +kernel
theorem dJ6_bitCount_0f7a4_40 : decode cJ6_bitCount_0f7a4 40 = .ok (.istore_n 0, 1) := by decide +kernel
theorem dJ6_bitCount_0f7a4_41 : decode cJ6_bitCount_0f7a4 41 = .ok (.iload_n 0, 1) := by decide +kernel
theorem dJ6_bitCount_0f7a4_42 : decode cJ6_bitCount_0f7a4 42 = .ok (.iload_n 0, 1) := by decide +kernel
theorem dJ6_bitCount_0f7a4_43 : decode cJ6_bitCount_0f7a4 43 = .ok (.bipush 16, 2) := by decide +kernel
theorem dJ6_bitCount_0f7a4_45 : decode cJ6_bitCount_0f7a4 45 = .ok (.iushr, 1) := by decide +kernel
theorem dJ6_bitCount_0f7a4_46 : decode cJ6_bitCount_0f7a4 46 = .ok (.iadd, 1) := by decide +kernel
theorem dJ6_bitCount_0f7a4_47 : decode cJ6_bitCount_0f7a4 47 = .ok (.istore_n 0, 1) := by decide +kernel
theorem dJ6_bitCount_0f7a4_48 : decode cJ6_bitCount_0f7a4 48 = .ok (.iload_n 0, 1) := by decide +kernel
theorem dJ6_bitCount_0f7a4_49 : decode cJ6_bitCount_0f7a4 49 = .ok (.bipush 63, 2) := by decide +kernel
theorem dJ6_bitCount_0f7a4_51 : decode cJ6_bitCount_0f7a4 51 = .ok (.iand, 1) := by decide +kernel
theorem dJ6_bitCount_0f7a4_52 : decode cJ6_bitCount_0f7a4 52 = .ok (.ireturn, 1) := by decide +kernel
theorem dJ7_fill_53178_0 : decode cJ7_fill_53178 0 = .ok (.iconst 0, 1) := by decide +kernel
theorem dJ7_fill_53178_1 : decode cJ7_fill_53178 1 = .ok (.istore_n 2, 1) := by decide +kernel
theorem dJ7_fill_53178_2 : decode cJ7_fill_53178 2 = .ok (.aload_n 0, 1) := by decide +kernel
theorem dJ7_fill_53178_3 : decode cJ7_fill_53178 3 = .ok (.arraylength, 1) := by decide +kernel
theorem dJ7_fill_53178_4 : decode cJ7_fill_53178 4 = .ok (.istore_n 3, 1) := by decide +kernel
theorem dJ7_fill_53178_5 : decode cJ7_fill_53178 5 = .ok (.iload_n 2, 1) := by decide +kernel
theorem dJ7_fill_53178_6 : decode cJ7_fill_53178 6 = .ok (.iload_n 3, 1) := by decide +kernel
theorem dJ7_fill_53178_7 : decode cJ7_fill_53178 7 = .ok (.if_icmp .ge 13, 3) := by decide +kernel
theorem dJ7_fill_53178_10 : decode cJ7_fill_53178 10 = .ok (.aload_n 0, 1) := by decide +kernel
theorem dJ7_fill_53178_11 : decode cJ7_fill_53178 11 = .ok (.iload_n 2, 1) := by decide +kernel
theorem dJ7_fill_53178_12 : decode cJ7_fill_53178 12 = .ok (.iload_n 1, 1) := by decide +kernel
theorem dJ7_fill_53178_13 : decode cJ7_fill_53178 13 = .ok (.iastore, 1) := by decide +kernel
theorem dJ7_fill_53178_14 : decode cJ7_fill_53178 14 = .ok (.iinc 2 1, 3) := by decide +kernel
theorem dJ7_fill_53178_17 : decode cJ7_fill_53178 17 = .ok (.goto (-12), 3) := by decide +kernel
theorem dJ7_fill_53178_20 : decode cJ7_fill_53178 20 = .ok (.return_, 1) := by decide +kernel
theorem dJ9_abs_0f7a4_0 : decode cJ9_abs_0f7a4 0 = .ok (.iload_n 0, 1) := by decide +kernel
theorem dJ9_abs_0f7a4_1 : decode cJ9_abs_0f7a4 1 = .ok (.ifCond .ge 8, 3) := by decide +kernel
theorem dJ9_abs_0f7a4_4 : decode cJ9_abs_0f7a4 4 = .ok (.iload_n 0, 1) := by decide +kernel
theorem dJ9_abs_0f7a4_5 : decode cJ9_abs_0f7a4 5 = .ok (.ineg, 1) := by decide +kernel
theorem dJ9_abs_0f7a4_6 : decode cJ9_abs_0f7a4 6 = .ok (.goto 4, 3) := by decide +kernel
theorem dJ9_abs_0f7a4_9 : decode cJ9_abs_0f7a4 9 = .ok (.iload_n 0, 1) := by decide +kernel
theorem dJ9_abs_0f7a4_10 : decode cJ9_abs_0f7a4 10 = .ok (.ireturn, 1) := by decide +kernel
theorem dJ9_max_7cf53_0 : decode cJ9_max_7cf53 0 = .ok (.iload_n 0, 1) := by decide +kernel
theorem dJ9_max_7cf53_1 : decode cJ9_max_7cf53 1 = .ok (.iload_n 1, 1) := by decide +kernel
theorem dJ9_max_7cf53_2 : decode cJ9_max_7cf53 2 = .ok (.if_icmp .lt 7, 3) := by decide +kernel
theorem dJ9_max_7cf53_5 : decode cJ9_max_7cf53 5 = .ok (.iload_n 0, 1) := by decide +kernel
theorem dJ9_max_7cf53_6 : decode cJ9_max_7cf53 6 = .ok (.goto 4, 3) := by decide +kernel
theorem dJ9_max_7cf53_9 : decode cJ9_max_7cf53 9 = .ok (.iload_n 1, 1) := by decide +kernel
theorem dJ9_max_7cf53_10 : decode cJ9_max_7cf53 10 = .ok (.ireturn, 1) := by decide +kernel
theorem dJ9_min_7cf53_0 : decode cJ9_min_7cf53 0 = .ok (.iload_n 0, 1) := by decide +kernel
theorem dJ9_min_7cf53_1 : decode cJ9_min_7cf53 1 = .ok (.iload_n 1, 1) := by decide +kernel
theorem dJ9_min_7cf53_2 : decode cJ9_min_7cf53 2 = .ok (.if_icmp .gt 7, 3) := by decide +kernel
theorem dJ9_min_7cf53_5 : decode cJ9_min_7cf53 5 = .ok (.iload_n 0, 1) := by decide +kernel
theorem dJ9_min_7cf53_6 : decode cJ9_min_7cf53 6 = .ok (.goto 4, 3) := by decide +kernel
theorem dJ9_min_7cf53_9 : decode cJ9_min_7cf53 9 = .ok (.iload_n 1, 1) := by decide +kernel
theorem dJ9_min_7cf53_10 : decode cJ9_min_7cf53 10 = .ok (.ireturn, 1) := by decide +kernel
theorem dX0_init_0 : decode cX0_init 0 = .ok (.aload_n 0, 1) := by decide +kernel
theorem dX0_init_1 : decode cX0_init 1 = .ok (.invokespecial 3, 3) := by decide +kernel
theorem dX0_init_4 : decode cX0_init 4 = .ok (.aload_n 0, 1) := by decide +kernel
theorem dX0_init_5 : decode cX0_init 5 = .ok (.bipush 24, 2) := by decide +kernel
theorem dX0_init_7 : decode cX0_init 7 = .ok (.newarray .int, 2) := by decide +kernel
theorem dX0_init_9 : decode cX0_init 9 = .ok (.putfield 9, 3) := by decide +kernel
theorem dX0_init_12 : decode cX0_init 12 = .ok (.aload_n 0, 1) := by decide +kernel
theorem dX0_init_13 : decode cX0_init 13 = .ok (.bipush 25, 2) := by decide +kernel
theorem dX0_init_15 : decode cX0_init 15 = .ok (.newarray .int, 2) := by decide +kernel
theorem dX0_init_17 : decode cX0_init 17 = .ok (.putfield 15, 3) := by decide +kernel
theorem dX0_init_20 : decode cX0_init 20 = .ok (.aload_n 0, 1) := by decide +kernel
theorem dX0_init_21 : decode cX0_init 21 = .ok (.bipush 25, 2) := by decide +kernel
theorem dX0_init_23 : decode cX0_init 23 = .ok (.newarray .int, 2) := by decide +kernel
theorem dX0_init_25 : decode cX0_init 25 = .ok (.putfield 18, 3) := by decide +kernel
theorem dX0_init_28 : decode cX0_init 28 = .ok (.aload_n 0, 1) := by decide +kernel
theorem dX0_init_29 : decode cX0_init 29 = .ok (.bipush 25, 2) := by decide +kernel
theorem dX0_init_31 : decode cX0_init 31 = .ok (.newarray .int, 2) := by decide +kernel
theorem dX0_init_33 : decode cX0_init 33 = .ok (.putfield 21, 3) := by decide +kernel
theorem dX0_init_36 : decode cX0_init 36 = .ok (.aload_n 0, 1) := by decide +kernel
theorem dX0_init_37 : decode cX0_init 37 = .ok (.sipush 6250, 3) := by decide +kernel
theorem dX0_init_40 : decode cX0_init 40 = .ok (.newarray .int, 2) := by decide +kernel
theorem dX0_init_42 : decode cX0_init 42 = .ok (.putfield 24, 3) := by decide +kernel
theorem dX0_init_45 : decode cX0_init 45 = .ok (.aload_n 0, 1) := by decide +kernel
theorem dX0_init_46 : decode cX0_init 46 = .ok (.iconst 5, 1) := by decide +kernel
theorem dX0_init_47 : decode cX0_init 47 = .ok (.newarray .int, 2) := by decide +kernel
theorem dX0_init_49 : decode cX0_init 49 = .ok (.putfield 27, 3) := by decide +kernel
theorem dX0_init_52 : decode cX0_init 52 = .ok (.aload_n 0, 1) := by decide +kernel
theorem dX0_init_53 : decode cX0_init 53 = .ok (.aload_n 1, 1) := by decide +kernel
theorem dX0_init_54 : decode cX0_init 54 = .ok (.putfield 30, 3) := by decide +kernel
theorem dX0_init_57 : decode cX0_init 57 = .ok (.aload_n 0, 1) := by decide +kernel
theorem dX0_init_58 : decode cX0_init 58 = .ok (.aload_n 2, 1) := by decide +kernel
theorem dX0_init_59 : decode cX0_init 59 = .ok (.putfield 34, 3) := by decide +kernel
theorem dX0_init_62 : decode cX0_init 62 = .ok (.return_, 1) := by decide +kernel
theorem dX0_listen_0 : decode cX0_listen 0 = .ok (.aload_n 0, 1) := by decide +kernel
theorem dX0_listen_1 : decode cX0_listen 1 = .ok (.getfield 30, 3) := by decide +kernel
theorem dX0_listen_4 : decode cX0_listen 4 = .ok (.getfield 38, 3) := by decide +kernel
theorem dX0_listen_7 : decode cX0_listen 7 = .ok (.astore_n 1, 1) := by decide +kernel
theorem dX0_listen_8 : decode cX0_listen 8 = .ok (.aload_n 0, 1) := by decide +kernel
theorem dX0_listen_9 : decode cX0_listen 9 = .ok (.iconst 0, 1) := by decide +kernel
theorem dX0_listen_10 : decode cX0_listen 10 = .ok (.putfield 44, 3) := by decide +kernel
theorem dX0_listen_13 : decode cX0_listen 13 = .ok (.iconst 0, 1) := by decide +kernel
theorem dX0_listen_14 : decode cX0_listen 14 = .ok (.istore_n 2, 1) := by decide +kernel
theorem dX0_listen_15 : decode cX0_listen 15 = .ok (.iload_n 2, 1) := by decide +kernel
theorem dX0_listen_16 : decode cX0_listen 16 = .ok (.aload_n 1, 1) := by decide +kernel
theorem dX0_listen_17 : decode cX0_listen 17 = .ok (.getfield 48, 3) := by decide +kernel
theorem dX0_listen_20 : decode cX0_listen 20 = .ok (.if_icmp .ge 48, 3) := by decide +kernel
theorem dX0_listen_23 : decode cX0_listen 23 = .ok (.aload_n 1, 1) := by decide +kernel
theorem dX0_listen_24 : decode cX0_listen 24 = .ok (.getfield 53, 3) := by decide +kernel
theorem dX0_listen_27 : decode cX0_listen 27 = .ok (.iload_n 2, 1) := by decide +kernel
theorem dX0_listen_28 : decode cX0_listen 28 = .ok (.iaload, 1) := by decide +kernel
theorem dX0_listen_29 : decode cX0_listen 29 = .ok (.bipush 10, 2) := by decide +kernel
theorem dX0_listen_31 : decode cX0_listen 31 = .ok (.if_icmp .lt 31, 3) := by decide +kernel
theorem dX0_listen_34 : decode cX0_listen 34 = .ok (.aload_n 0, 1) := by decide +kernel
theorem dX0_listen_35 : decode cX0_listen 35 = .ok (.getfield 9, 3) := by decide +kernel
theorem dX0_listen_38 : decode cX0_listen 38 = .ok (.aload_n 0, 1) := by decide +kernel
theorem dX0_listen_39 : decode cX0_listen 39 = .ok (.getfield 44, 3) := by decide +kernel
theorem dX0_listen_42 : decode cX0_listen 42 = .ok (.aload_n 1, 1) := by decide +kernel
theorem dX0_listen_43 : decode cX0_listen 43 = .ok (.getfield 53, 3) := by decide +kernel
theorem dX0_listen_46 : decode cX0_listen 46 = .ok (.iload_n 2, 1) := by decide +kernel
theorem dX0_listen_47 : decode cX0_listen 47 = .ok (.iaload, 1) := by decide +kernel
theorem dX0_listen_48 : decode cX0_listen 48 = .ok (.bipush 10, 2) := by decide +kernel
theorem dX0_listen_50 : decode cX0_listen 50 = .ok (.isub, 1) := by decide +kernel
theorem dX0_listen_51 : decode cX0_listen 51 = .ok (.iastore, 1) := by decide +kernel
theorem dX0_listen_52 : decode cX0_listen 52 = .ok (.aload_n 0, 1) := by decide +kernel
theorem dX0_listen_53 : decode cX0_listen 53 = .ok (.dup, 1) := by decide +kernel
theorem dX0_listen_54 : decode cX0_listen 54 = .ok (.getfield 44, 3) := by decide +kernel
theorem dX0_listen_57 : decode cX0_listen 57 = .ok (.iconst 1, 1) := by decide +kernel
theorem dX0_listen_58 : decode cX0_listen 58 = .ok (.iadd, 1) := by decide +kernel
theorem dX0_listen_59 : decode cX0_listen 59 = .ok (.putfield 44, 3) := by decide +kernel
theorem dX0_listen_62 : decode cX0_listen 62 = .ok (.iinc 2 1, 3) := by decide +kernel
theorem dX0_listen_65 : decode cX0_listen 65 = .ok (.goto (-50), 3) := by decide +kernel
theorem dX0_listen_68 : decode cX0_listen 68 = .ok (.return_, 1) := by decide +kernel
theorem dX0_waysToRead_0 : decode cX0_waysToRead 0 = .ok (.aload_n 0, 1) := by decide +kernel
theorem dX0_waysToRead_1 : decode cX0_waysToRead 1 = .ok (.invokevirtual 54, 3) := by decide +kernel
theorem dX0_waysToRead_4 : decode cX0_waysToRead 4 = .ok (.aload_n 0, 1) := by decide +kernel
theorem dX0_waysToRead_5 : decode cX0_waysToRead 5 = .ok (.invokevirtual 57, 3) := by decide +kernel
theorem dX0_waysToRead_8 : decode cX0_waysToRead 8 = .ok (.iload_n 1, 1) := by decide +kernel
theorem dX0_waysToRead_9 : decode cX0_waysToRead 9 = .ok (.ifCond .eq 20, 3) := by decide +kernel
theorem dX0_waysToRead_12 : decode cX0_waysToRead 12 = .ok (.aload_n 0, 1) := by decide +kernel
theorem dX0_waysToRead_13 : decode cX0_waysToRead 13 = .ok (.getfield 44, 3) := by decide +kernel
theorem dX0_waysToRead_16 : decode cX0_waysToRead 16 = .ok (.ifCond .eq 13, 3) := by decide +kernel
theorem dX0_waysToRead_19 : decode cX0_waysToRead 19 = .ok (.aload_n 0, 1) := by decide +kernel
theorem dX0_waysToRead_20 : decode cX0_waysToRead 20 = .ok (.getfield 34, 3) := by decide +kernel
theorem dX0_waysToRead_23 : decode cX0_waysToRead 23 = .ok (.invokevirtual 60, 3) := by decide +kernel
theorem dX0_waysToRead_26 : decode cX0_waysToRead 26 = .ok (.ifCond .ne 10, 3) := by decide +kernel
theorem dX0_waysToRead_29 : decode cX0_waysToRead 29 = .ok (.aload_n 0, 1) := by decide +kernel
theorem dX0_waysToRead_30 : decode cX0_waysToRead 30 = .ok (.getfield 21, 3) := by decide +kernel
theorem dX0_waysToRead_33 : decode cX0_waysToRead 33 = .ok (.iconst 0, 1) := by decide +kernel
theorem dX0_waysToRead_34 : decode cX0_waysToRead 34 = .ok (.iaload, 1) := by decide +kernel
theorem dX0_waysToRead_35 : decode cX0_waysToRead 35 = .ok (.ireturn, 1) := by decide +kernel
theorem dX0_waysToRead_36 : decode cX0_waysToRead 36 = .ok (.aload_n 0, 1) := by decide +kernel
theorem dX0_waysToRead_37 : decode cX0_waysToRead 37 = .ok (.getfield 30, 3) := by decide +kernel
theorem dX0_waysToRead_40 : decode cX0_waysToRead 40 = .ok (.getfield 66, 3) := by decide +kernel
theorem dX0_waysToRead_43 : decode cX0_waysToRead 43 = .ok (.astore_n 2, 1) := by decide +kernel
theorem dX0_waysToRead_44 : decode cX0_waysToRead 44 = .ok (.aload_n 0, 1) := by decide +kernel
theorem dX0_waysToRead_45 : decode cX0_waysToRead 45 = .ok (.getfield 44, 3) := by decide +kernel
theorem dX0_waysToRead_48 : decode cX0_waysToRead 48 = .ok (.istore_n 3, 1) := by decide +kernel
theorem dX0_waysToRead_49 : decode cX0_waysToRead 49 = .ok (.iload_n 3, 1) := by decide +kernel
theorem dX0_waysToRead_50 : decode cX0_waysToRead 50 = .ok (.ifCond .le 127, 3) := by decide +kernel
theorem dX0_waysToRead_53 : decode cX0_waysToRead 53 = .ok (.iconst 0, 1) := by decide +kernel
theorem dX0_waysToRead_54 : decode cX0_waysToRead 54 = .ok (.istore 4, 2) := by decide +kernel
theorem dX0_waysToRead_56 : decode cX0_waysToRead 56 = .ok (.iload 4, 2) := by decide +kernel
theorem dX0_waysToRead_58 : decode cX0_waysToRead 58 = .ok (.aload_n 2, 1) := by decide +kernel
theorem dX0_waysToRead_59 : decode cX0_waysToRead 59 = .ok (.getfield 70, 3) := by decide +kernel
theorem dX0_waysToRead_62 : decode cX0_waysToRead 62 = .ok (.if_icmp .ge 109, 3) := by decide +kernel
theorem dX0_waysToRead_65 : decode cX0_waysToRead 65 = .ok (.aload_n 0, 1) := by decide +kernel
theorem dX0_waysToRead_66 : decode cX0_waysToRead 66 = .ok (.getfield 21, 3) := by decide +kernel
theorem dX0_waysToRead_69 : decode cX0_waysToRead 69 = .ok (.iload_n 3, 1) := by decide +kernel
theorem dX0_waysToRead_70 : decode cX0_waysToRead 70 = .ok (.iaload, 1) := by decide +kernel
theorem dX0_waysToRead_71 : decode cX0_waysToRead 71 = .ok (.ifCond .le 100, 3) := by decide +kernel
theorem dX0_waysToRead_74 : decode cX0_waysToRead 74 = .ok (.iload_n 3, 1) := by decide +kernel
theorem dX0_waysToRead_75 : decode cX0_waysToRead 75 = .ok (.aload_n 2, 1) := by decide +kernel
theorem dX0_waysToRead_76 : decode cX0_waysToRead 76 = .ok (.getfield 75, 3) := by decide +kernel
theorem dX0_waysToRead_79 : decode cX0_waysToRead 79 = .ok (.iload 4, 2) := by decide +kernel
theorem dX0_waysToRead_81 : decode cX0_waysToRead 81 = .ok (.iaload, 1) := by decide +kernel
theorem dX0_waysToRead_82 : decode cX0_waysToRead 82 = .ok (.isub, 1) := by decide +kernel
theorem dX0_waysToRead_83 : decode cX0_waysToRead 83 = .ok (.istore 5, 2) := by decide +kernel
theorem dX0_waysToRead_85 : decode cX0_waysToRead 85 = .ok (.iload 5, 2) := by decide +kernel
theorem dX0_waysToRead_87 : decode cX0_waysToRead 87 = .ok (.ifCond .lt 24, 3) := by decide +kernel
theorem dX0_waysToRead_90 : decode cX0_waysToRead 90 = .ok (.aload_n 0, 1) := by decide +kernel
theorem dX0_waysToRead_91 : decode cX0_waysToRead 91 = .ok (.iload 5, 2) := by decide +kernel
theorem dX0_waysToRead_93 : decode cX0_waysToRead 93 = .ok (.iload 4, 2) := by decide +kernel
theorem dX0_waysToRead_95 : decode cX0_waysToRead 95 = .ok (.invokevirtual 78, 3) := by decide +kernel
theorem dX0_waysToRead_98 : decode cX0_waysToRead 98 = .ok (.ifCond .eq 13, 3) := by decide +kernel
theorem dX0_waysToRead_101 : decode cX0_waysToRead 101 = .ok (.aload_n 0, 1) := by decide +kernel
theorem dX0_waysToRead_102 : decode cX0_waysToRead 102 = .ok (.getfield 18, 3) := by decide +kernel
theorem dX0_waysToRead_105 : decode cX0_waysToRead 105 = .ok (.iload 5, 2) := by decide +kernel
theorem dX0_waysToRead_107 : decode cX0_waysToRead 107 = .ok (.iaload, 1) := by decide +kernel
theorem dX0_waysToRead_108 : decode cX0_waysToRead 108 = .ok (.goto 4, 3) := by decide +kernel
theorem dX0_waysToRead_111 : decode cX0_waysToRead 111 = .ok (.iconst 0, 1) := by decide +kernel
theorem dX0_waysToRead_112 : decode cX0_waysToRead 112 = .ok (.istore 6, 2) := by decide +kernel
theorem dX0_waysToRead_114 : decode cX0_waysToRead 114 = .ok (.iconst 0, 1) := by decide +kernel
theorem dX0_waysToRead_115 : decode cX0_waysToRead 115 = .ok (.istore 7, 2) := by decide +kernel
theorem dX0_waysToRead_117 : decode cX0_waysToRead 117 = .ok (.iload 7, 2) := by decide +kernel
theorem dX0_waysToRead_119 : decode cX0_waysToRead 119 = .ok (.iload_n 3, 1) := by decide +kernel
theorem dX0_waysToRead_120 : decode cX0_waysToRead 120 = .ok (.if_icmp .ge 45, 3) := by decide +kernel
theorem dX0_waysToRead_123 : decode cX0_waysToRead 123 = .ok (.iload 6, 2) := by decide +kernel
theorem dX0_waysToRead_125 : decode cX0_waysToRead 125 = .ok (.iload 7, 2) := by decide +kernel
theorem dX0_waysToRead_127 : decode cX0_waysToRead 127 = .ok (.ishr, 1) := by decide +kernel
theorem dX0_waysToRead_128 : decode cX0_waysToRead 128 = .ok (.iconst 1, 1) := by decide +kernel
theorem dX0_waysToRead_129 : decode cX0_waysToRead 129 = .ok (.iand, 1) := by decide +kernel
theorem dX0_waysToRead_130 : decode cX0_waysToRead 130 = .ok (.ifCond .eq 29, 3) := by decide +kernel
theorem dX0_waysToRead_133 : decode cX0_waysToRead 133 = .ok (.aload_n 0, 1) := by decide +kernel
theorem dX0_waysToRead_134 : decode cX0_waysToRead 134 = .ok (.getfield 24, 3) := by decide +kernel
theorem dX0_waysToRead_137 : decode cX0_waysToRead 137 = .ok (.iload_n 3, 1) := by decide +kernel
theorem dX0_waysToRead_138 : decode cX0_waysToRead 138 = .ok (.iload 7, 2) := by decide +kernel
theorem dX0_waysToRead_140 : decode cX0_waysToRead 140 = .ok (.iconst 1, 1) := by decide +kernel
theorem dX0_waysToRead_141 : decode cX0_waysToRead 141 = .ok (.iadd, 1) := by decide +kernel
theorem dX0_waysToRead_142 : decode cX0_waysToRead 142 = .ok (.iload 4, 2) := by decide +kernel
theorem dX0_waysToRead_144 : decode cX0_waysToRead 144 = .ok (.invokestatic 82, 3) := by decide +kernel
theorem dX0_waysToRead_147 : decode cX0_waysToRead 147 = .ok (.aload_n 0, 1) := by decide +kernel
theorem dX0_waysToRead_148 : decode cX0_waysToRead 148 = .ok (.iload_n 3, 1) := by decide +kernel
theorem dX0_waysToRead_149 : decode cX0_waysToRead 149 = .ok (.iload 7, 2) := by decide +kernel
theorem dX0_waysToRead_151 : decode cX0_waysToRead 151 = .ok (.iconst 1, 1) := by decide +kernel
theorem dX0_waysToRead_152 : decode cX0_waysToRead 152 = .ok (.iadd, 1) := by decide +kernel
theorem dX0_waysToRead_153 : decode cX0_waysToRead 153 = .ok (.iload 4, 2) := by decide +kernel
theorem dX0_waysToRead_155 : decode cX0_waysToRead 155 = .ok (.invokevirtual 86, 3) := by decide +kernel
theorem dX0_waysToRead_158 : decode cX0_waysToRead 158 = .ok (.iastore, 1) := by decide +kernel
theorem dX0_waysToRead_159 : decode cX0_waysToRead 159 = .ok (.iinc 7 1, 3) := by decide +kernel
theorem dX0_waysToRead_162 : decode cX0_waysToRead 162 = .ok (.goto (-45), 3) := by decide +kernel
theorem dX0_waysToRead_165 : decode cX0_waysToRead 165 = .ok (.iinc 4 1, 3) := by decide +kernel
theorem dX0_waysToRead_168 : decode cX0_waysToRead 168 = .ok (.goto (-112), 3) := by decide +kernel
theorem dX0_waysToRead_171 : decode cX0_waysToRead 171 = .ok (.iinc 3 (-1), 3) := by decide +kernel
theorem dX0_waysToRead_174 : decode cX0_waysToRead 174 = .ok (.goto (-125), 3) := by decide +kernel
theorem dX0_waysToRead_177 : decode cX0_waysToRead 177 = .ok (.aload_n 0, 1) := by decide +kernel
theorem dX0_waysToRead_178 : decode cX0_waysToRead 178 = .ok (.iconst 0, 1) := by decide +kernel
theorem dX0_waysToRead_179 : decode cX0_waysToRead 179 = .ok (.iconst 0, 1) := by decide +kernel
theorem dX0_waysToRead_180 : decode cX0_waysToRead 180 = .ok (.iconst (-1), 1) := by decide +kernel
theorem dX0_waysToRead_181 : decode cX0_waysToRead 181 = .ok (.invokevirtual 86, 3) := by decide +kernel
theorem dX0_waysToRead_184 : decode cX0_waysToRead 184 = .ok (.ireturn, 1) := by decide +kernel
theorem dX0_waysBehind_0 : decode cX0_waysBehind 0 = .ok (.iload_n 1, 1) := by decide +kernel
theorem dX0_waysBehind_1 : decode cX0_waysBehind 1 = .ok (.aload_n 0, 1) := by decide +kernel
theorem dX0_waysBehind_2 : decode cX0_waysBehind 2 = .ok (.getfield 44, 3) := by decide +kernel
theorem dX0_waysBehind_5 : decode cX0_waysBehind 5 = .ok (.if_icmp .ne 5, 3) := by decide +kernel
theorem dX0_waysBehind_8 : decode cX0_waysBehind 8 = .ok (.iconst 1, 1) := by decide +kernel
theorem dX0_waysBehind_9 : decode cX0_waysBehind 9 = .ok (.ireturn, 1) := by decide +kernel
theorem dX0_waysBehind_10 : decode cX0_waysBehind 10 = .ok (.iconst 0, 1) := by decide +kernel
theorem dX0_waysBehind_11 : decode cX0_waysBehind 11 = .ok (.istore 4, 2) := by decide +kernel
theorem dX0_waysBehind_13 : decode cX0_waysBehind 13 = .ok (.iconst 0, 1) := by decide +kernel
theorem dX0_waysBehind_14 : decode cX0_waysBehind 14 = .ok (.istore 5, 2) := by decide +kernel
theorem dX0_waysBehind_16 : decode cX0_waysBehind 16 = .ok (.iload 5, 2) := by decide +kernel
theorem dX0_waysBehind_18 : decode cX0_waysBehind 18 = .ok (.aload_n 0, 1) := by decide +kernel
theorem dX0_waysBehind_19 : decode cX0_waysBehind 19 = .ok (.getfield 30, 3) := by decide +kernel
theorem dX0_waysBehind_22 : decode cX0_waysBehind 22 = .ok (.getfield 66, 3) := by decide +kernel
theorem dX0_waysBehind_25 : decode cX0_waysBehind 25 = .ok (.getfield 70, 3) := by decide +kernel
theorem dX0_waysBehind_28 : decode cX0_waysBehind 28 = .ok (.if_icmp .ge 94, 3) := by decide +kernel
theorem dX0_waysBehind_31 : decode cX0_waysBehind 31 = .ok (.iload_n 1, 1) := by decide +kernel
theorem dX0_waysBehind_32 : decode cX0_waysBehind 32 = .ok (.aload_n 0, 1) := by decide +kernel
theorem dX0_waysBehind_33 : decode cX0_waysBehind 33 = .ok (.getfield 30, 3) := by decide +kernel
theorem dX0_waysBehind_36 : decode cX0_waysBehind 36 = .ok (.getfield 66, 3) := by decide +kernel
theorem dX0_waysBehind_39 : decode cX0_waysBehind 39 = .ok (.getfield 75, 3) := by decide +kernel
theorem dX0_waysBehind_42 : decode cX0_waysBehind 42 = .ok (.iload 5, 2) := by decide +kernel
theorem dX0_waysBehind_44 : decode cX0_waysBehind 44 = .ok (.iaload, 1) := by decide +kernel
theorem dX0_waysBehind_45 : decode cX0_waysBehind 45 = .ok (.iadd, 1) := by decide +kernel
theorem dX0_waysBehind_46 : decode cX0_waysBehind 46 = .ok (.istore 6, 2) := by decide +kernel
theorem dX0_waysBehind_48 : decode cX0_waysBehind 48 = .ok (.aload_n 0, 1) := by decide +kernel
theorem dX0_waysBehind_49 : decode cX0_waysBehind 49 = .ok (.iload_n 1, 1) := by decide +kernel
theorem dX0_waysBehind_50 : decode cX0_waysBehind 50 = .ok (.iload 5, 2) := by decide +kernel
theorem dX0_waysBehind_52 : decode cX0_waysBehind 52 = .ok (.invokevirtual 78, 3) := by decide +kernel
theorem dX0_waysBehind_55 : decode cX0_waysBehind 55 = .ok (.ifCond .eq 61, 3) := by decide +kernel
theorem dX0_waysBehind_58 : decode cX0_waysBehind 58 = .ok (.aload_n 0, 1) := by decide +kernel
theorem dX0_waysBehind_59 : decode cX0_waysBehind 59 = .ok (.getfield 21, 3) := by decide +kernel
theorem dX0_waysBehind_62 : decode cX0_waysBehind 62 = .ok (.iload 6, 2) := by decide +kernel
theorem dX0_waysBehind_64 : decode cX0_waysBehind 64 = .ok (.iaload, 1) := by decide +kernel
theorem dX0_waysBehind_65 : decode cX0_waysBehind 65 = .ok (.ifCond .le 51, 3) := by decide +kernel
theorem dX0_waysBehind_68 : decode cX0_waysBehind 68 = .ok (.aload_n 0, 1) := by decide +kernel
theorem dX0_waysBehind_69 : decode cX0_waysBehind 69 = .ok (.getfield 24, 3) := by decide +kernel
theorem dX0_waysBehind_72 : decode cX0_waysBehind 72 = .ok (.iload 6, 2) := by decide +kernel
theorem dX0_waysBehind_74 : decode cX0_waysBehind 74 = .ok (.iload_n 2, 1) := by decide +kernel
theorem dX0_waysBehind_75 : decode cX0_waysBehind 75 = .ok (.iconst 1, 1) := by decide +kernel
theorem dX0_waysBehind_76 : decode cX0_waysBehind 76 = .ok (.iadd, 1) := by decide +kernel
theorem dX0_waysBehind_77 : decode cX0_waysBehind 77 = .ok (.iload 5, 2) := by decide +kernel
theorem dX0_waysBehind_79 : decode cX0_waysBehind 79 = .ok (.invokestatic 82, 3) := by decide +kernel
theorem dX0_waysBehind_82 : decode cX0_waysBehind 82 = .ok (.iaload, 1) := by decide +kernel
theorem dX0_waysBehind_83 : decode cX0_waysBehind 83 = .ok (.istore 7, 2) := by decide +kernel
theorem dX0_waysBehind_85 : decode cX0_waysBehind 85 = .ok (.iload 7, 2) := by decide +kernel
theorem dX0_waysBehind_87 : decode cX0_waysBehind 87 = .ok (.ifCond .le 29, 3) := by decide +kernel
theorem dX0_waysBehind_90 : decode cX0_waysBehind 90 = .ok (.aload_n 0, 1) := by decide +kernel
theorem dX0_waysBehind_91 : decode cX0_waysBehind 91 = .ok (.getfield 34, 3) := by decide +kernel
theorem dX0_waysBehind_94 : decode cX0_waysBehind 94 = .ok (.iload_n 3, 1) := by decide +kernel
theorem dX0_waysBehind_95 : decode cX0_waysBehind 95 = .ok (.iload 5, 2) := by decide +kernel
theorem dX0_waysBehind_97 : decode cX0_waysBehind 97 = .ok (.iload_n 2, 1) := by decide +kernel
theorem dX0_waysBehind_98 : decode cX0_waysBehind 98 = .ok (.invokevirtual 89, 3) := by decide +kernel
theorem dX0_waysBehind_101 : decode cX0_waysBehind 101 = .ok (.ifCond .eq 15, 3) := by decide +kernel
theorem dX0_waysBehind_104 : decode cX0_waysBehind 104 = .ok (.ldc 93, 2) := by decide +kernel
theorem dX0_waysBehind_106 : decode cX0_waysBehind 106 = .ok (.iload 4, 2) := by decide +kernel
theorem dX0_waysBehind_108 : decode cX0_waysBehind 108 = .ok (.iload 7, 2) := by decide +kernel
theorem dX0_waysBehind_110 : decode cX0_waysBehind 110 = .ok (.iadd, 1) := by decide +kernel
theorem dX0_waysBehind_111 : decode cX0_waysBehind 111 = .ok (.invokestatic 94, 3) := by decide +kernel
theorem dX0_waysBehind_114 : decode cX0_waysBehind 114 = .ok (.istore 4, 2) := by decide +kernel
theorem dX0_waysBehind_116 : decode cX0_waysBehind 116 = .ok (.iinc 5 1, 3) := by decide +kernel
theorem dX0_waysBehind_119 : decode cX0_waysBehind 119 = .ok (.goto (-103), 3) := by decide +kernel
theorem dX0_waysBehind_122 : decode cX0_waysBehind 122 = .ok (.iload 4, 2) := by decide +kernel
theorem dX0_waysBehind_124 : decode cX0_waysBehind 124 = .ok (.ireturn, 1) := by decide +kernel
theorem dX0_cell_0 : decode cX0_cell 0 = .ok (.iload_n 0, 1) := by decide +kernel
theorem dX0_cell_1 : decode cX0_cell 1 = .ok (.bipush 25, 2) := by decide +kernel
theorem dX0_cell_3 : decode cX0_cell 3 = .ok (.imul, 1) := by decide +kernel
theorem dX0_cell_4 : decode cX0_cell 4 = .ok (.iload_n 1, 1) := by decide +kernel
theorem dX0_cell_5 : decode cX0_cell 5 = .ok (.iadd, 1) := by decide +kernel
theorem dX0_cell_6 : decode cX0_cell 6 = .ok (.bipush 10, 2) := by decide +kernel
theorem dX0_cell_8 : decode cX0_cell 8 = .ok (.imul, 1) := by decide +kernel
theorem dX0_cell_9 : decode cX0_cell 9 = .ok (.iload_n 2, 1) := by decide +kernel
theorem dX0_cell_10 : decode cX0_cell 10 = .ok (.iadd, 1) := by decide +kernel
theorem dX0_cell_11 : decode cX0_cell 11 = .ok (.ireturn, 1) := by decide +kernel
theorem dX0_fitsAt_0 : decode cX0_fitsAt 0 = .ok (.aload_n 0, 1) := by decide +kernel
theorem dX0_fitsAt_1 : decode cX0_fitsAt 1 = .ok (.getfield 15, 3) := by decide +kernel
theorem dX0_fitsAt_4 : decode cX0_fitsAt 4 = .ok (.iload_n 1, 1) := by decide +kernel
theorem dX0_fitsAt_5 : decode cX0_fitsAt 5 = .ok (.iaload, 1) := by decide +kernel
theorem dX0_fitsAt_6 : decode cX0_fitsAt 6 = .ok (.iload_n 2, 1) := by decide +kernel
theorem dX0_fitsAt_7 : decode cX0_fitsAt 7 = .ok (.ishr, 1) := by decide +kernel
theorem dX0_fitsAt_8 : decode cX0_fitsAt 8 = .ok (.iconst 1, 1) := by decide +kernel
theorem dX0_fitsAt_9 : decode cX0_fitsAt 9 = .ok (.iand, 1) := by decide +kernel
theorem dX0_fitsAt_10 : decode cX0_fitsAt 10 = .ok (.ifCond .eq 7, 3) := by decide +kernel
theorem dX0_fitsAt_13 : decode cX0_fitsAt 13 = .ok (.iconst 1, 1) := by decide +kernel
theorem dX0_fitsAt_14 : decode cX0_fitsAt 14 = .ok (.goto 4, 3) := by decide +kernel
theorem dX0_fitsAt_17 : decode cX0_fitsAt 17 = .ok (.iconst 0, 1) := by decide +kernel
theorem dX0_fitsAt_18 : decode cX0_fitsAt 18 = .ok (.ireturn, 1) := by decide +kernel
theorem dX0_layWords_0 : decode cX0_layWords 0 = .ok (.aload_n 0, 1) := by decide +kernel
theorem dX0_layWords_1 : decode cX0_layWords 1 = .ok (.getfield 30, 3) := by decide +kernel
theorem dX0_layWords_4 : decode cX0_layWords 4 = .ok (.getfield 66, 3) := by decide +kernel
theorem dX0_layWords_7 : decode cX0_layWords 7 = .ok (.astore_n 1, 1) := by decide +kernel
theorem dX0_layWords_8 : decode cX0_layWords 8 = .ok (.aload_n 0, 1) := by decide +kernel
theorem dX0_layWords_9 : decode cX0_layWords 9 = .ok (.getfield 18, 3) := by decide +kernel
theorem dX0_layWords_12 : decode cX0_layWords 12 = .ok (.iconst 0, 1) := by decide +kernel
theorem dX0_layWords_13 : decode cX0_layWords 13 = .ok (.invokestatic 100, 3) := by decide +kernel
theorem dX0_layWords_16 : decode cX0_layWords 16 = .ok (.aload_n 0, 1) := by decide +kernel
theorem dX0_layWords_17 : decode cX0_layWords 17 = .ok (.getfield 18, 3) := by decide +kernel
theorem dX0_layWords_20 : decode cX0_layWords 20 = .ok (.iconst 0, 1) := by decide +kernel
theorem dX0_layWords_21 : decode cX0_layWords 21 = .ok (.iconst 1, 1) := by decide +kernel
theorem dX0_layWords_22 : decode cX0_layWords 22 = .ok (.iastore, 1) := by decide +kernel
theorem dX0_layWords_23 : decode cX0_layWords 23 = .ok (.iconst 0, 1) := by decide +kernel
theorem dX0_layWords_24 : decode cX0_layWords 24 = .ok (.istore_n 2, 1) := by decide +kernel
theorem dX0_layWords_25 : decode cX0_layWords 25 = .ok (.iload_n 2, 1) := by decide +kernel
theorem dX0_layWords_26 : decode cX0_layWords 26 = .ok (.aload_n 0, 1) := by decide +kernel
theorem dX0_layWords_27 : decode cX0_layWords 27 = .ok (.getfield 44, 3) := by decide +kernel
theorem dX0_layWords_30 : decode cX0_layWords 30 = .ok (.if_icmp .gt 77, 3) := by decide +kernel
theorem dX0_layWords_33 : decode cX0_layWords 33 = .ok (.aload_n 0, 1) := by decide +kernel
theorem dX0_layWords_34 : decode cX0_layWords 34 = .ok (.getfield 15, 3) := by decide +kernel
theorem dX0_layWords_37 : decode cX0_layWords 37 = .ok (.iload_n 2, 1) := by decide +kernel
theorem dX0_layWords_38 : decode cX0_layWords 38 = .ok (.iconst 0, 1) := by decide +kernel
theorem dX0_layWords_39 : decode cX0_layWords 39 = .ok (.iastore, 1) := by decide +kernel
theorem dX0_layWords_40 : decode cX0_layWords 40 = .ok (.iconst 0, 1) := by decide +kernel
theorem dX0_layWords_41 : decode cX0_layWords 41 = .ok (.istore_n 3, 1) := by decide +kernel
theorem dX0_layWords_42 : decode cX0_layWords 42 = .ok (.iload_n 3, 1) := by decide +kernel
theorem dX0_layWords_43 : decode cX0_layWords 43 = .ok (.aload_n 1, 1) := by decide +kernel
theorem dX0_layWords_44 : decode cX0_layWords 44 = .ok (.getfield 70, 3) := by decide +kernel
theorem dX0_layWords_47 : decode cX0_layWords 47 = .ok (.if_icmp .ge 54, 3) := by decide +kernel
theorem dX0_layWords_50 : decode cX0_layWords 50 = .ok (.aload_n 0, 1) := by decide +kernel
theorem dX0_layWords_51 : decode cX0_layWords 51 = .ok (.iload_n 3, 1) := by decide +kernel
theorem dX0_layWords_52 : decode cX0_layWords 52 = .ok (.iload_n 2, 1) := by decide +kernel
theorem dX0_layWords_53 : decode cX0_layWords 53 = .ok (.invokevirtual 106, 3) := by decide +kernel
theorem dX0_layWords_56 : decode cX0_layWords 56 = .ok (.ifCond .eq 39, 3) := by decide +kernel
theorem dX0_layWords_59 : decode cX0_layWords 59 = .ok (.aload_n 0, 1) := by decide +kernel
theorem dX0_layWords_60 : decode cX0_layWords 60 = .ok (.getfield 15, 3) := by decide +kernel
theorem dX0_layWords_63 : decode cX0_layWords 63 = .ok (.iload_n 2, 1) := by decide +kernel
theorem dX0_layWords_64 : decode cX0_layWords 64 = .ok (.dup2, 1) := by decide +kernel
theorem dX0_layWords_65 : decode cX0_layWords 65 = .ok (.iaload, 1) := by decide +kernel
theorem dX0_layWords_66 : decode cX0_layWords 66 = .ok (.iconst 1, 1) := by decide +kernel
theorem dX0_layWords_67 : decode cX0_layWords 67 = .ok (.iload_n 3, 1) := by decide +kernel
theorem dX0_layWords_68 : decode cX0_layWords 68 = .ok (.ishl, 1) := by decide +kernel
theorem dX0_layWords_69 : decode cX0_layWords 69 = .ok (.ior, 1) := by decide +kernel
theorem dX0_layWords_70 : decode cX0_layWords 70 = .ok (.iastore, 1) := by decide +kernel
theorem dX0_layWords_71 : decode cX0_layWords 71 = .ok (.aload_n 0, 1) := by decide +kernel
theorem dX0_layWords_72 : decode cX0_layWords 72 = .ok (.getfield 18, 3) := by decide +kernel
theorem dX0_layWords_75 : decode cX0_layWords 75 = .ok (.iload_n 2, 1) := by decide +kernel
theorem dX0_layWords_76 : decode cX0_layWords 76 = .ok (.aload_n 1, 1) := by decide +kernel
theorem dX0_layWords_77 : decode cX0_layWords 77 = .ok (.getfield 75, 3) := by decide +kernel
theorem dX0_layWords_80 : decode cX0_layWords 80 = .ok (.iload_n 3, 1) := by decide +kernel
theorem dX0_layWords_81 : decode cX0_layWords 81 = .ok (.iaload, 1) := by decide +kernel
theorem dX0_layWords_82 : decode cX0_layWords 82 = .ok (.iadd, 1) := by decide +kernel
theorem dX0_layWords_83 : decode cX0_layWords 83 = .ok (.dup2, 1) := by decide +kernel
theorem dX0_layWords_84 : decode cX0_layWords 84 = .ok (.iaload, 1) := by decide +kernel
theorem dX0_layWords_85 : decode cX0_layWords 85 = .ok (.aload_n 0, 1) := by decide +kernel
theorem dX0_layWords_86 : decode cX0_layWords 86 = .ok (.getfield 18, 3) := by decide +kernel
theorem dX0_layWords_89 : decode cX0_layWords 89 = .ok (.iload_n 2, 1) := by decide +kernel
theorem dX0_layWords_90 : decode cX0_layWords 90 = .ok (.iaload, 1) := by decide +kernel
theorem dX0_layWords_91 : decode cX0_layWords 91 = .ok (.iconst 1, 1) := by decide +kernel
theorem dX0_layWords_92 : decode cX0_layWords 92 = .ok (.ishl, 1) := by decide +kernel
theorem dX0_layWords_93 : decode cX0_layWords 93 = .ok (.ior, 1) := by decide +kernel
theorem dX0_layWords_94 : decode cX0_layWords 94 = .ok (.iastore, 1) := by decide +kernel
theorem dX0_layWords_95 : decode cX0_layWords 95 = .ok (.iinc 3 1, 3) := by decide +kernel
theorem dX0_layWords_98 : decode cX0_layWords 98 = .ok (.goto (-56), 3) := by decide +kernel
theorem dX0_layWords_101 : decode cX0_layWords 101 = .ok (.iinc 2 1, 3) := by decide +kernel
theorem dX0_layWords_104 : decode cX0_layWords 104 = .ok (.goto (-79), 3) := by decide +kernel
theorem dX0_layWords_107 : decode cX0_layWords 107 = .ok (.aload_n 0, 1) := by decide +kernel
theorem dX0_layWords_108 : decode cX0_layWords 108 = .ok (.getfield 21, 3) := by decide +kernel
theorem dX0_layWords_111 : decode cX0_layWords 111 = .ok (.aload_n 0, 1) := by decide +kernel
theorem dX0_layWords_112 : decode cX0_layWords 112 = .ok (.getfield 44, 3) := by decide +kernel
theorem dX0_layWords_115 : decode cX0_layWords 115 = .ok (.iconst 1, 1) := by decide +kernel
theorem dX0_layWords_116 : decode cX0_layWords 116 = .ok (.iastore, 1) := by decide +kernel
theorem dX0_layWords_117 : decode cX0_layWords 117 = .ok (.aload_n 0, 1) := by decide +kernel
theorem dX0_layWords_118 : decode cX0_layWords 118 = .ok (.getfield 44, 3) := by decide +kernel
theorem dX0_layWords_121 : decode cX0_layWords 121 = .ok (.iconst 1, 1) := by decide +kernel
theorem dX0_layWords_122 : decode cX0_layWords 122 = .ok (.isub, 1) := by decide +kernel
theorem dX0_layWords_123 : decode cX0_layWords 123 = .ok (.istore_n 2, 1) := by decide +kernel
theorem dX0_layWords_124 : decode cX0_layWords 124 = .ok (.iload_n 2, 1) := by decide +kernel
theorem dX0_layWords_125 : decode cX0_layWords 125 = .ok (.ifCond .lt 76, 3) := by decide +kernel
theorem dX0_layWords_128 : decode cX0_layWords 128 = .ok (.aload_n 0, 1) := by decide +kernel
theorem dX0_layWords_129 : decode cX0_layWords 129 = .ok (.getfield 21, 3) := by decide +kernel
theorem dX0_layWords_132 : decode cX0_layWords 132 = .ok (.iload_n 2, 1) := by decide +kernel
theorem dX0_layWords_133 : decode cX0_layWords 133 = .ok (.iconst 0, 1) := by decide +kernel
theorem dX0_layWords_134 : decode cX0_layWords 134 = .ok (.iastore, 1) := by decide +kernel
theorem dX0_layWords_135 : decode cX0_layWords 135 = .ok (.iconst 0, 1) := by decide +kernel
theorem dX0_layWords_136 : decode cX0_layWords 136 = .ok (.istore_n 3, 1) := by decide +kernel
theorem dX0_layWords_137 : decode cX0_layWords 137 = .ok (.iload_n 3, 1) := by decide +kernel
theorem dX0_layWords_138 : decode cX0_layWords 138 = .ok (.aload_n 1, 1) := by decide +kernel
theorem dX0_layWords_139 : decode cX0_layWords 139 = .ok (.getfield 70, 3) := by decide +kernel
theorem dX0_layWords_142 : decode cX0_layWords 142 = .ok (.if_icmp .ge 53, 3) := by decide +kernel
theorem dX0_layWords_145 : decode cX0_layWords 145 = .ok (.aload_n 0, 1) := by decide +kernel
theorem dX0_layWords_146 : decode cX0_layWords 146 = .ok (.iload_n 2, 1) := by decide +kernel
theorem dX0_layWords_147 : decode cX0_layWords 147 = .ok (.iload_n 3, 1) := by decide +kernel
theorem dX0_layWords_148 : decode cX0_layWords 148 = .ok (.invokevirtual 78, 3) := by decide +kernel
theorem dX0_layWords_151 : decode cX0_layWords 151 = .ok (.ifCond .eq 38, 3) := by decide +kernel
theorem dX0_layWords_154 : decode cX0_layWords 154 = .ok (.aload_n 0, 1) := by decide +kernel
theorem dX0_layWords_155 : decode cX0_layWords 155 = .ok (.getfield 21, 3) := by decide +kernel
theorem dX0_layWords_158 : decode cX0_layWords 158 = .ok (.iload_n 2, 1) := by decide +kernel
theorem dX0_layWords_159 : decode cX0_layWords 159 = .ok (.aload_n 1, 1) := by decide +kernel
theorem dX0_layWords_160 : decode cX0_layWords 160 = .ok (.getfield 75, 3) := by decide +kernel
theorem dX0_layWords_163 : decode cX0_layWords 163 = .ok (.iload_n 3, 1) := by decide +kernel
theorem dX0_layWords_164 : decode cX0_layWords 164 = .ok (.iaload, 1) := by decide +kernel
theorem dX0_layWords_165 : decode cX0_layWords 165 = .ok (.iadd, 1) := by decide +kernel
theorem dX0_layWords_166 : decode cX0_layWords 166 = .ok (.iaload, 1) := by decide +kernel
theorem dX0_layWords_167 : decode cX0_layWords 167 = .ok (.istore 4, 2) := by decide +kernel
theorem dX0_layWords_169 : decode cX0_layWords 169 = .ok (.aload_n 0, 1) := by decide +kernel
theorem dX0_layWords_170 : decode cX0_layWords 170 = .ok (.getfield 21, 3) := by decide +kernel
theorem dX0_layWords_173 : decode cX0_layWords 173 = .ok (.iload_n 2, 1) := by decide +kernel
theorem dX0_layWords_174 : decode cX0_layWords 174 = .ok (.ldc 93, 2) := by decide +kernel
theorem dX0_layWords_176 : decode cX0_layWords 176 = .ok (.aload_n 0, 1) := by decide +kernel
theorem dX0_layWords_177 : decode cX0_layWords 177 = .ok (.getfield 21, 3) := by decide +kernel
theorem dX0_layWords_180 : decode cX0_layWords 180 = .ok (.iload_n 2, 1) := by decide +kernel
theorem dX0_layWords_181 : decode cX0_layWords 181 = .ok (.iaload, 1) := by decide +kernel
theorem dX0_layWords_182 : decode cX0_layWords 182 = .ok (.iload 4, 2) := by decide +kernel
theorem dX0_layWords_184 : decode cX0_layWords 184 = .ok (.iadd, 1) := by decide +kernel
theorem dX0_layWords_185 : decode cX0_layWords 185 = .ok (.invokestatic 94, 3) := by decide +kernel
theorem dX0_layWords_188 : decode cX0_layWords 188 = .ok (.iastore, 1) := by decide +kernel
theorem dX0_layWords_189 : decode cX0_layWords 189 = .ok (.iinc 3 1, 3) := by decide +kernel
theorem dX0_layWords_192 : decode cX0_layWords 192 = .ok (.goto (-55), 3) := by decide +kernel
theorem dX0_layWords_195 : decode cX0_layWords 195 = .ok (.iinc 2 (-1), 3) := by decide +kernel
theorem dX0_layWords_198 : decode cX0_layWords 198 = .ok (.goto (-74), 3) := by decide +kernel
theorem dX0_layWords_201 : decode cX0_layWords 201 = .ok (.return_, 1) := by decide +kernel
theorem dX0_stands_0 : decode cX0_stands 0 = .ok (.aload_n 0, 1) := by decide +kernel
theorem dX0_stands_1 : decode cX0_stands 1 = .ok (.getfield 30, 3) := by decide +kernel
theorem dX0_stands_4 : decode cX0_stands 4 = .ok (.getfield 66, 3) := by decide +kernel
theorem dX0_stands_7 : decode cX0_stands 7 = .ok (.getfield 75, 3) := by decide +kernel
theorem dX0_stands_10 : decode cX0_stands 10 = .ok (.iload_n 1, 1) := by decide +kernel
theorem dX0_stands_11 : decode cX0_stands 11 = .ok (.iaload, 1) := by decide +kernel
theorem dX0_stands_12 : decode cX0_stands 12 = .ok (.istore_n 3, 1) := by decide +kernel
theorem dX0_stands_13 : decode cX0_stands 13 = .ok (.iload_n 2, 1) := by decide +kernel
theorem dX0_stands_14 : decode cX0_stands 14 = .ok (.iload_n 3, 1) := by decide +kernel
theorem dX0_stands_15 : decode cX0_stands 15 = .ok (.iadd, 1) := by decide +kernel
theorem dX0_stands_16 : decode cX0_stands 16 = .ok (.aload_n 0, 1) := by decide +kernel
theorem dX0_stands_17 : decode cX0_stands 17 = .ok (.getfield 44, 3) := by decide +kernel
theorem dX0_stands_20 : decode cX0_stands 20 = .ok (.if_icmp .le 5, 3) := by decide +kernel
theorem dX0_stands_23 : decode cX0_stands 23 = .ok (.iconst 0, 1) := by decide +kernel
theorem dX0_stands_24 : decode cX0_stands 24 = .ok (.ireturn, 1) := by decide +kernel
theorem dX0_stands_25 : decode cX0_stands 25 = .ok (.iconst 0, 1) := by decide +kernel
theorem dX0_stands_26 : decode cX0_stands 26 = .ok (.istore 4, 2) := by decide +kernel
theorem dX0_stands_28 : decode cX0_stands 28 = .ok (.iload 4, 2) := by decide +kernel
theorem dX0_stands_30 : decode cX0_stands 30 = .ok (.iload_n 3, 1) := by decide +kernel
theorem dX0_stands_31 : decode cX0_stands 31 = .ok (.if_icmp .ge 36, 3) := by decide +kernel
theorem dX0_stands_34 : decode cX0_stands 34 = .ok (.aload_n 0, 1) := by decide +kernel
theorem dX0_stands_35 : decode cX0_stands 35 = .ok (.getfield 9, 3) := by decide +kernel
theorem dX0_stands_38 : decode cX0_stands 38 = .ok (.iload_n 2, 1) := by decide +kernel
theorem dX0_stands_39 : decode cX0_stands 39 = .ok (.iload 4, 2) := by decide +kernel
theorem dX0_stands_41 : decode cX0_stands 41 = .ok (.iadd, 1) := by decide +kernel
theorem dX0_stands_42 : decode cX0_stands 42 = .ok (.iaload, 1) := by decide +kernel
theorem dX0_stands_43 : decode cX0_stands 43 = .ok (.aload_n 0, 1) := by decide +kernel
theorem dX0_stands_44 : decode cX0_stands 44 = .ok (.getfield 30, 3) := by decide +kernel
theorem dX0_stands_47 : decode cX0_stands 47 = .ok (.getfield 66, 3) := by decide +kernel
theorem dX0_stands_50 : decode cX0_stands 50 = .ok (.iload_n 1, 1) := by decide +kernel
theorem dX0_stands_51 : decode cX0_stands 51 = .ok (.iload 4, 2) := by decide +kernel
theorem dX0_stands_53 : decode cX0_stands 53 = .ok (.invokevirtual 109, 3) := by decide +kernel
theorem dX0_stands_56 : decode cX0_stands 56 = .ok (.if_icmp .eq 5, 3) := by decide +kernel
theorem dX0_stands_59 : decode cX0_stands 59 = .ok (.iconst 0, 1) := by decide +kernel
theorem dX0_stands_60 : decode cX0_stands 60 = .ok (.ireturn, 1) := by decide +kernel
theorem dX0_stands_61 : decode cX0_stands 61 = .ok (.iinc 4 1, 3) := by decide +kernel
theorem dX0_stands_64 : decode cX0_stands 64 = .ok (.goto (-36), 3) := by decide +kernel
theorem dX0_stands_67 : decode cX0_stands 67 = .ok (.iconst 1, 1) := by decide +kernel
theorem dX0_stands_68 : decode cX0_stands 68 = .ok (.ireturn, 1) := by decide +kernel
theorem dX0_firstReading_0 : decode cX0_firstReading 0 = .ok (.iload_n 2, 1) := by decide +kernel
theorem dX0_firstReading_1 : decode cX0_firstReading 1 = .ok (.iconst (-1), 1) := by decide +kernel
theorem dX0_firstReading_2 : decode cX0_firstReading 2 = .ok (.if_icmp .lt 11, 3) := by decide +kernel
theorem dX0_firstReading_5 : decode cX0_firstReading 5 = .ok (.aload_n 0, 1) := by decide +kernel
theorem dX0_firstReading_6 : decode cX0_firstReading 6 = .ok (.iload_n 1, 1) := by decide +kernel
theorem dX0_firstReading_7 : decode cX0_firstReading 7 = .ok (.invokevirtual 112, 3) := by decide +kernel
theorem dX0_firstReading_10 : decode cX0_firstReading 10 = .ok (.ifCond .ne 6, 3) := by decide +kernel
theorem dX0_firstReading_13 : decode cX0_firstReading 13 = .ok (.bipush (-2), 2) := by decide +kernel
theorem dX0_firstReading_15 : decode cX0_firstReading 15 = .ok (.ireturn, 1) := by decide +kernel
theorem dX0_firstReading_16 : decode cX0_firstReading 16 = .ok (.iload_n 1, 1) := by decide +kernel
theorem dX0_firstReading_17 : decode cX0_firstReading 17 = .ok (.ifCond .eq 17, 3) := by decide +kernel
theorem dX0_firstReading_20 : decode cX0_firstReading 20 = .ok (.aload_n 0, 1) := by decide +kernel
theorem dX0_firstReading_21 : decode cX0_firstReading 21 = .ok (.getfield 34, 3) := by decide +kernel
theorem dX0_firstReading_24 : decode cX0_firstReading 24 = .ok (.invokevirtual 60, 3) := by decide +kernel
theorem dX0_firstReading_27 : decode cX0_firstReading 27 = .ok (.ifCond .eq 7, 3) := by decide +kernel
theorem dX0_firstReading_30 : decode cX0_firstReading 30 = .ok (.iconst 1, 1) := by decide +kernel
theorem dX0_firstReading_31 : decode cX0_firstReading 31 = .ok (.goto 4, 3) := by decide +kernel
theorem dX0_firstReading_34 : decode cX0_firstReading 34 = .ok (.iconst 0, 1) := by decide +kernel
theorem dX0_firstReading_35 : decode cX0_firstReading 35 = .ok (.istore_n 3, 1) := by decide +kernel
theorem dX0_firstReading_36 : decode cX0_firstReading 36 = .ok (.iconst 0, 1) := by decide +kernel
theorem dX0_firstReading_37 : decode cX0_firstReading 37 = .ok (.istore 4, 2) := by decide +kernel
theorem dX0_firstReading_39 : decode cX0_firstReading 39 = .ok (.iconst (-1), 1) := by decide +kernel
theorem dX0_firstReading_40 : decode cX0_firstReading 40 = .ok (.istore 5, 2) := by decide +kernel
theorem dX0_firstReading_42 : decode cX0_firstReading 42 = .ok (.iconst 0, 1) := by decide +kernel
theorem dX0_firstReading_43 : decode cX0_firstReading 43 = .ok (.istore 6, 2) := by decide +kernel
theorem dX0_firstReading_45 : decode cX0_firstReading 45 = .ok (.iload 6, 2) := by decide +kernel
theorem dX0_firstReading_47 : decode cX0_firstReading 47 = .ok (.bipush 24, 2) := by decide +kernel
theorem dX0_firstReading_49 : decode cX0_firstReading 49 = .ok (.if_icmp .ge 67, 3) := by decide +kernel
theorem dX0_firstReading_52 : decode cX0_firstReading 52 = .ok (.iload 4, 2) := by decide +kernel
theorem dX0_firstReading_54 : decode cX0_firstReading 54 = .ok (.aload_n 0, 1) := by decide +kernel
theorem dX0_firstReading_55 : decode cX0_firstReading 55 = .ok (.getfield 44, 3) := by decide +kernel
theorem dX0_firstReading_58 : decode cX0_firstReading 58 = .ok (.if_icmp .ge 58, 3) := by decide +kernel
theorem dX0_firstReading_61 : decode cX0_firstReading 61 = .ok (.aload_n 0, 1) := by decide +kernel
theorem dX0_firstReading_62 : decode cX0_firstReading 62 = .ok (.iload_n 3, 1) := by decide +kernel
theorem dX0_firstReading_63 : decode cX0_firstReading 63 = .ok (.iload 4, 2) := by decide +kernel
theorem dX0_firstReading_65 : decode cX0_firstReading 65 = .ok (.iload 6, 2) := by decide +kernel
theorem dX0_firstReading_67 : decode cX0_firstReading 67 = .ok (.iload 5, 2) := by decide +kernel
theorem dX0_firstReading_69 : decode cX0_firstReading 69 = .ok (.invokevirtual 116, 3) := by decide +kernel
theorem dX0_firstReading_72 : decode cX0_firstReading 72 = .ok (.istore 5, 2) := by decide +kernel
theorem dX0_firstReading_74 : decode cX0_firstReading 74 = .ok (.iload 5, 2) := by decide +kernel
theorem dX0_firstReading_76 : decode cX0_firstReading 76 = .ok (.iconst (-1), 1) := by decide +kernel
theorem dX0_firstReading_77 : decode cX0_firstReading 77 = .ok (.if_icmp .ne 6, 3) := by decide +kernel
theorem dX0_firstReading_80 : decode cX0_firstReading 80 = .ok (.bipush (-2), 2) := by decide +kernel
theorem dX0_firstReading_82 : decode cX0_firstReading 82 = .ok (.ireturn, 1) := by decide +kernel
theorem dX0_firstReading_83 : decode cX0_firstReading 83 = .ok (.iload 6, 2) := by decide +kernel
theorem dX0_firstReading_85 : decode cX0_firstReading 85 = .ok (.iload_n 2, 1) := by decide +kernel
theorem dX0_firstReading_86 : decode cX0_firstReading 86 = .ok (.if_icmp .ne 6, 3) := by decide +kernel
theorem dX0_firstReading_89 : decode cX0_firstReading 89 = .ok (.iload 5, 2) := by decide +kernel
theorem dX0_firstReading_91 : decode cX0_firstReading 91 = .ok (.ireturn, 1) := by decide +kernel
theorem dX0_firstReading_92 : decode cX0_firstReading 92 = .ok (.iload 4, 2) := by decide +kernel
theorem dX0_firstReading_94 : decode cX0_firstReading 94 = .ok (.aload_n 0, 1) := by decide +kernel
theorem dX0_firstReading_95 : decode cX0_firstReading 95 = .ok (.getfield 30, 3) := by decide +kernel
theorem dX0_firstReading_98 : decode cX0_firstReading 98 = .ok (.getfield 66, 3) := by decide +kernel
theorem dX0_firstReading_101 : decode cX0_firstReading 101 = .ok (.getfield 75, 3) := by decide +kernel
theorem dX0_firstReading_104 : decode cX0_firstReading 104 = .ok (.iload 5, 2) := by decide +kernel
theorem dX0_firstReading_106 : decode cX0_firstReading 106 = .ok (.iaload, 1) := by decide +kernel
theorem dX0_firstReading_107 : decode cX0_firstReading 107 = .ok (.iadd, 1) := by decide +kernel
theorem dX0_firstReading_108 : decode cX0_firstReading 108 = .ok (.istore 4, 2) := by decide +kernel
theorem dX0_firstReading_110 : decode cX0_firstReading 110 = .ok (.iinc 6 1, 3) := by decide +kernel
theorem dX0_firstReading_113 : decode cX0_firstReading 113 = .ok (.goto (-68), 3) := by decide +kernel
theorem dX0_firstReading_116 : decode cX0_firstReading 116 = .ok (.iload_n 2, 1) := by decide +kernel
theorem dX0_firstReading_117 : decode cX0_firstReading 117 = .ok (.iconst (-1), 1) := by decide +kernel
theorem dX0_firstReading_118 : decode cX0_firstReading 118 = .ok (.if_icmp .ne 8, 3) := by decide +kernel
theorem dX0_firstReading_121 : decode cX0_firstReading 121 = .ok (.iload 6, 2) := by decide +kernel
theorem dX0_firstReading_123 : decode cX0_firstReading 123 = .ok (.goto 5, 3) := by decide +kernel
theorem dX0_firstReading_126 : decode cX0_firstReading 126 = .ok (.bipush (-2), 2) := by decide +kernel
theorem dX0_firstReading_128 : decode cX0_firstReading 128 = .ok (.ireturn, 1) := by decide +kernel
theorem dX0_lowestAt_0 : decode cX0_lowestAt 0 = .ok (.iconst 0, 1) := by decide +kernel
theorem dX0_lowestAt_1 : decode cX0_lowestAt 1 = .ok (.istore 5, 2) := by decide +kernel
theorem dX0_lowestAt_3 : decode cX0_lowestAt 3 = .ok (.iload 5, 2) := by decide +kernel
theorem dX0_lowestAt_5 : decode cX0_lowestAt 5 = .ok (.aload_n 0, 1) := by decide +kernel
theorem dX0_lowestAt_6 : decode cX0_lowestAt 6 = .ok (.getfield 30, 3) := by decide +kernel
theorem dX0_lowestAt_9 : decode cX0_lowestAt 9 = .ok (.getfield 66, 3) := by decide +kernel
theorem dX0_lowestAt_12 : decode cX0_lowestAt 12 = .ok (.getfield 70, 3) := by decide +kernel
theorem dX0_lowestAt_15 : decode cX0_lowestAt 15 = .ok (.if_icmp .ge 110, 3) := by decide +kernel
theorem dX0_lowestAt_18 : decode cX0_lowestAt 18 = .ok (.iload_n 2, 1) := by decide +kernel
theorem dX0_lowestAt_19 : decode cX0_lowestAt 19 = .ok (.aload_n 0, 1) := by decide +kernel
theorem dX0_lowestAt_20 : decode cX0_lowestAt 20 = .ok (.getfield 30, 3) := by decide +kernel
theorem dX0_lowestAt_23 : decode cX0_lowestAt 23 = .ok (.getfield 66, 3) := by decide +kernel
theorem dX0_lowestAt_26 : decode cX0_lowestAt 26 = .ok (.getfield 75, 3) := by decide +kernel
theorem dX0_lowestAt_29 : decode cX0_lowestAt 29 = .ok (.iload 5, 2) := by decide +kernel
theorem dX0_lowestAt_31 : decode cX0_lowestAt 31 = .ok (.iaload, 1) := by decide +kernel
theorem dX0_lowestAt_32 : decode cX0_lowestAt 32 = .ok (.iadd, 1) := by decide +kernel
theorem dX0_lowestAt_33 : decode cX0_lowestAt 33 = .ok (.istore 6, 2) := by decide +kernel
theorem dX0_lowestAt_35 : decode cX0_lowestAt 35 = .ok (.aload_n 0, 1) := by decide +kernel
theorem dX0_lowestAt_36 : decode cX0_lowestAt 36 = .ok (.iload_n 2, 1) := by decide +kernel
theorem dX0_lowestAt_37 : decode cX0_lowestAt 37 = .ok (.iload 5, 2) := by decide +kernel
theorem dX0_lowestAt_39 : decode cX0_lowestAt 39 = .ok (.invokevirtual 78, 3) := by decide +kernel
theorem dX0_lowestAt_42 : decode cX0_lowestAt 42 = .ok (.ifCond .eq 17, 3) := by decide +kernel
theorem dX0_lowestAt_45 : decode cX0_lowestAt 45 = .ok (.aload_n 0, 1) := by decide +kernel
theorem dX0_lowestAt_46 : decode cX0_lowestAt 46 = .ok (.getfield 21, 3) := by decide +kernel
theorem dX0_lowestAt_49 : decode cX0_lowestAt 49 = .ok (.iload 6, 2) := by decide +kernel
theorem dX0_lowestAt_51 : decode cX0_lowestAt 51 = .ok (.iaload, 1) := by decide +kernel
theorem dX0_lowestAt_52 : decode cX0_lowestAt 52 = .ok (.ifCond .le 7, 3) := by decide +kernel
theorem dX0_lowestAt_55 : decode cX0_lowestAt 55 = .ok (.iconst 1, 1) := by decide +kernel
theorem dX0_lowestAt_56 : decode cX0_lowestAt 56 = .ok (.goto 4, 3) := by decide +kernel
theorem dX0_lowestAt_59 : decode cX0_lowestAt 59 = .ok (.iconst 0, 1) := by decide +kernel
theorem dX0_lowestAt_60 : decode cX0_lowestAt 60 = .ok (.istore 7, 2) := by decide +kernel
theorem dX0_lowestAt_62 : decode cX0_lowestAt 62 = .ok (.iload 7, 2) := by decide +kernel
theorem dX0_lowestAt_64 : decode cX0_lowestAt 64 = .ok (.ifCond .eq 47, 3) := by decide +kernel
theorem dX0_lowestAt_67 : decode cX0_lowestAt 67 = .ok (.iload_n 1, 1) := by decide +kernel
theorem dX0_lowestAt_68 : decode cX0_lowestAt 68 = .ok (.ifCond .eq 43, 3) := by decide +kernel
theorem dX0_lowestAt_71 : decode cX0_lowestAt 71 = .ok (.aload_n 0, 1) := by decide +kernel
theorem dX0_lowestAt_72 : decode cX0_lowestAt 72 = .ok (.getfield 24, 3) := by decide +kernel
theorem dX0_lowestAt_75 : decode cX0_lowestAt 75 = .ok (.iload 6, 2) := by decide +kernel
theorem dX0_lowestAt_77 : decode cX0_lowestAt 77 = .ok (.iload_n 3, 1) := by decide +kernel
theorem dX0_lowestAt_78 : decode cX0_lowestAt 78 = .ok (.iconst 1, 1) := by decide +kernel
theorem dX0_lowestAt_79 : decode cX0_lowestAt 79 = .ok (.iadd, 1) := by decide +kernel
theorem dX0_lowestAt_80 : decode cX0_lowestAt 80 = .ok (.iload 5, 2) := by decide +kernel
theorem dX0_lowestAt_82 : decode cX0_lowestAt 82 = .ok (.invokestatic 82, 3) := by decide +kernel
theorem dX0_lowestAt_85 : decode cX0_lowestAt 85 = .ok (.iaload, 1) := by decide +kernel
theorem dX0_lowestAt_86 : decode cX0_lowestAt 86 = .ok (.ifCond .le 22, 3) := by decide +kernel
theorem dX0_lowestAt_89 : decode cX0_lowestAt 89 = .ok (.aload_n 0, 1) := by decide +kernel
theorem dX0_lowestAt_90 : decode cX0_lowestAt 90 = .ok (.getfield 34, 3) := by decide +kernel
theorem dX0_lowestAt_93 : decode cX0_lowestAt 93 = .ok (.iload 4, 2) := by decide +kernel
theorem dX0_lowestAt_95 : decode cX0_lowestAt 95 = .ok (.iload 5, 2) := by decide +kernel
theorem dX0_lowestAt_97 : decode cX0_lowestAt 97 = .ok (.iload_n 3, 1) := by decide +kernel
theorem dX0_lowestAt_98 : decode cX0_lowestAt 98 = .ok (.invokevirtual 89, 3) := by decide +kernel
theorem dX0_lowestAt_101 : decode cX0_lowestAt 101 = .ok (.ifCond .eq 7, 3) := by decide +kernel
theorem dX0_lowestAt_104 : decode cX0_lowestAt 104 = .ok (.iconst 1, 1) := by decide +kernel
theorem dX0_lowestAt_105 : decode cX0_lowestAt 105 = .ok (.goto 4, 3) := by decide +kernel
theorem dX0_lowestAt_108 : decode cX0_lowestAt 108 = .ok (.iconst 0, 1) := by decide +kernel
theorem dX0_lowestAt_109 : decode cX0_lowestAt 109 = .ok (.istore 7, 2) := by decide +kernel
theorem dX0_lowestAt_111 : decode cX0_lowestAt 111 = .ok (.iload 7, 2) := by decide +kernel
theorem dX0_lowestAt_113 : decode cX0_lowestAt 113 = .ok (.ifCond .eq 6, 3) := by decide +kernel
theorem dX0_lowestAt_116 : decode cX0_lowestAt 116 = .ok (.iload 5, 2) := by decide +kernel
theorem dX0_lowestAt_118 : decode cX0_lowestAt 118 = .ok (.ireturn, 1) := by decide +kernel
theorem dX0_lowestAt_119 : decode cX0_lowestAt 119 = .ok (.iinc 5 1, 3) := by decide +kernel
theorem dX0_lowestAt_122 : decode cX0_lowestAt 122 = .ok (.goto (-119), 3) := by decide +kernel
theorem dX0_lowestAt_125 : decode cX0_lowestAt 125 = .ok (.iconst (-1), 1) := by decide +kernel
theorem dX0_lowestAt_126 : decode cX0_lowestAt 126 = .ok (.ireturn, 1) := by decide +kernel
theorem dX0_likelihood_0 : decode cX0_likelihood 0 = .ok (.aload_n 0, 1) := by decide +kernel
theorem dX0_likelihood_1 : decode cX0_likelihood 1 = .ok (.getfield 30, 3) := by decide +kernel
theorem dX0_likelihood_4 : decode cX0_likelihood 4 = .ok (.getfield 66, 3) := by decide +kernel
theorem dX0_likelihood_7 : decode cX0_likelihood 7 = .ok (.getfield 75, 3) := by decide +kernel
theorem dX0_likelihood_10 : decode cX0_likelihood 10 = .ok (.iload_n 1, 1) := by decide +kernel
theorem dX0_likelihood_11 : decode cX0_likelihood 11 = .ok (.iaload, 1) := by decide +kernel
theorem dX0_likelihood_12 : decode cX0_likelihood 12 = .ok (.istore_n 3, 1) := by decide +kernel
theorem dX0_likelihood_13 : decode cX0_likelihood 13 = .ok (.aload_n 0, 1) := by decide +kernel
theorem dX0_likelihood_14 : decode cX0_likelihood 14 = .ok (.getfield 44, 3) := by decide +kernel
theorem dX0_likelihood_17 : decode cX0_likelihood 17 = .ok (.iload_n 3, 1) := by decide +kernel
theorem dX0_likelihood_18 : decode cX0_likelihood 18 = .ok (.if_icmp .le 5, 3) := by decide +kernel
theorem dX0_likelihood_21 : decode cX0_likelihood 21 = .ok (.lconst 0, 1) := by decide +kernel
theorem dX0_likelihood_22 : decode cX0_likelihood 22 = .ok (.lreturn, 1) := by decide +kernel
theorem dX0_likelihood_23 : decode cX0_likelihood 23 = .ok (.aload_n 0, 1) := by decide +kernel
theorem dX0_likelihood_24 : decode cX0_likelihood 24 = .ok (.iload_n 1, 1) := by decide +kernel
theorem dX0_likelihood_25 : decode cX0_likelihood 25 = .ok (.invokevirtual 120, 3) := by decide +kernel
theorem dX0_likelihood_28 : decode cX0_likelihood 28 = .ok (.i2l, 1) := by decide +kernel
theorem dX0_likelihood_29 : decode cX0_likelihood 29 = .ok (.lstore 4, 2) := by decide +kernel
theorem dX0_likelihood_31 : decode cX0_likelihood 31 = .ok (.iconst 0, 1) := by decide +kernel
theorem dX0_likelihood_32 : decode cX0_likelihood 32 = .ok (.istore 6, 2) := by decide +kernel
theorem dX0_likelihood_34 : decode cX0_likelihood 34 = .ok (.iload 6, 2) := by decide +kernel
theorem dX0_likelihood_36 : decode cX0_likelihood 36 = .ok (.iconst 4, 1) := by decide +kernel
theorem dX0_likelihood_37 : decode cX0_likelihood 37 = .ok (.if_icmp .ge 50, 3) := by decide +kernel
theorem dX0_likelihood_40 : decode cX0_likelihood 40 = .ok (.iload 6, 2) := by decide +kernel
