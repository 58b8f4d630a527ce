theorem dX11_init_0 : decode cX11_init 0 = .ok (.aload_n 0, 1) := by decide +kernel
theorem dX11_init_1 : decode cX11_init 1 = .ok (.invokespecial 1, 3) := by decide +kernel
theorem dX11_init_4 : decode cX11_init 4 = .ok (.aload_n 0, 1) := by decide +kernel
theorem dX11_init_5 : decode cX11_init 5 = .ok (.new 7, 3) := by decide +kernel
theorem dX11_init_8 : decode cX11_init 8 = .ok (.dup, 1) := by decide +kernel
theorem dX11_init_9 : decode cX11_init 9 = .ok (.invokespecial 9, 3) := by decide +kernel
theorem dX11_init_12 : decode cX11_init 12 = .ok (.putfield 10, 3) := by decide +kernel
theorem dX11_init_15 : decode cX11_init 15 = .ok (.aload_n 0, 1) := by decide +kernel
theorem dX11_init_16 : decode cX11_init 16 = .ok (.new 7, 3) := by decide +kernel
theorem dX11_init_19 : decode cX11_init 19 = .ok (.dup, 1) := by decide +kernel
theorem dX11_init_20 : decode cX11_init 20 = .ok (.invokespecial 9, 3) := by decide +kernel
theorem dX11_init_23 : decode cX11_init 23 = .ok (.putfield 16, 3) := by decide +kernel
theorem dX11_init_26 : decode cX11_init 26 = .ok (.aload_n 0, 1) := by decide +kernel
theorem dX11_init_27 : decode cX11_init 27 = .ok (.iconst 4, 1) := by decide +kernel
theorem dX11_init_28 : decode cX11_init 28 = .ok (.anewarray 19, 3) := by decide +kernel
theorem dX11_init_31 : decode cX11_init 31 = .ok (.putfield 21, 3) := by decide +kernel
theorem dX11_init_34 : decode cX11_init 34 = .ok (.aload_n 0, 1) := by decide +kernel
theorem dX11_init_35 : decode cX11_init 35 = .ok (.new 25, 3) := by decide +kernel
theorem dX11_init_38 : decode cX11_init 38 = .ok (.dup, 1) := by decide +kernel
theorem dX11_init_39 : decode cX11_init 39 = .ok (.invokespecial 27, 3) := by decide +kernel
theorem dX11_init_42 : decode cX11_init 42 = .ok (.putfield 28, 3) := by decide +kernel
theorem dX11_init_45 : decode cX11_init 45 = .ok (.aload_n 0, 1) := by decide +kernel
theorem dX11_init_46 : decode cX11_init 46 = .ok (.new 32, 3) := by decide +kernel
theorem dX11_init_49 : decode cX11_init 49 = .ok (.dup, 1) := by decide +kernel
theorem dX11_init_50 : decode cX11_init 50 = .ok (.aload_n 0, 1) := by decide +kernel
theorem dX11_init_51 : decode cX11_init 51 = .ok (.getfield 28, 3) := by decide +kernel
theorem dX11_init_54 : decode cX11_init 54 = .ok (.invokespecial 34, 3) := by decide +kernel
theorem dX11_init_57 : decode cX11_init 57 = .ok (.putfield 37, 3) := by decide +kernel
theorem dX11_init_60 : decode cX11_init 60 = .ok (.aload_n 0, 1) := by decide +kernel
theorem dX11_init_61 : decode cX11_init 61 = .ok (.new 41, 3) := by decide +kernel
theorem dX11_init_64 : decode cX11_init 64 = .ok (.dup, 1) := by decide +kernel
theorem dX11_init_65 : decode cX11_init 65 = .ok (.invokespecial 43, 3) := by decide +kernel
theorem dX11_init_68 : decode cX11_init 68 = .ok (.putfield 44, 3) := by decide +kernel
theorem dX11_init_71 : decode cX11_init 71 = .ok (.iconst 0, 1) := by decide +kernel
theorem dX11_init_72 : decode cX11_init 72 = .ok (.istore_n 1, 1) := by decide +kernel
theorem dX11_init_73 : decode cX11_init 73 = .ok (.iload_n 1, 1) := by decide +kernel
theorem dX11_init_74 : decode cX11_init 74 = .ok (.iconst 4, 1) := by decide +kernel
theorem dX11_init_75 : decode cX11_init 75 = .ok (.if_icmp .ge 22, 3) := by decide +kernel
theorem dX11_init_78 : decode cX11_init 78 = .ok (.aload_n 0, 1) := by decide +kernel
theorem dX11_init_79 : decode cX11_init 79 = .ok (.getfield 21, 3) := by decide +kernel
theorem dX11_init_82 : decode cX11_init 82 = .ok (.iload_n 1, 1) := by decide +kernel
theorem dX11_init_83 : decode cX11_init 83 = .ok (.new 19, 3) := by decide +kernel
theorem dX11_init_86 : decode cX11_init 86 = .ok (.dup, 1) := by decide +kernel
theorem dX11_init_87 : decode cX11_init 87 = .ok (.invokespecial 48, 3) := by decide +kernel
theorem dX11_init_90 : decode cX11_init 90 = .ok (.aastore, 1) := by decide +kernel
theorem dX11_init_91 : decode cX11_init 91 = .ok (.iinc 1 1, 3) := by decide +kernel
theorem dX11_init_94 : decode cX11_init 94 = .ok (.goto (-21), 3) := by decide +kernel
theorem dX11_init_97 : decode cX11_init 97 = .ok (.aload_n 0, 1) := by decide +kernel
theorem dX11_init_98 : decode cX11_init 98 = .ok (.new 49, 3) := by decide +kernel
theorem dX11_init_101 : decode cX11_init 101 = .ok (.dup, 1) := by decide +kernel
theorem dX11_init_102 : decode cX11_init 102 = .ok (.aload_n 0, 1) := by decide +kernel
theorem dX11_init_103 : decode cX11_init 103 = .ok (.getfield 10, 3) := by decide +kernel
theorem dX11_init_106 : decode cX11_init 106 = .ok (.aload_n 0, 1) := by decide +kernel
theorem dX11_init_107 : decode cX11_init 107 = .ok (.getfield 21, 3) := by decide +kernel
theorem dX11_init_110 : decode cX11_init 110 = .ok (.invokespecial 51, 3) := by decide +kernel
theorem dX11_init_113 : decode cX11_init 113 = .ok (.putfield 54, 3) := by decide +kernel
theorem dX11_init_116 : decode cX11_init 116 = .ok (.aload_n 0, 1) := by decide +kernel
theorem dX11_init_117 : decode cX11_init 117 = .ok (.new 58, 3) := by decide +kernel
theorem dX11_init_120 : decode cX11_init 120 = .ok (.dup, 1) := by decide +kernel
theorem dX11_init_121 : decode cX11_init 121 = .ok (.aload_n 0, 1) := by decide +kernel
theorem dX11_init_122 : decode cX11_init 122 = .ok (.getfield 10, 3) := by decide +kernel
theorem dX11_init_125 : decode cX11_init 125 = .ok (.aload_n 0, 1) := by decide +kernel
theorem dX11_init_126 : decode cX11_init 126 = .ok (.getfield 54, 3) := by decide +kernel
theorem dX11_init_129 : decode cX11_init 129 = .ok (.invokespecial 60, 3) := by decide +kernel
theorem dX11_init_132 : decode cX11_init 132 = .ok (.putfield 63, 3) := by decide +kernel
theorem dX11_init_135 : decode cX11_init 135 = .ok (.return_, 1) := by decide +kernel
theorem dX11_bell_0 : decode cX11_bell 0 = .ok (.aload_n 0, 1) := by decide +kernel
theorem dX11_bell_1 : decode cX11_bell 1 = .ok (.getfield 10, 3) := by decide +kernel
theorem dX11_bell_4 : decode cX11_bell 4 = .ok (.getfield 67, 3) := by decide +kernel
theorem dX11_bell_7 : decode cX11_bell 7 = .ok (.iload_n 1, 1) := by decide +kernel
theorem dX11_bell_8 : decode cX11_bell 8 = .ok (.iload_n 2, 1) := by decide +kernel
theorem dX11_bell_9 : decode cX11_bell 9 = .ok (.iload_n 3, 1) := by decide +kernel
theorem dX11_bell_10 : decode cX11_bell 10 = .ok (.invokevirtual 71, 3) := by decide +kernel
theorem dX11_bell_13 : decode cX11_bell 13 = .ok (.ireturn, 1) := by decide +kernel
theorem dX11_word_0 : decode cX11_word 0 = .ok (.aload_n 0, 1) := by decide +kernel
theorem dX11_word_1 : decode cX11_word 1 = .ok (.getfield 10, 3) := by decide +kernel
theorem dX11_word_4 : decode cX11_word 4 = .ok (.iload_n 1, 1) := by decide +kernel
theorem dX11_word_5 : decode cX11_word 5 = .ok (.iload_n 2, 1) := by decide +kernel
theorem dX11_word_6 : decode cX11_word 6 = .ok (.iload_n 3, 1) := by decide +kernel
theorem dX11_word_7 : decode cX11_word 7 = .ok (.iload 4, 2) := by decide +kernel
theorem dX11_word_9 : decode cX11_word 9 = .ok (.iload 5, 2) := by decide +kernel
theorem dX11_word_11 : decode cX11_word 11 = .ok (.iload 6, 2) := by decide +kernel
theorem dX11_word_13 : decode cX11_word 13 = .ok (.invokevirtual 77, 3) := by decide +kernel
theorem dX11_word_16 : decode cX11_word 16 = .ok (.ireturn, 1) := by decide +kernel
theorem dX11_hands_0 : decode cX11_hands 0 = .ok (.iload_n 1, 1) := by decide +kernel
theorem dX11_hands_1 : decode cX11_hands 1 = .ok (.iconst 0, 1) := by decide +kernel
theorem dX11_hands_2 : decode cX11_hands 2 = .ok (.bipush 99, 2) := by decide +kernel
theorem dX11_hands_4 : decode cX11_hands 4 = .ok (.invokestatic 81, 3) := by decide +kernel
theorem dX11_hands_7 : decode cX11_hands 7 = .ok (.ifCond .ne 5, 3) := by decide +kernel
theorem dX11_hands_10 : decode cX11_hands 10 = .ok (.iconst 0, 1) := by decide +kernel
theorem dX11_hands_11 : decode cX11_hands 11 = .ok (.ireturn, 1) := by decide +kernel
theorem dX11_hands_12 : decode cX11_hands 12 = .ok (.aload_n 0, 1) := by decide +kernel
theorem dX11_hands_13 : decode cX11_hands 13 = .ok (.getfield 10, 3) := by decide +kernel
theorem dX11_hands_16 : decode cX11_hands 16 = .ok (.iload_n 1, 1) := by decide +kernel
theorem dX11_hands_17 : decode cX11_hands 17 = .ok (.putfield 85, 3) := by decide +kernel
theorem dX11_hands_20 : decode cX11_hands 20 = .ok (.iconst 1, 1) := by decide +kernel
theorem dX11_hands_21 : decode cX11_hands 21 = .ok (.ireturn, 1) := by decide +kernel
theorem dX11_feed_0 : decode cX11_feed 0 = .ok (.aload_n 0, 1) := by decide +kernel
theorem dX11_feed_1 : decode cX11_feed 1 = .ok (.getfield 28, 3) := by decide +kernel
theorem dX11_feed_4 : decode cX11_feed 4 = .ok (.getfield 89, 3) := by decide +kernel
theorem dX11_feed_7 : decode cX11_feed 7 = .ok (.bipush 20, 2) := by decide +kernel
theorem dX11_feed_9 : decode cX11_feed 9 = .ok (.iadd, 1) := by decide +kernel
theorem dX11_feed_10 : decode cX11_feed 10 = .ok (.sipush 300, 3) := by decide +kernel
theorem dX11_feed_13 : decode cX11_feed 13 = .ok (.if_icmp .le 5, 3) := by decide +kernel
theorem dX11_feed_16 : decode cX11_feed 16 = .ok (.iconst (-1), 1) := by decide +kernel
theorem dX11_feed_17 : decode cX11_feed 17 = .ok (.ireturn, 1) := by decide +kernel
theorem dX11_feed_18 : decode cX11_feed 18 = .ok (.aload_n 0, 1) := by decide +kernel
theorem dX11_feed_19 : decode cX11_feed 19 = .ok (.getfield 28, 3) := by decide +kernel
theorem dX11_feed_22 : decode cX11_feed 22 = .ok (.iload_n 1, 1) := by decide +kernel
theorem dX11_feed_23 : decode cX11_feed 23 = .ok (.invokevirtual 92, 3) := by decide +kernel
theorem dX11_feed_26 : decode cX11_feed 26 = .ok (.aload_n 0, 1) := by decide +kernel
theorem dX11_feed_27 : decode cX11_feed 27 = .ok (.getfield 28, 3) := by decide +kernel
theorem dX11_feed_30 : decode cX11_feed 30 = .ok (.iload_n 2, 1) := by decide +kernel
theorem dX11_feed_31 : decode cX11_feed 31 = .ok (.invokevirtual 92, 3) := by decide +kernel
theorem dX11_feed_34 : decode cX11_feed 34 = .ok (.aload_n 0, 1) := by decide +kernel
theorem dX11_feed_35 : decode cX11_feed 35 = .ok (.getfield 28, 3) := by decide +kernel
theorem dX11_feed_38 : decode cX11_feed 38 = .ok (.iload_n 3, 1) := by decide +kernel
theorem dX11_feed_39 : decode cX11_feed 39 = .ok (.invokevirtual 92, 3) := by decide +kernel
theorem dX11_feed_42 : decode cX11_feed 42 = .ok (.aload_n 0, 1) := by decide +kernel
theorem dX11_feed_43 : decode cX11_feed 43 = .ok (.getfield 28, 3) := by decide +kernel
theorem dX11_feed_46 : decode cX11_feed 46 = .ok (.iload 4, 2) := by decide +kernel
theorem dX11_feed_48 : decode cX11_feed 48 = .ok (.invokevirtual 92, 3) := by decide +kernel
theorem dX11_feed_51 : decode cX11_feed 51 = .ok (.aload_n 0, 1) := by decide +kernel
theorem dX11_feed_52 : decode cX11_feed 52 = .ok (.getfield 28, 3) := by decide +kernel
theorem dX11_feed_55 : decode cX11_feed 55 = .ok (.iload 5, 2) := by decide +kernel
theorem dX11_feed_57 : decode cX11_feed 57 = .ok (.invokevirtual 92, 3) := by decide +kernel
theorem dX11_feed_60 : decode cX11_feed 60 = .ok (.aload_n 0, 1) := by decide +kernel
theorem dX11_feed_61 : decode cX11_feed 61 = .ok (.getfield 28, 3) := by decide +kernel
theorem dX11_feed_64 : decode cX11_feed 64 = .ok (.getfield 89, 3) := by decide +kernel
theorem dX11_feed_67 : decode cX11_feed 67 = .ok (.ireturn, 1) := by decide +kernel
theorem dX11_end_0 : decode cX11_end 0 = .ok (.iload_n 1, 1) := by decide +kernel
theorem dX11_end_1 : decode cX11_end 1 = .ok (.iconst 0, 1) := by decide +kernel
theorem dX11_end_2 : decode cX11_end 2 = .ok (.aload_n 0, 1) := by decide +kernel
theorem dX11_end_3 : decode cX11_end 3 = .ok (.getfield 28, 3) := by decide +kernel
theorem dX11_end_6 : decode cX11_end 6 = .ok (.getfield 89, 3) := by decide +kernel
theorem dX11_end_9 : decode cX11_end 9 = .ok (.invokestatic 81, 3) := by decide +kernel
theorem dX11_end_12 : decode cX11_end 12 = .ok (.ifCond .ne 5, 3) := by decide +kernel
theorem dX11_end_15 : decode cX11_end 15 = .ok (.iconst (-1), 1) := by decide +kernel
theorem dX11_end_16 : decode cX11_end 16 = .ok (.ireturn, 1) := by decide +kernel
theorem dX11_end_17 : decode cX11_end 17 = .ok (.aload_n 0, 1) := by decide +kernel
theorem dX11_end_18 : decode cX11_end 18 = .ok (.getfield 28, 3) := by decide +kernel
theorem dX11_end_21 : decode cX11_end 21 = .ok (.iload_n 1, 1) := by decide +kernel
theorem dX11_end_22 : decode cX11_end 22 = .ok (.putfield 89, 3) := by decide +kernel
theorem dX11_end_25 : decode cX11_end 25 = .ok (.iload_n 1, 1) := by decide +kernel
theorem dX11_end_26 : decode cX11_end 26 = .ok (.ireturn, 1) := by decide +kernel
theorem dX11_text_0 : decode cX11_text 0 = .ok (.aload_n 0, 1) := by decide +kernel
theorem dX11_text_1 : decode cX11_text 1 = .ok (.getfield 10, 3) := by decide +kernel
theorem dX11_text_4 : decode cX11_text 4 = .ok (.getfield 96, 3) := by decide +kernel
theorem dX11_text_7 : decode cX11_text 7 = .ok (.iconst 4, 1) := by decide +kernel
theorem dX11_text_8 : decode cX11_text 8 = .ok (.if_icmp .lt 5, 3) := by decide +kernel
theorem dX11_text_11 : decode cX11_text 11 = .ok (.iconst (-1), 1) := by decide +kernel
theorem dX11_text_12 : decode cX11_text 12 = .ok (.ireturn, 1) := by decide +kernel
theorem dX11_text_13 : decode cX11_text 13 = .ok (.aload_n 0, 1) := by decide +kernel
theorem dX11_text_14 : decode cX11_text 14 = .ok (.getfield 37, 3) := by decide +kernel
theorem dX11_text_17 : decode cX11_text 17 = .ok (.aload_n 0, 1) := by decide +kernel
theorem dX11_text_18 : decode cX11_text 18 = .ok (.getfield 21, 3) := by decide +kernel
theorem dX11_text_21 : decode cX11_text 21 = .ok (.aload_n 0, 1) := by decide +kernel
theorem dX11_text_22 : decode cX11_text 22 = .ok (.getfield 10, 3) := by decide +kernel
theorem dX11_text_25 : decode cX11_text 25 = .ok (.getfield 96, 3) := by decide +kernel
theorem dX11_text_28 : decode cX11_text 28 = .ok (.aaload, 1) := by decide +kernel
theorem dX11_text_29 : decode cX11_text 29 = .ok (.invokevirtual 98, 3) := by decide +kernel
theorem dX11_text_32 : decode cX11_text 32 = .ok (.ifCond .ne 5, 3) := by decide +kernel
theorem dX11_text_35 : decode cX11_text 35 = .ok (.iconst (-1), 1) := by decide +kernel
theorem dX11_text_36 : decode cX11_text 36 = .ok (.ireturn, 1) := by decide +kernel
theorem dX11_text_37 : decode cX11_text 37 = .ok (.aload_n 0, 1) := by decide +kernel
theorem dX11_text_38 : decode cX11_text 38 = .ok (.getfield 10, 3) := by decide +kernel
theorem dX11_text_41 : decode cX11_text 41 = .ok (.dup, 1) := by decide +kernel
theorem dX11_text_42 : decode cX11_text 42 = .ok (.getfield 96, 3) := by decide +kernel
theorem dX11_text_45 : decode cX11_text 45 = .ok (.iconst 1, 1) := by decide +kernel
theorem dX11_text_46 : decode cX11_text 46 = .ok (.iadd, 1) := by decide +kernel
theorem dX11_text_47 : decode cX11_text 47 = .ok (.putfield 96, 3) := by decide +kernel
theorem dX11_text_50 : decode cX11_text 50 = .ok (.aload_n 0, 1) := by decide +kernel
theorem dX11_text_51 : decode cX11_text 51 = .ok (.getfield 10, 3) := by decide +kernel
theorem dX11_text_54 : decode cX11_text 54 = .ok (.getfield 96, 3) := by decide +kernel
theorem dX11_text_57 : decode cX11_text 57 = .ok (.iconst 1, 1) := by decide +kernel
theorem dX11_text_58 : decode cX11_text 58 = .ok (.isub, 1) := by decide +kernel
theorem dX11_text_59 : decode cX11_text 59 = .ok (.ireturn, 1) := by decide +kernel
theorem dX11_fault_0 : decode cX11_fault 0 = .ok (.iload_n 1, 1) := by decide +kernel
theorem dX11_fault_1 : decode cX11_fault 1 = .ok (.lookupswitch 43 #[(0, 27), (1, 35)], 27) := by decide +kernel
theorem dX11_fault_28 : decode cX11_fault 28 = .ok (.aload_n 0, 1) := by decide +kernel
theorem dX11_fault_29 : decode cX11_fault 29 = .ok (.getfield 37, 3) := by decide +kernel
theorem dX11_fault_32 : decode cX11_fault 32 = .ok (.getfield 102, 3) := by decide +kernel
theorem dX11_fault_35 : decode cX11_fault 35 = .ok (.ireturn, 1) := by decide +kernel
theorem dX11_fault_36 : decode cX11_fault 36 = .ok (.aload_n 0, 1) := by decide +kernel
theorem dX11_fault_37 : decode cX11_fault 37 = .ok (.getfield 37, 3) := by decide +kernel
theorem dX11_fault_40 : decode cX11_fault 40 = .ok (.getfield 105, 3) := by decide +kernel
theorem dX11_fault_43 : decode cX11_fault 43 = .ok (.ireturn, 1) := by decide +kernel
theorem dX11_fault_44 : decode cX11_fault 44 = .ok (.iconst (-1), 1) := by decide +kernel
theorem dX11_fault_45 : decode cX11_fault 45 = .ok (.ireturn, 1) := by decide +kernel
theorem dX11_by_0 : decode cX11_by 0 = .ok (.iload_n 1, 1) := by decide +kernel
theorem dX11_by_1 : decode cX11_by 1 = .ok (.iconst (-1), 1) := by decide +kernel
theorem dX11_by_2 : decode cX11_by 2 = .ok (.if_icmp .eq 16, 3) := by decide +kernel
theorem dX11_by_5 : decode cX11_by 5 = .ok (.aload_n 0, 1) := by decide +kernel
theorem dX11_by_6 : decode cX11_by 6 = .ok (.getfield 10, 3) := by decide +kernel
theorem dX11_by_9 : decode cX11_by 9 = .ok (.iload_n 1, 1) := by decide +kernel
theorem dX11_by_10 : decode cX11_by 10 = .ok (.invokevirtual 108, 3) := by decide +kernel
theorem dX11_by_13 : decode cX11_by 13 = .ok (.ifCond .ne 5, 3) := by decide +kernel
theorem dX11_by_16 : decode cX11_by 16 = .ok (.iconst 0, 1) := by decide +kernel
theorem dX11_by_17 : decode cX11_by 17 = .ok (.ireturn, 1) := by decide +kernel
theorem dX11_by_18 : decode cX11_by 18 = .ok (.aload_n 0, 1) := by decide +kernel
theorem dX11_by_19 : decode cX11_by 19 = .ok (.getfield 10, 3) := by decide +kernel
theorem dX11_by_22 : decode cX11_by 22 = .ok (.iload_n 1, 1) := by decide +kernel
theorem dX11_by_23 : decode cX11_by 23 = .ok (.putfield 112, 3) := by decide +kernel
theorem dX11_by_26 : decode cX11_by 26 = .ok (.aload_n 0, 1) := by decide +kernel
theorem dX11_by_27 : decode cX11_by 27 = .ok (.getfield 54, 3) := by decide +kernel
theorem dX11_by_30 : decode cX11_by 30 = .ok (.invokevirtual 115, 3) := by decide +kernel
theorem dX11_by_33 : decode cX11_by 33 = .ok (.iconst 1, 1) := by decide +kernel
theorem dX11_by_34 : decode cX11_by 34 = .ok (.ireturn, 1) := by decide +kernel
theorem dX11_ring_0 : decode cX11_ring 0 = .ok (.aload_n 0, 1) := by decide +kernel
theorem dX11_ring_1 : decode cX11_ring 1 = .ok (.getfield 10, 3) := by decide +kernel
theorem dX11_ring_4 : decode cX11_ring 4 = .ok (.iload_n 1, 1) := by decide +kernel
theorem dX11_ring_5 : decode cX11_ring 5 = .ok (.invokevirtual 118, 3) := by decide +kernel
theorem dX11_ring_8 : decode cX11_ring 8 = .ok (.ifCond .ne 5, 3) := by decide +kernel
theorem dX11_ring_11 : decode cX11_ring 11 = .ok (.iconst (-1), 1) := by decide +kernel
theorem dX11_ring_12 : decode cX11_ring 12 = .ok (.ireturn, 1) := by decide +kernel
theorem dX11_ring_13 : decode cX11_ring 13 = .ok (.aload_n 0, 1) := by decide +kernel
theorem dX11_ring_14 : decode cX11_ring 14 = .ok (.getfield 10, 3) := by decide +kernel
theorem dX11_ring_17 : decode cX11_ring 17 = .ok (.invokevirtual 121, 3) := by decide +kernel
theorem dX11_ring_20 : decode cX11_ring 20 = .ok (.aload_n 0, 1) := by decide +kernel
theorem dX11_ring_21 : decode cX11_ring 21 = .ok (.iload_n 1, 1) := by decide +kernel
theorem dX11_ring_22 : decode cX11_ring 22 = .ok (.invokevirtual 124, 3) := by decide +kernel
theorem dX11_ring_25 : decode cX11_ring 25 = .ok (.ireturn, 1) := by decide +kernel
theorem dX11_speak_0 : decode cX11_speak 0 = .ok (.aload_n 0, 1) := by decide +kernel
theorem dX11_speak_1 : decode cX11_speak 1 = .ok (.getfield 10, 3) := by decide +kernel
theorem dX11_speak_4 : decode cX11_speak 4 = .ok (.iload_n 1, 1) := by decide +kernel
theorem dX11_speak_5 : decode cX11_speak 5 = .ok (.invokevirtual 128, 3) := by decide +kernel
theorem dX11_speak_8 : decode cX11_speak 8 = .ok (.ifCond .ne 5, 3) := by decide +kernel
theorem dX11_speak_11 : decode cX11_speak 11 = .ok (.iconst (-1), 1) := by decide +kernel
theorem dX11_speak_12 : decode cX11_speak 12 = .ok (.ireturn, 1) := by decide +kernel
theorem dX11_speak_13 : decode cX11_speak 13 = .ok (.aload_n 0, 1) := by decide +kernel
theorem dX11_speak_14 : decode cX11_speak 14 = .ok (.getfield 10, 3) := by decide +kernel
theorem dX11_speak_17 : decode cX11_speak 17 = .ok (.invokevirtual 121, 3) := by decide +kernel
theorem dX11_speak_20 : decode cX11_speak 20 = .ok (.aload_n 0, 1) := by decide +kernel
theorem dX11_speak_21 : decode cX11_speak 21 = .ok (.iload_n 1, 1) := by decide +kernel
theorem dX11_speak_22 : decode cX11_speak 22 = .ok (.invokevirtual 131, 3) := by decide +kernel
theorem dX11_speak_25 : decode cX11_speak 25 = .ok (.ireturn, 1) := by decide +kernel
theorem dX11_set_0 : decode cX11_set 0 = .ok (.aload_n 0, 1) := by decide +kernel
theorem dX11_set_1 : decode cX11_set 1 = .ok (.getfield 10, 3) := by decide +kernel
theorem dX11_set_4 : decode cX11_set 4 = .ok (.getfield 134, 3) := by decide +kernel
theorem dX11_set_7 : decode cX11_set 7 = .ok (.astore_n 3, 1) := by decide +kernel
theorem dX11_set_8 : decode cX11_set 8 = .ok (.iload_n 1, 1) := by decide +kernel
theorem dX11_set_9 : decode cX11_set 9 = .ok (.ifCond .eq 10, 3) := by decide +kernel
theorem dX11_set_12 : decode cX11_set 12 = .ok (.aload_n 3, 1) := by decide +kernel
theorem dX11_set_13 : decode cX11_set 13 = .ok (.getfield 138, 3) := by decide +kernel
theorem dX11_set_16 : decode cX11_set 16 = .ok (.goto 7, 3) := by decide +kernel
theorem dX11_set_19 : decode cX11_set 19 = .ok (.aload_n 3, 1) := by decide +kernel
theorem dX11_set_20 : decode cX11_set 20 = .ok (.getfield 143, 3) := by decide +kernel
theorem dX11_set_23 : decode cX11_set 23 = .ok (.istore 4, 2) := by decide +kernel
theorem dX11_set_25 : decode cX11_set 25 = .ok (.iload_n 2, 1) := by decide +kernel
theorem dX11_set_26 : decode cX11_set 26 = .ok (.iconst 0, 1) := by decide +kernel
theorem dX11_set_27 : decode cX11_set 27 = .ok (.bipush 9, 2) := by decide +kernel
theorem dX11_set_29 : decode cX11_set 29 = .ok (.invokestatic 81, 3) := by decide +kernel
theorem dX11_set_32 : decode cX11_set 32 = .ok (.ifCond .eq 9, 3) := by decide +kernel
theorem dX11_set_35 : decode cX11_set 35 = .ok (.iload 4, 2) := by decide +kernel
theorem dX11_set_37 : decode cX11_set 37 = .ok (.iload_n 2, 1) := by decide +kernel
theorem dX11_set_38 : decode cX11_set 38 = .ok (.if_icmp .ne 5, 3) := by decide +kernel
theorem dX11_set_41 : decode cX11_set 41 = .ok (.iconst 0, 1) := by decide +kernel
theorem dX11_set_42 : decode cX11_set 42 = .ok (.ireturn, 1) := by decide +kernel
theorem dX11_set_43 : decode cX11_set 43 = .ok (.aload_n 0, 1) := by decide +kernel
theorem dX11_set_44 : decode cX11_set 44 = .ok (.getfield 10, 3) := by decide +kernel
theorem dX11_set_47 : decode cX11_set 47 = .ok (.invokevirtual 121, 3) := by decide +kernel
theorem dX11_set_50 : decode cX11_set 50 = .ok (.iload_n 1, 1) := by decide +kernel
theorem dX11_set_51 : decode cX11_set 51 = .ok (.ifCond .eq 11, 3) := by decide +kernel
theorem dX11_set_54 : decode cX11_set 54 = .ok (.aload_n 3, 1) := by decide +kernel
theorem dX11_set_55 : decode cX11_set 55 = .ok (.iload_n 2, 1) := by decide +kernel
theorem dX11_set_56 : decode cX11_set 56 = .ok (.putfield 138, 3) := by decide +kernel
theorem dX11_set_59 : decode cX11_set 59 = .ok (.goto 8, 3) := by decide +kernel
theorem dX11_set_62 : decode cX11_set 62 = .ok (.aload_n 3, 1) := by decide +kernel
theorem dX11_set_63 : decode cX11_set 63 = .ok (.iload_n 2, 1) := by decide +kernel
theorem dX11_set_64 : decode cX11_set 64 = .ok (.putfield 143, 3) := by decide +kernel
theorem dX11_set_67 : decode cX11_set 67 = .ok (.iconst 1, 1) := by decide +kernel
theorem dX11_set_68 : decode cX11_set 68 = .ok (.ireturn, 1) := by decide +kernel
theorem dX11_hour_0 : decode cX11_hour 0 = .ok (.iload_n 1, 1) := by decide +kernel
theorem dX11_hour_1 : decode cX11_hour 1 = .ok (.iconst 1, 1) := by decide +kernel
theorem dX11_hour_2 : decode cX11_hour 2 = .ok (.bipush 60, 2) := by decide +kernel
theorem dX11_hour_4 : decode cX11_hour 4 = .ok (.invokestatic 81, 3) := by decide +kernel
theorem dX11_hour_7 : decode cX11_hour 7 = .ok (.ifCond .eq 21, 3) := by decide +kernel
theorem dX11_hour_10 : decode cX11_hour 10 = .ok (.aload_n 0, 1) := by decide +kernel
theorem dX11_hour_11 : decode cX11_hour 11 = .ok (.getfield 10, 3) := by decide +kernel
theorem dX11_hour_14 : decode cX11_hour 14 = .ok (.getfield 134, 3) := by decide +kernel
theorem dX11_hour_17 : decode cX11_hour 17 = .ok (.getfield 146, 3) := by decide +kernel
theorem dX11_hour_20 : decode cX11_hour 20 = .ok (.iload_n 1, 1) := by decide +kernel
theorem dX11_hour_21 : decode cX11_hour 21 = .ok (.iadd, 1) := by decide +kernel
theorem dX11_hour_22 : decode cX11_hour 22 = .ok (.sipush 9999, 3) := by decide +kernel
theorem dX11_hour_25 : decode cX11_hour 25 = .ok (.if_icmp .le 5, 3) := by decide +kernel
theorem dX11_hour_28 : decode cX11_hour 28 = .ok (.iconst (-1), 1) := by decide +kernel
theorem dX11_hour_29 : decode cX11_hour 29 = .ok (.ireturn, 1) := by decide +kernel
theorem dX11_hour_30 : decode cX11_hour 30 = .ok (.aload_n 0, 1) := by decide +kernel
theorem dX11_hour_31 : decode cX11_hour 31 = .ok (.iload_n 1, 1) := by decide +kernel
theorem dX11_hour_32 : decode cX11_hour 32 = .ok (.invokevirtual 149, 3) := by decide +kernel
theorem dX11_hour_35 : decode cX11_hour 35 = .ok (.pop, 1) := by decide +kernel
theorem dX11_hour_36 : decode cX11_hour 36 = .ok (.aload_n 0, 1) := by decide +kernel
theorem dX11_hour_37 : decode cX11_hour 37 = .ok (.getfield 10, 3) := by decide +kernel
theorem dX11_hour_40 : decode cX11_hour 40 = .ok (.getfield 134, 3) := by decide +kernel
theorem dX11_hour_43 : decode cX11_hour 43 = .ok (.getfield 146, 3) := by decide +kernel
theorem dX11_hour_46 : decode cX11_hour 46 = .ok (.ireturn, 1) := by decide +kernel
theorem dX11_sunday_0 : decode cX11_sunday 0 = .ok (.aload_n 0, 1) := by decide +kernel
theorem dX11_sunday_1 : decode cX11_sunday 1 = .ok (.getfield 10, 3) := by decide +kernel
theorem dX11_sunday_4 : decode cX11_sunday 4 = .ok (.invokevirtual 121, 3) := by decide +kernel
theorem dX11_sunday_7 : decode cX11_sunday 7 = .ok (.aload_n 0, 1) := by decide +kernel
theorem dX11_sunday_8 : decode cX11_sunday 8 = .ok (.getfield 10, 3) := by decide +kernel
theorem dX11_sunday_11 : decode cX11_sunday 11 = .ok (.getfield 134, 3) := by decide +kernel
theorem dX11_sunday_14 : decode cX11_sunday 14 = .ok (.aload_n 0, 1) := by decide +kernel
theorem dX11_sunday_15 : decode cX11_sunday 15 = .ok (.getfield 63, 3) := by decide +kernel
theorem dX11_sunday_18 : decode cX11_sunday 18 = .ok (.iconst 1, 1) := by decide +kernel
theorem dX11_sunday_19 : decode cX11_sunday 19 = .ok (.invokevirtual 152, 3) := by decide +kernel
theorem dX11_sunday_22 : decode cX11_sunday 22 = .ok (.invokevirtual 156, 3) := by decide +kernel
theorem dX11_sunday_25 : decode cX11_sunday 25 = .ok (.ireturn, 1) := by decide +kernel
theorem dX11_played_0 : decode cX11_played 0 = .ok (.aload_n 0, 1) := by decide +kernel
theorem dX11_played_1 : decode cX11_played 1 = .ok (.getfield 10, 3) := by decide +kernel
theorem dX11_played_4 : decode cX11_played 4 = .ok (.iload_n 1, 1) := by decide +kernel
theorem dX11_played_5 : decode cX11_played 5 = .ok (.invokevirtual 108, 3) := by decide +kernel
theorem dX11_played_8 : decode cX11_played 8 = .ok (.ifCond .ne 6, 3) := by decide +kernel
theorem dX11_played_11 : decode cX11_played 11 = .ok (.bipush (-2), 2) := by decide +kernel
theorem dX11_played_13 : decode cX11_played 13 = .ok (.ireturn, 1) := by decide +kernel
theorem dX11_played_14 : decode cX11_played 14 = .ok (.aload_n 0, 1) := by decide +kernel
theorem dX11_played_15 : decode cX11_played 15 = .ok (.getfield 21, 3) := by decide +kernel
theorem dX11_played_18 : decode cX11_played 18 = .ok (.iload_n 1, 1) := by decide +kernel
theorem dX11_played_19 : decode cX11_played 19 = .ok (.aaload, 1) := by decide +kernel
theorem dX11_played_20 : decode cX11_played 20 = .ok (.astore_n 2, 1) := by decide +kernel
theorem dX11_played_21 : decode cX11_played 21 = .ok (.iconst 0, 1) := by decide +kernel
theorem dX11_played_22 : decode cX11_played 22 = .ok (.istore_n 3, 1) := by decide +kernel
theorem dX11_played_23 : decode cX11_played 23 = .ok (.iload_n 3, 1) := by decide +kernel
theorem dX11_played_24 : decode cX11_played 24 = .ok (.aload_n 2, 1) := by decide +kernel
theorem dX11_played_25 : decode cX11_played 25 = .ok (.getfield 159, 3) := by decide +kernel
theorem dX11_played_28 : decode cX11_played 28 = .ok (.if_icmp .ge 20, 3) := by decide +kernel
theorem dX11_played_31 : decode cX11_played 31 = .ok (.aload_n 0, 1) := by decide +kernel
theorem dX11_played_32 : decode cX11_played 32 = .ok (.aload_n 2, 1) := by decide +kernel
theorem dX11_played_33 : decode cX11_played 33 = .ok (.iload_n 3, 1) := by decide +kernel
theorem dX11_played_34 : decode cX11_played 34 = .ok (.invokevirtual 162, 3) := by decide +kernel
theorem dX11_played_37 : decode cX11_played 37 = .ok (.ifCond .ne 5, 3) := by decide +kernel
theorem dX11_played_40 : decode cX11_played 40 = .ok (.iload_n 3, 1) := by decide +kernel
theorem dX11_played_41 : decode cX11_played 41 = .ok (.ireturn, 1) := by decide +kernel
theorem dX11_played_42 : decode cX11_played 42 = .ok (.iinc 3 1, 3) := by decide +kernel
theorem dX11_played_45 : decode cX11_played 45 = .ok (.goto (-22), 3) := by decide +kernel
theorem dX11_played_48 : decode cX11_played 48 = .ok (.iconst (-1), 1) := by decide +kernel
theorem dX11_played_49 : decode cX11_played 49 = .ok (.ireturn, 1) := by decide +kernel
theorem dX11_centuries_0 : decode cX11_centuries 0 = .ok (.aload_n 0, 1) := by decide +kernel
theorem dX11_centuries_1 : decode cX11_centuries 1 = .ok (.getfield 10, 3) := by decide +kernel
theorem dX11_centuries_4 : decode cX11_centuries 4 = .ok (.getfield 67, 3) := by decide +kernel
theorem dX11_centuries_7 : decode cX11_centuries 7 = .ok (.astore_n 3, 1) := by decide +kernel
theorem dX11_centuries_8 : decode cX11_centuries 8 = .ok (.iload_n 1, 1) := by decide +kernel
theorem dX11_centuries_9 : decode cX11_centuries 9 = .ok (.iconst 0, 1) := by decide +kernel
theorem dX11_centuries_10 : decode cX11_centuries 10 = .ok (.sipush 9999, 3) := by decide +kernel
theorem dX11_centuries_13 : decode cX11_centuries 13 = .ok (.invokestatic 81, 3) := by decide +kernel
theorem dX11_centuries_16 : decode cX11_centuries 16 = .ok (.ifCond .eq 27, 3) := by decide +kernel
theorem dX11_centuries_19 : decode cX11_centuries 19 = .ok (.iload_n 2, 1) := by decide +kernel
theorem dX11_centuries_20 : decode cX11_centuries 20 = .ok (.iconst 1, 1) := by decide +kernel
theorem dX11_centuries_21 : decode cX11_centuries 21 = .ok (.bipush 40, 2) := by decide +kernel
theorem dX11_centuries_23 : decode cX11_centuries 23 = .ok (.invokestatic 81, 3) := by decide +kernel
theorem dX11_centuries_26 : decode cX11_centuries 26 = .ok (.ifCond .eq 17, 3) := by decide +kernel
theorem dX11_centuries_29 : decode cX11_centuries 29 = .ok (.aload_n 3, 1) := by decide +kernel
theorem dX11_centuries_30 : decode cX11_centuries 30 = .ok (.getfield 166, 3) := by decide +kernel
theorem dX11_centuries_33 : decode cX11_centuries 33 = .ok (.ifCond .eq 10, 3) := by decide +kernel
theorem dX11_centuries_36 : decode cX11_centuries 36 = .ok (.aload_n 3, 1) := by decide +kernel
theorem dX11_centuries_37 : decode cX11_centuries 37 = .ok (.getfield 169, 3) := by decide +kernel
theorem dX11_centuries_40 : decode cX11_centuries 40 = .ok (.ifCond .ne 5, 3) := by decide +kernel
theorem dX11_centuries_43 : decode cX11_centuries 43 = .ok (.iconst (-1), 1) := by decide +kernel
theorem dX11_centuries_44 : decode cX11_centuries 44 = .ok (.ireturn, 1) := by decide +kernel
theorem dX11_centuries_45 : decode cX11_centuries 45 = .ok (.aload_n 0, 1) := by decide +kernel
theorem dX11_centuries_46 : decode cX11_centuries 46 = .ok (.getfield 10, 3) := by decide +kernel
theorem dX11_centuries_49 : decode cX11_centuries 49 = .ok (.invokevirtual 121, 3) := by decide +kernel
theorem dX11_centuries_52 : decode cX11_centuries 52 = .ok (.aload_n 0, 1) := by decide +kernel
theorem dX11_centuries_53 : decode cX11_centuries 53 = .ok (.getfield 10, 3) := by decide +kernel
theorem dX11_centuries_56 : decode cX11_centuries 56 = .ok (.getfield 134, 3) := by decide +kernel
theorem dX11_centuries_59 : decode cX11_centuries 59 = .ok (.iload_n 1, 1) := by decide +kernel
theorem dX11_centuries_60 : decode cX11_centuries 60 = .ok (.iconst 2, 1) := by decide +kernel
theorem dX11_centuries_61 : decode cX11_centuries 61 = .ok (.imul, 1) := by decide +kernel
theorem dX11_centuries_62 : decode cX11_centuries 62 = .ok (.bipush 101, 2) := by decide +kernel
theorem dX11_centuries_64 : decode cX11_centuries 64 = .ok (.iadd, 1) := by decide +kernel
theorem dX11_centuries_65 : decode cX11_centuries 65 = .ok (.putfield 172, 3) := by decide +kernel
theorem dX11_centuries_68 : decode cX11_centuries 68 = .ok (.iconst 0, 1) := by decide +kernel
theorem dX11_centuries_69 : decode cX11_centuries 69 = .ok (.istore 4, 2) := by decide +kernel
theorem dX11_centuries_71 : decode cX11_centuries 71 = .ok (.iload 4, 2) := by decide +kernel
theorem dX11_centuries_73 : decode cX11_centuries 73 = .ok (.iload_n 2, 1) := by decide +kernel
theorem dX11_centuries_74 : decode cX11_centuries 74 = .ok (.if_icmp .ge 13, 3) := by decide +kernel
theorem dX11_centuries_77 : decode cX11_centuries 77 = .ok (.aload_n 0, 1) := by decide +kernel
theorem dX11_centuries_78 : decode cX11_centuries 78 = .ok (.invokevirtual 175, 3) := by decide +kernel
theorem dX11_centuries_81 : decode cX11_centuries 81 = .ok (.iinc 4 1, 3) := by decide +kernel
theorem dX11_centuries_84 : decode cX11_centuries 84 = .ok (.goto (-13), 3) := by decide +kernel
theorem dX11_centuries_87 : decode cX11_centuries 87 = .ok (.aload_n 0, 1) := by decide +kernel
theorem dX11_centuries_88 : decode cX11_centuries 88 = .ok (.getfield 10, 3) := by decide +kernel
theorem dX11_centuries_91 : decode cX11_centuries 91 = .ok (.getfield 134, 3) := by decide +kernel
theorem dX11_centuries_94 : decode cX11_centuries 94 = .ok (.getfield 146, 3) := by decide +kernel
theorem dX11_centuries_97 : decode cX11_centuries 97 = .ok (.ireturn, 1) := by decide +kernel
theorem dX11_undo_0 : decode cX11_undo 0 = .ok (.aload_n 0, 1) := by decide +kernel
theorem dX11_undo_1 : decode cX11_undo 1 = .ok (.getfield 10, 3) := by decide +kernel
theorem dX11_undo_4 : decode cX11_undo 4 = .ok (.getfield 178, 3) := by decide +kernel
theorem dX11_undo_7 : decode cX11_undo 7 = .ok (.aload_n 0, 1) := by decide +kernel
theorem dX11_undo_8 : decode cX11_undo 8 = .ok (.getfield 10, 3) := by decide +kernel
theorem dX11_undo_11 : decode cX11_undo 11 = .ok (.getfield 134, 3) := by decide +kernel
theorem dX11_undo_14 : decode cX11_undo 14 = .ok (.invokevirtual 182, 3) := by decide +kernel
theorem dX11_undo_17 : decode cX11_undo 17 = .ok (.ireturn, 1) := by decide +kernel
theorem dX11_strike_0 : decode cX11_strike 0 = .ok (.aload_n 0, 1) := by decide +kernel
theorem dX11_strike_1 : decode cX11_strike 1 = .ok (.getfield 10, 3) := by decide +kernel
theorem dX11_strike_4 : decode cX11_strike 4 = .ok (.getfield 134, 3) := by decide +kernel
theorem dX11_strike_7 : decode cX11_strike 7 = .ok (.astore_n 2, 1) := by decide +kernel
theorem dX11_strike_8 : decode cX11_strike 8 = .ok (.aload_n 2, 1) := by decide +kernel
theorem dX11_strike_9 : decode cX11_strike 9 = .ok (.iload_n 1, 1) := by decide +kernel
theorem dX11_strike_10 : decode cX11_strike 10 = .ok (.aload_n 0, 1) := by decide +kernel
theorem dX11_strike_11 : decode cX11_strike 11 = .ok (.getfield 54, 3) := by decide +kernel
theorem dX11_strike_14 : decode cX11_strike 14 = .ok (.iload_n 1, 1) := by decide +kernel
theorem dX11_strike_15 : decode cX11_strike 15 = .ok (.aload_n 2, 1) := by decide +kernel
theorem dX11_strike_16 : decode cX11_strike 16 = .ok (.getfield 188, 3) := by decide +kernel
theorem dX11_strike_19 : decode cX11_strike 19 = .ok (.aload_n 2, 1) := by decide +kernel
theorem dX11_strike_20 : decode cX11_strike 20 = .ok (.getfield 143, 3) := by decide +kernel
theorem dX11_strike_23 : decode cX11_strike 23 = .ok (.invokevirtual 191, 3) := by decide +kernel
theorem dX11_strike_26 : decode cX11_strike 26 = .ok (.invokevirtual 194, 3) := by decide +kernel
theorem dX11_strike_29 : decode cX11_strike 29 = .ok (.ireturn, 1) := by decide +kernel
theorem dX11_say_0 : decode cX11_say 0 = .ok (.aload_n 0, 1) := by decide +kernel
theorem dX11_say_1 : decode cX11_say 1 = .ok (.getfield 10, 3) := by decide +kernel
theorem dX11_say_4 : decode cX11_say 4 = .ok (.getfield 67, 3) := by decide +kernel
theorem dX11_say_7 : decode cX11_say 7 = .ok (.astore_n 2, 1) := by decide +kernel
theorem dX11_say_8 : decode cX11_say 8 = .ok (.aload_n 0, 1) := by decide +kernel
theorem dX11_say_9 : decode cX11_say 9 = .ok (.getfield 10, 3) := by decide +kernel
theorem dX11_say_12 : decode cX11_say 12 = .ok (.getfield 134, 3) := by decide +kernel
theorem dX11_say_15 : decode cX11_say 15 = .ok (.astore_n 3, 1) := by decide +kernel
theorem dX11_say_16 : decode cX11_say 16 = .ok (.iconst 0, 1) := by decide +kernel
theorem dX11_say_17 : decode cX11_say 17 = .ok (.istore 4, 2) := by decide +kernel
theorem dX11_say_19 : decode cX11_say 19 = .ok (.iconst 0, 1) := by decide +kernel
theorem dX11_say_20 : decode cX11_say 20 = .ok (.istore 5, 2) := by decide +kernel
theorem dX11_say_22 : decode cX11_say 22 = .ok (.iload 5, 2) := by decide +kernel
theorem dX11_say_24 : decode cX11_say 24 = .ok (.aload_n 2, 1) := by decide +kernel
theorem dX11_say_25 : decode cX11_say 25 = .ok (.getfield 198, 3) := by decide +kernel
theorem dX11_say_28 : decode cX11_say 28 = .ok (.iload_n 1, 1) := by decide +kernel
theorem dX11_say_29 : decode cX11_say 29 = .ok (.iaload, 1) := by decide +kernel
theorem dX11_say_30 : decode cX11_say 30 = .ok (.if_icmp .ge 46, 3) := by decide +kernel
theorem dX11_say_33 : decode cX11_say 33 = .ok (.aload_n 2, 1) := by decide +kernel
theorem dX11_say_34 : decode cX11_say 34 = .ok (.iload_n 1, 1) := by decide +kernel
theorem dX11_say_35 : decode cX11_say 35 = .ok (.iload 5, 2) := by decide +kernel
theorem dX11_say_37 : decode cX11_say 37 = .ok (.invokevirtual 201, 3) := by decide +kernel
theorem dX11_say_40 : decode cX11_say 40 = .ok (.istore 6, 2) := by decide +kernel
theorem dX11_say_42 : decode cX11_say 42 = .ok (.iload 4, 2) := by decide +kernel
theorem dX11_say_44 : decode cX11_say 44 = .ok (.aload_n 3, 1) := by decide +kernel
theorem dX11_say_45 : decode cX11_say 45 = .ok (.iload 6, 2) := by decide +kernel
theorem dX11_say_47 : decode cX11_say 47 = .ok (.aload_n 0, 1) := by decide +kernel
theorem dX11_say_48 : decode cX11_say 48 = .ok (.getfield 54, 3) := by decide +kernel
theorem dX11_say_51 : decode cX11_say 51 = .ok (.iload 6, 2) := by decide +kernel
theorem dX11_say_53 : decode cX11_say 53 = .ok (.aload_n 3, 1) := by decide +kernel
theorem dX11_say_54 : decode cX11_say 54 = .ok (.getfield 188, 3) := by decide +kernel
theorem dX11_say_57 : decode cX11_say 57 = .ok (.aload_n 3, 1) := by decide +kernel
theorem dX11_say_58 : decode cX11_say 58 = .ok (.getfield 143, 3) := by decide +kernel
theorem dX11_say_61 : decode cX11_say 61 = .ok (.invokevirtual 191, 3) := by decide +kernel
theorem dX11_say_64 : decode cX11_say 64 = .ok (.invokevirtual 194, 3) := by decide +kernel
theorem dX11_say_67 : decode cX11_say 67 = .ok (.iadd, 1) := by decide +kernel
theorem dX11_say_68 : decode cX11_say 68 = .ok (.istore 4, 2) := by decide +kernel
theorem dX11_say_70 : decode cX11_say 70 = .ok (.iinc 5 1, 3) := by decide +kernel
theorem dX11_say_73 : decode cX11_say 73 = .ok (.goto (-51), 3) := by decide +kernel
theorem dX11_say_76 : decode cX11_say 76 = .ok (.iload 4, 2) := by decide +kernel
theorem dX11_say_78 : decode cX11_say 78 = .ok (.ireturn, 1) := by decide +kernel
theorem dX11_passHours_0 : decode cX11_passHours 0 = .ok (.iconst 0, 1) := by decide +kernel
theorem dX11_passHours_1 : decode cX11_passHours 1 = .ok (.istore_n 2, 1) := by decide +kernel
theorem dX11_passHours_2 : decode cX11_passHours 2 = .ok (.iload_n 2, 1) := by decide +kernel
theorem dX11_passHours_3 : decode cX11_passHours 3 = .ok (.iload_n 1, 1) := by decide +kernel
theorem dX11_passHours_4 : decode cX11_passHours 4 = .ok (.if_icmp .ge 44, 3) := by decide +kernel
theorem dX11_passHours_7 : decode cX11_passHours 7 = .ok (.aload_n 0, 1) := by decide +kernel
theorem dX11_passHours_8 : decode cX11_passHours 8 = .ok (.getfield 10, 3) := by decide +kernel
theorem dX11_passHours_11 : decode cX11_passHours 11 = .ok (.getfield 134, 3) := by decide +kernel
theorem dX11_passHours_14 : decode cX11_passHours 14 = .ok (.getfield 146, 3) := by decide +kernel
theorem dX11_passHours_17 : decode cX11_passHours 17 = .ok (.sipush 9999, 3) := by decide +kernel
theorem dX11_passHours_20 : decode cX11_passHours 20 = .ok (.if_icmp .lt 5, 3) := by decide +kernel
theorem dX11_passHours_23 : decode cX11_passHours 23 = .ok (.iconst 0, 1) := by decide +kernel
theorem dX11_passHours_24 : decode cX11_passHours 24 = .ok (.ireturn, 1) := by decide +kernel
theorem dX11_passHours_25 : decode cX11_passHours 25 = .ok (.aload_n 0, 1) := by decide +kernel
theorem dX11_passHours_26 : decode cX11_passHours 26 = .ok (.getfield 10, 3) := by decide +kernel
theorem dX11_passHours_29 : decode cX11_passHours 29 = .ok (.invokevirtual 121, 3) := by decide +kernel
theorem dX11_passHours_32 : decode cX11_passHours 32 = .ok (.aload_n 0, 1) := by decide +kernel
theorem dX11_passHours_33 : decode cX11_passHours 33 = .ok (.getfield 10, 3) := by decide +kernel
theorem dX11_passHours_36 : decode cX11_passHours 36 = .ok (.getfield 134, 3) := by decide +kernel
theorem dX11_passHours_39 : decode cX11_passHours 39 = .ok (.invokevirtual 205, 3) := by decide +kernel
theorem dX11_passHours_42 : decode cX11_passHours 42 = .ok (.iinc 2 1, 3) := by decide +kernel
theorem dX11_passHours_45 : decode cX11_passHours 45 = .ok (.goto (-43), 3) := by decide +kernel
theorem dX11_passHours_48 : decode cX11_passHours 48 = .ok (.iconst 1, 1) := by decide +kernel
theorem dX11_passHours_49 : decode cX11_passHours 49 = .ok (.ireturn, 1) := by decide +kernel
theorem dX11_plays_0 : decode cX11_plays 0 = .ok (.aload_n 1, 1) := by decide +kernel
theorem dX11_plays_1 : decode cX11_plays 1 = .ok (.iload_n 2, 1) := by decide +kernel
theorem dX11_plays_2 : decode cX11_plays 2 = .ok (.iconst 0, 1) := by decide +kernel
theorem dX11_plays_3 : decode cX11_plays 3 = .ok (.invokevirtual 208, 3) := by decide +kernel
theorem dX11_plays_6 : decode cX11_plays 6 = .ok (.istore_n 3, 1) := by decide +kernel
theorem dX11_plays_7 : decode cX11_plays 7 = .ok (.aload_n 1, 1) := by decide +kernel
theorem dX11_plays_8 : decode cX11_plays 8 = .ok (.iload_n 2, 1) := by decide +kernel
theorem dX11_plays_9 : decode cX11_plays 9 = .ok (.invokevirtual 211, 3) := by decide +kernel
theorem dX11_plays_12 : decode cX11_plays 12 = .ok (.tableswitch 201 103 110 #[48, 75, 123, 138, 153, 160, 167, 173], 48) := by decide +kernel
theorem dX11_plays_60 : decode cX11_plays 60 = .ok (.aload_n 0, 1) := by decide +kernel
theorem dX11_plays_61 : decode cX11_plays 61 = .ok (.iload_n 3, 1) := by decide +kernel
theorem dX11_plays_62 : decode cX11_plays 62 = .ok (.aload_n 1, 1) := by decide +kernel
theorem dX11_plays_63 : decode cX11_plays 63 = .ok (.iload_n 2, 1) := by decide +kernel
theorem dX11_plays_64 : decode cX11_plays 64 = .ok (.iconst 1, 1) := by decide +kernel
theorem dX11_plays_65 : decode cX11_plays 65 = .ok (.invokevirtual 208, 3) := by decide +kernel
theorem dX11_plays_68 : decode cX11_plays 68 = .ok (.aload_n 1, 1) := by decide +kernel
theorem dX11_plays_69 : decode cX11_plays 69 = .ok (.iload_n 2, 1) := by decide +kernel
theorem dX11_plays_70 : decode cX11_plays 70 = .ok (.iconst 2, 1) := by decide +kernel
theorem dX11_plays_71 : decode cX11_plays 71 = .ok (.invokevirtual 208, 3) := by decide +kernel
theorem dX11_plays_74 : decode cX11_plays 74 = .ok (.invokevirtual 214, 3) := by decide +kernel
theorem dX11_plays_77 : decode cX11_plays 77 = .ok (.iconst (-1), 1) := by decide +kernel
theorem dX11_plays_78 : decode cX11_plays 78 = .ok (.if_icmp .eq 7, 3) := by decide +kernel
theorem dX11_plays_81 : decode cX11_plays 81 = .ok (.iconst 1, 1) := by decide +kernel
theorem dX11_plays_82 : decode cX11_plays 82 = .ok (.goto 4, 3) := by decide +kernel
theorem dX11_plays_85 : decode cX11_plays 85 = .ok (.iconst 0, 1) := by decide +kernel
theorem dX11_plays_86 : decode cX11_plays 86 = .ok (.ireturn, 1) := by decide +kernel
theorem dX11_plays_87 : decode cX11_plays 87 = .ok (.aload_n 0, 1) := by decide +kernel
theorem dX11_plays_88 : decode cX11_plays 88 = .ok (.getfield 10, 3) := by decide +kernel
theorem dX11_plays_91 : decode cX11_plays 91 = .ok (.aload_n 1, 1) := by decide +kernel
theorem dX11_plays_92 : decode cX11_plays 92 = .ok (.iload_n 2, 1) := by decide +kernel
theorem dX11_plays_93 : decode cX11_plays 93 = .ok (.iconst 2, 1) := by decide +kernel
theorem dX11_plays_94 : decode cX11_plays 94 = .ok (.invokevirtual 208, 3) := by decide +kernel
theorem dX11_plays_97 : decode cX11_plays 97 = .ok (.aload_n 1, 1) := by decide +kernel
theorem dX11_plays_98 : decode cX11_plays 98 = .ok (.iload_n 2, 1) := by decide +kernel
theorem dX11_plays_99 : decode cX11_plays 99 = .ok (.iconst 3, 1) := by decide +kernel
theorem dX11_plays_100 : decode cX11_plays 100 = .ok (.invokevirtual 208, 3) := by decide +kernel
theorem dX11_plays_103 : decode cX11_plays 103 = .ok (.aload_n 1, 1) := by decide +kernel
theorem dX11_plays_104 : decode cX11_plays 104 = .ok (.iload_n 2, 1) := by decide +kernel
theorem dX11_plays_105 : decode cX11_plays 105 = .ok (.iconst 4, 1) := by decide +kernel
theorem dX11_plays_106 : decode cX11_plays 106 = .ok (.invokevirtual 208, 3) := by decide +kernel
theorem dX11_plays_109 : decode cX11_plays 109 = .ok (.aload_n 1, 1) := by decide +kernel
theorem dX11_plays_110 : decode cX11_plays 110 = .ok (.iload_n 2, 1) := by decide +kernel
theorem dX11_plays_111 : decode cX11_plays 111 = .ok (.iconst 5, 1) := by decide +kernel
theorem dX11_plays_112 : decode cX11_plays 112 = .ok (.invokevirtual 208, 3) := by decide +kernel
theorem dX11_plays_115 : decode cX11_plays 115 = .ok (.iload_n 3, 1) := by decide +kernel
theorem dX11_plays_116 : decode cX11_plays 116 = .ok (.aload_n 1, 1) := by decide +kernel
theorem dX11_plays_117 : decode cX11_plays 117 = .ok (.iload_n 2, 1) := by decide +kernel
theorem dX11_plays_118 : decode cX11_plays 118 = .ok (.iconst 1, 1) := by decide +kernel
theorem dX11_plays_119 : decode cX11_plays 119 = .ok (.invokevirtual 208, 3) := by decide +kernel
theorem dX11_plays_122 : decode cX11_plays 122 = .ok (.invokevirtual 77, 3) := by decide +kernel
theorem dX11_plays_125 : decode cX11_plays 125 = .ok (.iconst (-1), 1) := by decide +kernel
theorem dX11_plays_126 : decode cX11_plays 126 = .ok (.if_icmp .eq 7, 3) := by decide +kernel
theorem dX11_plays_129 : decode cX11_plays 129 = .ok (.iconst 1, 1) := by decide +kernel
theorem dX11_plays_130 : decode cX11_plays 130 = .ok (.goto 4, 3) := by decide +kernel
theorem dX11_plays_133 : decode cX11_plays 133 = .ok (.iconst 0, 1) := by decide +kernel
theorem dX11_plays_134 : decode cX11_plays 134 = .ok (.ireturn, 1) := by decide +kernel
theorem dX11_plays_135 : decode cX11_plays 135 = .ok (.aload_n 0, 1) := by decide +kernel
theorem dX11_plays_136 : decode cX11_plays 136 = .ok (.iload_n 3, 1) := by decide +kernel
theorem dX11_plays_137 : decode cX11_plays 137 = .ok (.invokevirtual 217, 3) := by decide +kernel
theorem dX11_plays_140 : decode cX11_plays 140 = .ok (.iconst (-1), 1) := by decide +kernel
theorem dX11_plays_141 : decode cX11_plays 141 = .ok (.if_icmp .eq 7, 3) := by decide +kernel
theorem dX11_plays_144 : decode cX11_plays 144 = .ok (.iconst 1, 1) := by decide +kernel
theorem dX11_plays_145 : decode cX11_plays 145 = .ok (.goto 4, 3) := by decide +kernel
theorem dX11_plays_148 : decode cX11_plays 148 = .ok (.iconst 0, 1) := by decide +kernel
theorem dX11_plays_149 : decode cX11_plays 149 = .ok (.ireturn, 1) := by decide +kernel
theorem dX11_plays_150 : decode cX11_plays 150 = .ok (.aload_n 0, 1) := by decide +kernel
theorem dX11_plays_151 : decode cX11_plays 151 = .ok (.iload_n 3, 1) := by decide +kernel
theorem dX11_plays_152 : decode cX11_plays 152 = .ok (.invokevirtual 220, 3) := by decide +kernel
theorem dX11_plays_155 : decode cX11_plays 155 = .ok (.iconst (-1), 1) := by decide +kernel
theorem dX11_plays_156 : decode cX11_plays 156 = .ok (.if_icmp .eq 7, 3) := by decide +kernel
theorem dX11_plays_159 : decode cX11_plays 159 = .ok (.iconst 1, 1) := by decide +kernel
theorem dX11_plays_160 : decode cX11_plays 160 = .ok (.goto 4, 3) := by decide +kernel
theorem dX11_plays_163 : decode cX11_plays 163 = .ok (.iconst 0, 1) := by decide +kernel
theorem dX11_plays_164 : decode cX11_plays 164 = .ok (.ireturn, 1) := by decide +kernel
theorem dX11_plays_165 : decode cX11_plays 165 = .ok (.aload_n 0, 1) := by decide +kernel
theorem dX11_plays_166 : decode cX11_plays 166 = .ok (.iconst 0, 1) := by decide +kernel
theorem dX11_plays_167 : decode cX11_plays 167 = .ok (.iload_n 3, 1) := by decide +kernel
theorem dX11_plays_168 : decode cX11_plays 168 = .ok (.invokevirtual 223, 3) := by decide +kernel
theorem dX11_plays_171 : decode cX11_plays 171 = .ok (.ireturn, 1) := by decide +kernel
theorem dX11_plays_172 : decode cX11_plays 172 = .ok (.aload_n 0, 1) := by decide +kernel
theorem dX11_plays_173 : decode cX11_plays 173 = .ok (.iconst 1, 1) := by decide +kernel
theorem dX11_plays_174 : decode cX11_plays 174 = .ok (.iload_n 3, 1) := by decide +kernel
theorem dX11_plays_175 : decode cX11_plays 175 = .ok (.invokevirtual 223, 3) := by decide +kernel
theorem dX11_plays_178 : decode cX11_plays 178 = .ok (.ireturn, 1) := by decide +kernel
theorem dX11_plays_179 : decode cX11_plays 179 = .ok (.aload_n 0, 1) := by decide +kernel
theorem dX11_plays_180 : decode cX11_plays 180 = .ok (.iload_n 3, 1) := by decide +kernel
theorem dX11_plays_181 : decode cX11_plays 181 = .ok (.invokevirtual 149, 3) := by decide +kernel
theorem dX11_plays_184 : decode cX11_plays 184 = .ok (.ireturn, 1) := by decide +kernel
theorem dX11_plays_185 : decode cX11_plays 185 = .ok (.aload_n 0, 1) := by decide +kernel
theorem dX11_plays_186 : decode cX11_plays 186 = .ok (.getfield 10, 3) := by decide +kernel
theorem dX11_plays_189 : decode cX11_plays 189 = .ok (.invokevirtual 121, 3) := by decide +kernel
theorem dX11_plays_192 : decode cX11_plays 192 = .ok (.aload_n 0, 1) := by decide +kernel
theorem dX11_plays_193 : decode cX11_plays 193 = .ok (.getfield 10, 3) := by decide +kernel
theorem dX11_plays_196 : decode cX11_plays 196 = .ok (.getfield 134, 3) := by decide +kernel
theorem dX11_plays_199 : decode cX11_plays 199 = .ok (.aload_n 0, 1) := by decide +kernel
theorem dX11_plays_200 : decode cX11_plays 200 = .ok (.getfield 63, 3) := by decide +kernel
theorem dX11_plays_203 : decode cX11_plays 203 = .ok (.iconst 1, 1) := by decide +kernel
theorem dX11_plays_204 : decode cX11_plays 204 = .ok (.invokevirtual 152, 3) := by decide +kernel
theorem dX11_plays_207 : decode cX11_plays 207 = .ok (.invokevirtual 156, 3) := by decide +kernel
theorem dX11_plays_210 : decode cX11_plays 210 = .ok (.pop, 1) := by decide +kernel
theorem dX11_plays_211 : decode cX11_plays 211 = .ok (.iconst 1, 1) := by decide +kernel
theorem dX11_plays_212 : decode cX11_plays 212 = .ok (.ireturn, 1) := by decide +kernel
theorem dX11_plays_213 : decode cX11_plays 213 = .ok (.iconst 1, 1) := by decide +kernel
theorem dX11_plays_214 : decode cX11_plays 214 = .ok (.ireturn, 1) := by decide +kernel
theorem dX11_chance_0 : decode cX11_chance 0 = .ok (.aload_n 0, 1) := by decide +kernel
theorem dX11_chance_1 : decode cX11_chance 1 = .ok (.getfield 10, 3) := by decide +kernel
theorem dX11_chance_4 : decode cX11_chance 4 = .ok (.getfield 134, 3) := by decide +kernel
theorem dX11_chance_7 : decode cX11_chance 7 = .ok (.astore_n 1, 1) := by decide +kernel
theorem dX11_chance_8 : decode cX11_chance 8 = .ok (.aload_n 0, 1) := by decide +kernel
theorem dX11_chance_9 : decode cX11_chance 9 = .ok (.getfield 10, 3) := by decide +kernel
theorem dX11_chance_12 : decode cX11_chance 12 = .ok (.getfield 67, 3) := by decide +kernel
theorem dX11_chance_15 : decode cX11_chance 15 = .ok (.astore_n 2, 1) := by decide +kernel
theorem dX11_chance_16 : decode cX11_chance 16 = .ok (.aload_n 2, 1) := by decide +kernel
theorem dX11_chance_17 : decode cX11_chance 17 = .ok (.getfield 166, 3) := by decide +kernel
theorem dX11_chance_20 : decode cX11_chance 20 = .ok (.ifCond .eq 10, 3) := by decide +kernel
theorem dX11_chance_23 : decode cX11_chance 23 = .ok (.aload_n 2, 1) := by decide +kernel
theorem dX11_chance_24 : decode cX11_chance 24 = .ok (.getfield 169, 3) := by decide +kernel
theorem dX11_chance_27 : decode cX11_chance 27 = .ok (.ifCond .ne 4, 3) := by decide +kernel
theorem dX11_chance_30 : decode cX11_chance 30 = .ok (.return_, 1) := by decide +kernel
theorem dX11_chance_31 : decode cX11_chance 31 = .ok (.aload_n 1, 1) := by decide +kernel
theorem dX11_chance_32 : decode cX11_chance 32 = .ok (.getfield 172, 3) := by decide +kernel
theorem dX11_chance_35 : decode cX11_chance 35 = .ok (.istore_n 3, 1) := by decide +kernel
theorem dX11_chance_36 : decode cX11_chance 36 = .ok (.aload_n 1, 1) := by decide +kernel
theorem dX11_chance_37 : decode cX11_chance 37 = .ok (.invokevirtual 227, 3) := by decide +kernel
theorem dX11_chance_40 : decode cX11_chance 40 = .ok (.iload_n 3, 1) := by decide +kernel
theorem dX11_chance_41 : decode cX11_chance 41 = .ok (.iconst 5, 1) := by decide +kernel
theorem dX11_chance_42 : decode cX11_chance 42 = .ok (.irem, 1) := by decide +kernel
theorem dX11_chance_43 : decode cX11_chance 43 = .ok (.tableswitch 101 0 2 #[25, 55, 85], 25) := by decide +kernel
theorem dX11_chance_68 : decode cX11_chance 68 = .ok (.aload_n 0, 1) := by decide +kernel
theorem dX11_chance_69 : decode cX11_chance 69 = .ok (.getfield 10, 3) := by decide +kernel
theorem dX11_chance_72 : decode cX11_chance 72 = .ok (.iload_n 3, 1) := by decide +kernel
theorem dX11_chance_73 : decode cX11_chance 73 = .ok (.aload_n 2, 1) := by decide +kernel
theorem dX11_chance_74 : decode cX11_chance 74 = .ok (.getfield 166, 3) := by decide +kernel
theorem dX11_chance_77 : decode cX11_chance 77 = .ok (.irem, 1) := by decide +kernel
theorem dX11_chance_78 : decode cX11_chance 78 = .ok (.invokevirtual 118, 3) := by decide +kernel
theorem dX11_chance_81 : decode cX11_chance 81 = .ok (.ifCond .eq 77, 3) := by decide +kernel
theorem dX11_chance_84 : decode cX11_chance 84 = .ok (.aload_n 0, 1) := by decide +kernel
theorem dX11_chance_85 : decode cX11_chance 85 = .ok (.iload_n 3, 1) := by decide +kernel
theorem dX11_chance_86 : decode cX11_chance 86 = .ok (.aload_n 2, 1) := by decide +kernel
theorem dX11_chance_87 : decode cX11_chance 87 = .ok (.getfield 166, 3) := by decide +kernel
theorem dX11_chance_90 : decode cX11_chance 90 = .ok (.irem, 1) := by decide +kernel
theorem dX11_chance_91 : decode cX11_chance 91 = .ok (.invokevirtual 124, 3) := by decide +kernel
theorem dX11_chance_94 : decode cX11_chance 94 = .ok (.pop, 1) := by decide +kernel
theorem dX11_chance_95 : decode cX11_chance 95 = .ok (.goto 63, 3) := by decide +kernel
theorem dX11_chance_98 : decode cX11_chance 98 = .ok (.aload_n 0, 1) := by decide +kernel
theorem dX11_chance_99 : decode cX11_chance 99 = .ok (.getfield 10, 3) := by decide +kernel
theorem dX11_chance_102 : decode cX11_chance 102 = .ok (.iload_n 3, 1) := by decide +kernel
theorem dX11_chance_103 : decode cX11_chance 103 = .ok (.aload_n 2, 1) := by decide +kernel
theorem dX11_chance_104 : decode cX11_chance 104 = .ok (.getfield 169, 3) := by decide +kernel
theorem dX11_chance_107 : decode cX11_chance 107 = .ok (.irem, 1) := by decide +kernel
theorem dX11_chance_108 : decode cX11_chance 108 = .ok (.invokevirtual 128, 3) := by decide +kernel
theorem dX11_chance_111 : decode cX11_chance 111 = .ok (.ifCond .eq 47, 3) := by decide +kernel
theorem dX11_chance_114 : decode cX11_chance 114 = .ok (.aload_n 0, 1) := by decide +kernel
theorem dX11_chance_115 : decode cX11_chance 115 = .ok (.iload_n 3, 1) := by decide +kernel
theorem dX11_chance_116 : decode cX11_chance 116 = .ok (.aload_n 2, 1) := by decide +kernel
theorem dX11_chance_117 : decode cX11_chance 117 = .ok (.getfield 169, 3) := by decide +kernel
theorem dX11_chance_120 : decode cX11_chance 120 = .ok (.irem, 1) := by decide +kernel
theorem dX11_chance_121 : decode cX11_chance 121 = .ok (.invokevirtual 131, 3) := by decide +kernel
theorem dX11_chance_124 : decode cX11_chance 124 = .ok (.pop, 1) := by decide +kernel
theorem dX11_chance_125 : decode cX11_chance 125 = .ok (.goto 33, 3) := by decide +kernel
theorem dX11_chance_128 : decode cX11_chance 128 = .ok (.aload_n 1, 1) := by decide +kernel
theorem dX11_chance_129 : decode cX11_chance 129 = .ok (.aload_n 0, 1) := by decide +kernel
theorem dX11_chance_130 : decode cX11_chance 130 = .ok (.getfield 63, 3) := by decide +kernel
theorem dX11_chance_133 : decode cX11_chance 133 = .ok (.iconst 1, 1) := by decide +kernel
theorem dX11_chance_134 : decode cX11_chance 134 = .ok (.invokevirtual 152, 3) := by decide +kernel
theorem dX11_chance_137 : decode cX11_chance 137 = .ok (.invokevirtual 156, 3) := by decide +kernel
theorem dX11_chance_140 : decode cX11_chance 140 = .ok (.pop, 1) := by decide +kernel
theorem dX11_chance_141 : decode cX11_chance 141 = .ok (.goto 17, 3) := by decide +kernel
theorem dX11_chance_144 : decode cX11_chance 144 = .ok (.aload_n 1, 1) := by decide +kernel
theorem dX11_chance_145 : decode cX11_chance 145 = .ok (.getfield 146, 3) := by decide +kernel
theorem dX11_chance_148 : decode cX11_chance 148 = .ok (.sipush 9999, 3) := by decide +kernel
theorem dX11_chance_151 : decode cX11_chance 151 = .ok (.if_icmp .ge 7, 3) := by decide +kernel
theorem dX11_chance_154 : decode cX11_chance 154 = .ok (.aload_n 1, 1) := by decide +kernel
theorem dX11_chance_155 : decode cX11_chance 155 = .ok (.invokevirtual 205, 3) := by decide +kernel
theorem dX11_chance_158 : decode cX11_chance 158 = .ok (.return_, 1) := by decide +kernel
theorem dX11_ofBell_0 : decode cX11_ofBell 0 = .ok (.aload_n 0, 1) := by decide +kernel
theorem dX11_ofBell_1 : decode cX11_ofBell 1 = .ok (.getfield 10, 3) := by decide +kernel
theorem dX11_ofBell_4 : decode cX11_ofBell 4 = .ok (.getfield 67, 3) := by decide +kernel
theorem dX11_ofBell_7 : decode cX11_ofBell 7 = .ok (.astore_n 3, 1) := by decide +kernel
theorem dX11_ofBell_8 : decode cX11_ofBell 8 = .ok (.aload_n 3, 1) := by decide +kernel
theorem dX11_ofBell_9 : decode cX11_ofBell 9 = .ok (.iload_n 1, 1) := by decide +kernel
theorem dX11_ofBell_10 : decode cX11_ofBell 10 = .ok (.invokevirtual 230, 3) := by decide +kernel
theorem dX11_ofBell_13 : decode cX11_ofBell 13 = .ok (.ifCond .ne 5, 3) := by decide +kernel
theorem dX11_ofBell_16 : decode cX11_ofBell 16 = .ok (.iconst (-1), 1) := by decide +kernel
theorem dX11_ofBell_17 : decode cX11_ofBell 17 = .ok (.ireturn, 1) := by decide +kernel
theorem dX11_ofBell_18 : decode cX11_ofBell 18 = .ok (.iload_n 2, 1) := by decide +kernel
theorem dX11_ofBell_19 : decode cX11_ofBell 19 = .ok (.tableswitch 87 0 3 #[29, 36, 43, 50], 29) := by decide +kernel
theorem dX11_ofBell_48 : decode cX11_ofBell 48 = .ok (.aload_n 3, 1) := by decide +kernel
theorem dX11_ofBell_49 : decode cX11_ofBell 49 = .ok (.getfield 233, 3) := by decide +kernel
theorem dX11_ofBell_52 : decode cX11_ofBell 52 = .ok (.iload_n 1, 1) := by decide +kernel
theorem dX11_ofBell_53 : decode cX11_ofBell 53 = .ok (.iaload, 1) := by decide +kernel
theorem dX11_ofBell_54 : decode cX11_ofBell 54 = .ok (.ireturn, 1) := by decide +kernel
theorem dX11_ofBell_55 : decode cX11_ofBell 55 = .ok (.aload_n 3, 1) := by decide +kernel
theorem dX11_ofBell_56 : decode cX11_ofBell 56 = .ok (.getfield 236, 3) := by decide +kernel
theorem dX11_ofBell_59 : decode cX11_ofBell 59 = .ok (.iload_n 1, 1) := by decide +kernel
theorem dX11_ofBell_60 : decode cX11_ofBell 60 = .ok (.iaload, 1) := by decide +kernel
theorem dX11_ofBell_61 : decode cX11_ofBell 61 = .ok (.ireturn, 1) := by decide +kernel
theorem dX11_ofBell_62 : decode cX11_ofBell 62 = .ok (.aload_n 3, 1) := by decide +kernel
theorem dX11_ofBell_63 : decode cX11_ofBell 63 = .ok (.getfield 239, 3) := by decide +kernel
theorem dX11_ofBell_66 : decode cX11_ofBell 66 = .ok (.iload_n 1, 1) := by decide +kernel
theorem dX11_ofBell_67 : decode cX11_ofBell 67 = .ok (.iaload, 1) := by decide +kernel
theorem dX11_ofBell_68 : decode cX11_ofBell 68 = .ok (.ireturn, 1) := by decide +kernel
theorem dX11_ofBell_69 : decode cX11_ofBell 69 = .ok (.aload_n 0, 1) := by decide +kernel
theorem dX11_ofBell_70 : decode cX11_ofBell 70 = .ok (.getfield 54, 3) := by decide +kernel
theorem dX11_ofBell_73 : decode cX11_ofBell 73 = .ok (.iload_n 1, 1) := by decide +kernel
theorem dX11_ofBell_74 : decode cX11_ofBell 74 = .ok (.aload_n 0, 1) := by decide +kernel
theorem dX11_ofBell_75 : decode cX11_ofBell 75 = .ok (.getfield 10, 3) := by decide +kernel
theorem dX11_ofBell_78 : decode cX11_ofBell 78 = .ok (.getfield 134, 3) := by decide +kernel
theorem dX11_ofBell_81 : decode cX11_ofBell 81 = .ok (.getfield 188, 3) := by decide +kernel
theorem dX11_ofBell_84 : decode cX11_ofBell 84 = .ok (.aload_n 0, 1) := by decide +kernel
theorem dX11_ofBell_85 : decode cX11_ofBell 85 = .ok (.getfield 10, 3) := by decide +kernel
theorem dX11_ofBell_88 : decode cX11_ofBell 88 = .ok (.getfield 134, 3) := by decide +kernel
theorem dX11_ofBell_91 : decode cX11_ofBell 91 = .ok (.getfield 143, 3) := by decide +kernel
theorem dX11_ofBell_94 : decode cX11_ofBell 94 = .ok (.invokevirtual 191, 3) := by decide +kernel
theorem dX11_ofBell_97 : decode cX11_ofBell 97 = .ok (.ifCond .eq 7, 3) := by decide +kernel
theorem dX11_ofBell_100 : decode cX11_ofBell 100 = .ok (.iconst 1, 1) := by decide +kernel
theorem dX11_ofBell_101 : decode cX11_ofBell 101 = .ok (.goto 4, 3) := by decide +kernel
theorem dX11_ofBell_104 : decode cX11_ofBell 104 = .ok (.iconst 0, 1) := by decide +kernel
theorem dX11_ofBell_105 : decode cX11_ofBell 105 = .ok (.ireturn, 1) := by decide +kernel
theorem dX11_ofBell_106 : decode cX11_ofBell 106 = .ok (.iconst (-1), 1) := by decide +kernel
theorem dX11_ofBell_107 : decode cX11_ofBell 107 = .ok (.ireturn, 1) := by decide +kernel
theorem dX11_ofWord_0 : decode cX11_ofWord 0 = .ok (.aload_n 0, 1) := by decide +kernel
theorem dX11_ofWord_1 : decode cX11_ofWord 1 = .ok (.getfield 10, 3) := by decide +kernel
theorem dX11_ofWord_4 : decode cX11_ofWord 4 = .ok (.getfield 67, 3) := by decide +kernel
theorem dX11_ofWord_7 : decode cX11_ofWord 7 = .ok (.astore_n 3, 1) := by decide +kernel
theorem dX11_ofWord_8 : decode cX11_ofWord 8 = .ok (.aload_n 3, 1) := by decide +kernel
theorem dX11_ofWord_9 : decode cX11_ofWord 9 = .ok (.iload_n 1, 1) := by decide +kernel
theorem dX11_ofWord_10 : decode cX11_ofWord 10 = .ok (.invokevirtual 242, 3) := by decide +kernel
theorem dX11_ofWord_13 : decode cX11_ofWord 13 = .ok (.ifCond .ne 6, 3) := by decide +kernel
theorem dX11_ofWord_16 : decode cX11_ofWord 16 = .ok (.bipush (-2), 2) := by decide +kernel
theorem dX11_ofWord_18 : decode cX11_ofWord 18 = .ok (.ireturn, 1) := by decide +kernel
theorem dX11_ofWord_19 : decode cX11_ofWord 19 = .ok (.iload_n 2, 1) := by decide +kernel
theorem dX11_ofWord_20 : decode cX11_ofWord 20 = .ok (.tableswitch 59 0 3 #[32, 39, 46, 53], 32) := by decide +kernel
theorem dX11_ofWord_52 : decode cX11_ofWord 52 = .ok (.aload_n 3, 1) := by decide +kernel
theorem dX11_ofWord_53 : decode cX11_ofWord 53 = .ok (.getfield 245, 3) := by decide +kernel
theorem dX11_ofWord_56 : decode cX11_ofWord 56 = .ok (.iload_n 1, 1) := by decide +kernel
theorem dX11_ofWord_57 : decode cX11_ofWord 57 = .ok (.iaload, 1) := by decide +kernel
theorem dX11_ofWord_58 : decode cX11_ofWord 58 = .ok (.ireturn, 1) := by decide +kernel
theorem dX11_ofWord_59 : decode cX11_ofWord 59 = .ok (.aload_n 3, 1) := by decide +kernel
theorem dX11_ofWord_60 : decode cX11_ofWord 60 = .ok (.getfield 248, 3) := by decide +kernel
theorem dX11_ofWord_63 : decode cX11_ofWord 63 = .ok (.iload_n 1, 1) := by decide +kernel
theorem dX11_ofWord_64 : decode cX11_ofWord 64 = .ok (.iaload, 1) := by decide +kernel
theorem dX11_ofWord_65 : decode cX11_ofWord 65 = .ok (.ireturn, 1) := by decide +kernel
theorem dX11_ofWord_66 : decode cX11_ofWord 66 = .ok (.aload_n 3, 1) := by decide +kernel
theorem dX11_ofWord_67 : decode cX11_ofWord 67 = .ok (.getfield 198, 3) := by decide +kernel
theorem dX11_ofWord_70 : decode cX11_ofWord 70 = .ok (.iload_n 1, 1) := by decide +kernel
theorem dX11_ofWord_71 : decode cX11_ofWord 71 = .ok (.iaload, 1) := by decide +kernel
theorem dX11_ofWord_72 : decode cX11_ofWord 72 = .ok (.ireturn, 1) := by decide +kernel
theorem dX11_ofWord_73 : decode cX11_ofWord 73 = .ok (.aload_n 3, 1) := by decide +kernel
theorem dX11_ofWord_74 : decode cX11_ofWord 74 = .ok (.iload_n 1, 1) := by decide +kernel
theorem dX11_ofWord_75 : decode cX11_ofWord 75 = .ok (.invokevirtual 251, 3) := by decide +kernel
theorem dX11_ofWord_78 : decode cX11_ofWord 78 = .ok (.ireturn, 1) := by decide +kernel
theorem dX11_ofWord_79 : decode cX11_ofWord 79 = .ok (.iload_n 2, 1) := by decide +kernel
theorem dX11_ofWord_80 : decode cX11_ofWord 80 = .ok (.iconst 4, 1) := by decide +kernel
theorem dX11_ofWord_81 : decode cX11_ofWord 81 = .ok (.bipush 7, 2) := by decide +kernel
theorem dX11_ofWord_83 : decode cX11_ofWord 83 = .ok (.invokestatic 81, 3) := by decide +kernel
theorem dX11_ofWord_86 : decode cX11_ofWord 86 = .ok (.ifCond .eq 14, 3) := by decide +kernel
theorem dX11_ofWord_89 : decode cX11_ofWord 89 = .ok (.aload_n 3, 1) := by decide +kernel
theorem dX11_ofWord_90 : decode cX11_ofWord 90 = .ok (.iload_n 1, 1) := by decide +kernel
theorem dX11_ofWord_91 : decode cX11_ofWord 91 = .ok (.iload_n 2, 1) := by decide +kernel
theorem dX11_ofWord_92 : decode cX11_ofWord 92 = .ok (.iconst 4, 1) := by decide +kernel
theorem dX11_ofWord_93 : decode cX11_ofWord 93 = .ok (.isub, 1) := by decide +kernel
theorem dX11_ofWord_94 : decode cX11_ofWord 94 = .ok (.invokevirtual 201, 3) := by decide +kernel
theorem dX11_ofWord_97 : decode cX11_ofWord 97 = .ok (.goto 5, 3) := by decide +kernel
theorem dX11_ofWord_100 : decode cX11_ofWord 100 = .ok (.bipush (-2), 2) := by decide +kernel
theorem dX11_ofWord_102 : decode cX11_ofWord 102 = .ok (.ireturn, 1) := by decide +kernel
theorem dX11_is_0 : decode cX11_is 0 = .ok (.aload_n 0, 1) := by decide +kernel
theorem dX11_is_1 : decode cX11_is 1 = .ok (.getfield 10, 3) := by decide +kernel
theorem dX11_is_4 : decode cX11_is 4 = .ok (.getfield 134, 3) := by decide +kernel
theorem dX11_is_7 : decode cX11_is 7 = .ok (.astore_n 2, 1) := by decide +kernel
theorem dX11_is_8 : decode cX11_is 8 = .ok (.iload_n 1, 1) := by decide +kernel
theorem dX11_is_9 : decode cX11_is 9 = .ok (.tableswitch 63 0 4 #[35, 40, 45, 50, 58], 35) := by decide +kernel
theorem dX11_is_44 : decode cX11_is 44 = .ok (.aload_n 2, 1) := by decide +kernel
theorem dX11_is_45 : decode cX11_is 45 = .ok (.getfield 143, 3) := by decide +kernel
theorem dX11_is_48 : decode cX11_is 48 = .ok (.ireturn, 1) := by decide +kernel
theorem dX11_is_49 : decode cX11_is 49 = .ok (.aload_n 2, 1) := by decide +kernel
theorem dX11_is_50 : decode cX11_is 50 = .ok (.getfield 138, 3) := by decide +kernel
theorem dX11_is_53 : decode cX11_is 53 = .ok (.ireturn, 1) := by decide +kernel
theorem dX11_is_54 : decode cX11_is 54 = .ok (.aload_n 2, 1) := by decide +kernel
theorem dX11_is_55 : decode cX11_is 55 = .ok (.getfield 146, 3) := by decide +kernel
theorem dX11_is_58 : decode cX11_is 58 = .ok (.ireturn, 1) := by decide +kernel
theorem dX11_is_59 : decode cX11_is 59 = .ok (.aload_n 0, 1) := by decide +kernel
theorem dX11_is_60 : decode cX11_is 60 = .ok (.getfield 10, 3) := by decide +kernel
theorem dX11_is_63 : decode cX11_is 63 = .ok (.getfield 85, 3) := by decide +kernel
theorem dX11_is_66 : decode cX11_is 66 = .ok (.ireturn, 1) := by decide +kernel
theorem dX11_is_67 : decode cX11_is 67 = .ok (.aload_n 2, 1) := by decide +kernel
theorem dX11_is_68 : decode cX11_is 68 = .ok (.getfield 172, 3) := by decide +kernel
theorem dX11_is_71 : decode cX11_is 71 = .ok (.ireturn, 1) := by decide +kernel
theorem dX11_is_72 : decode cX11_is 72 = .ok (.bipush (-2), 2) := by decide +kernel
theorem dX11_is_74 : decode cX11_is 74 = .ok (.ireturn, 1) := by decide +kernel
theorem dX11_rung_0 : decode cX11_rung 0 = .ok (.aload_n 0, 1) := by decide +kernel
theorem dX11_rung_1 : decode cX11_rung 1 = .ok (.getfield 10, 3) := by decide +kernel
theorem dX11_rung_4 : decode cX11_rung 4 = .ok (.getfield 134, 3) := by decide +kernel
theorem dX11_rung_7 : decode cX11_rung 7 = .ok (.astore_n 2, 1) := by decide +kernel
theorem dX11_rung_8 : decode cX11_rung 8 = .ok (.iload_n 1, 1) := by decide +kernel
theorem dX11_rung_9 : decode cX11_rung 9 = .ok (.iconst (-1), 1) := by decide +kernel
theorem dX11_rung_10 : decode cX11_rung 10 = .ok (.if_icmp .ne 8, 3) := by decide +kernel
theorem dX11_rung_13 : decode cX11_rung 13 = .ok (.aload_n 2, 1) := by decide +kernel
theorem dX11_rung_14 : decode cX11_rung 14 = .ok (.getfield 188, 3) := by decide +kernel
theorem dX11_rung_17 : decode cX11_rung 17 = .ok (.ireturn, 1) := by decide +kernel
theorem dX11_rung_18 : decode cX11_rung 18 = .ok (.iload_n 1, 1) := by decide +kernel
theorem dX11_rung_19 : decode cX11_rung 19 = .ok (.iconst 0, 1) := by decide +kernel
theorem dX11_rung_20 : decode cX11_rung 20 = .ok (.aload_n 2, 1) := by decide +kernel
theorem dX11_rung_21 : decode cX11_rung 21 = .ok (.getfield 188, 3) := by decide +kernel
theorem dX11_rung_24 : decode cX11_rung 24 = .ok (.iconst 1, 1) := by decide +kernel
theorem dX11_rung_25 : decode cX11_rung 25 = .ok (.isub, 1) := by decide +kernel
theorem dX11_rung_26 : decode cX11_rung 26 = .ok (.invokestatic 81, 3) := by decide +kernel
theorem dX11_rung_29 : decode cX11_rung 29 = .ok (.ifCond .eq 12, 3) := by decide +kernel
theorem dX11_rung_32 : decode cX11_rung 32 = .ok (.aload_n 2, 1) := by decide +kernel
theorem dX11_rung_33 : decode cX11_rung 33 = .ok (.getfield 254, 3) := by decide +kernel
theorem dX11_rung_36 : decode cX11_rung 36 = .ok (.iload_n 1, 1) := by decide +kernel
theorem dX11_rung_37 : decode cX11_rung 37 = .ok (.iaload, 1) := by decide +kernel
theorem dX11_rung_38 : decode cX11_rung 38 = .ok (.goto 5, 3) := by decide +kernel
theorem dX11_rung_41 : decode cX11_rung 41 = .ok (.bipush (-2), 2) := by decide +kernel
theorem dX11_rung_43 : decode cX11_rung 43 = .ok (.ireturn, 1) := by decide +kernel
theorem dX11_heard_0 : decode cX11_heard 0 = .ok (.aload_n 0, 1) := by decide +kernel
theorem dX11_heard_1 : decode cX11_heard 1 = .ok (.getfield 63, 3) := by decide +kernel
theorem dX11_heard_4 : decode cX11_heard 4 = .ok (.invokevirtual 257, 3) := by decide +kernel
theorem dX11_heard_7 : decode cX11_heard 7 = .ok (.iload_n 1, 1) := by decide +kernel
theorem dX11_heard_8 : decode cX11_heard 8 = .ok (.iconst (-1), 1) := by decide +kernel
theorem dX11_heard_9 : decode cX11_heard 9 = .ok (.if_icmp .ne 11, 3) := by decide +kernel
theorem dX11_heard_12 : decode cX11_heard 12 = .ok (.aload_n 0, 1) := by decide +kernel
theorem dX11_heard_13 : decode cX11_heard 13 = .ok (.getfield 63, 3) := by decide +kernel
theorem dX11_heard_16 : decode cX11_heard 16 = .ok (.getfield 260, 3) := by decide +kernel
theorem dX11_heard_19 : decode cX11_heard 19 = .ok (.ireturn, 1) := by decide +kernel
theorem dX11_heard_20 : decode cX11_heard 20 = .ok (.iload_n 1, 1) := by decide +kernel
theorem dX11_heard_21 : decode cX11_heard 21 = .ok (.iconst 0, 1) := by decide +kernel
theorem dX11_heard_22 : decode cX11_heard 22 = .ok (.aload_n 0, 1) := by decide +kernel
theorem dX11_heard_23 : decode cX11_heard 23 = .ok (.getfield 63, 3) := by decide +kernel
theorem dX11_heard_26 : decode cX11_heard 26 = .ok (.getfield 260, 3) := by decide +kernel
theorem dX11_heard_29 : decode cX11_heard 29 = .ok (.iconst 1, 1) := by decide +kernel
theorem dX11_heard_30 : decode cX11_heard 30 = .ok (.isub, 1) := by decide +kernel
theorem dX11_heard_31 : decode cX11_heard 31 = .ok (.invokestatic 81, 3) := by decide +kernel
theorem dX11_heard_34 : decode cX11_heard 34 = .ok (.ifCond .eq 15, 3) := by decide +kernel
theorem dX11_heard_37 : decode cX11_heard 37 = .ok (.aload_n 0, 1) := by decide +kernel
theorem dX11_heard_38 : decode cX11_heard 38 = .ok (.getfield 63, 3) := by decide +kernel
theorem dX11_heard_41 : decode cX11_heard 41 = .ok (.getfield 263, 3) := by decide +kernel
theorem dX11_heard_44 : decode cX11_heard 44 = .ok (.iload_n 1, 1) := by decide +kernel
theorem dX11_heard_45 : decode cX11_heard 45 = .ok (.iaload, 1) := by decide +kernel
theorem dX11_heard_46 : decode cX11_heard 46 = .ok (.goto 5, 3) := by decide +kernel
theorem dX11_heard_49 : decode cX11_heard 49 = .ok (.bipush (-2), 2) := by decide +kernel
theorem dX11_heard_51 : decode cX11_heard 51 = .ok (.ireturn, 1) := by decide +kernel
