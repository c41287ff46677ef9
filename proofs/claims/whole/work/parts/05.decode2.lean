/-! decode rows, printed by program, part 2 -/
theorem dX12_isIn_0 : decode cX12_isIn 0 = .ok (.iload_n 0, 1) := by decide +kernel
theorem dX12_isIn_1 : decode cX12_isIn 1 = .ok (.iload_n 1, 1) := by decide +kernel
theorem dX12_isIn_2 : decode cX12_isIn 2 = .ok (.if_icmp .lt 12, 3) := by decide +kernel
theorem dX12_isIn_5 : decode cX12_isIn 5 = .ok (.iload_n 0, 1) := by decide +kernel
theorem dX12_isIn_6 : decode cX12_isIn 6 = .ok (.iload_n 2, 1) := by decide +kernel
theorem dX12_isIn_7 : decode cX12_isIn 7 = .ok (.if_icmp .gt 7, 3) := by decide +kernel
theorem dX12_isIn_10 : decode cX12_isIn 10 = .ok (.iconst 1, 1) := by decide +kernel
theorem dX12_isIn_11 : decode cX12_isIn 11 = .ok (.goto 4, 3) := by decide +kernel
theorem dX12_isIn_14 : decode cX12_isIn 14 = .ok (.iconst 0, 1) := by decide +kernel
theorem dX12_isIn_15 : decode cX12_isIn 15 = .ok (.ireturn, 1) := by decide +kernel
theorem dX12_has_0 : decode cX12_has 0 = .ok (.iload_n 0, 1) := by decide +kernel
theorem dX12_has_1 : decode cX12_has 1 = .ok (.iload_n 1, 1) := by decide +kernel
theorem dX12_has_2 : decode cX12_has 2 = .ok (.ishr, 1) := by decide +kernel
theorem dX12_has_3 : decode cX12_has 3 = .ok (.iconst 1, 1) := by decide +kernel
theorem dX12_has_4 : decode cX12_has 4 = .ok (.iand, 1) := by decide +kernel
theorem dX12_has_5 : decode cX12_has 5 = .ok (.iconst 1, 1) := by decide +kernel
theorem dX12_has_6 : decode cX12_has 6 = .ok (.if_icmp .ne 7, 3) := by decide +kernel
theorem dX12_has_9 : decode cX12_has 9 = .ok (.iconst 1, 1) := by decide +kernel
theorem dX12_has_10 : decode cX12_has 10 = .ok (.goto 4, 3) := by decide +kernel
theorem dX12_has_13 : decode cX12_has 13 = .ok (.iconst 0, 1) := by decide +kernel
theorem dX12_has_14 : decode cX12_has 14 = .ok (.ireturn, 1) := by decide +kernel
theorem dX12_bits_0 : decode cX12_bits 0 = .ok (.iconst 0, 1) := by decide +kernel
theorem dX12_bits_1 : decode cX12_bits 1 = .ok (.istore_n 1, 1) := by decide +kernel
theorem dX12_bits_2 : decode cX12_bits 2 = .ok (.iload_n 0, 1) := by decide +kernel
theorem dX12_bits_3 : decode cX12_bits 3 = .ok (.istore_n 2, 1) := by decide +kernel
theorem dX12_bits_4 : decode cX12_bits 4 = .ok (.iload_n 2, 1) := by decide +kernel
theorem dX12_bits_5 : decode cX12_bits 5 = .ok (.ifCond .eq 15, 3) := by decide +kernel
theorem dX12_bits_8 : decode cX12_bits 8 = .ok (.iinc 1 1, 3) := by decide +kernel
theorem dX12_bits_11 : decode cX12_bits 11 = .ok (.iload_n 2, 1) := by decide +kernel
theorem dX12_bits_12 : decode cX12_bits 12 = .ok (.iload_n 2, 1) := by decide +kernel
theorem dX12_bits_13 : decode cX12_bits 13 = .ok (.iconst 1, 1) := by decide +kernel
theorem dX12_bits_14 : decode cX12_bits 14 = .ok (.isub, 1) := by decide +kernel
theorem dX12_bits_15 : decode cX12_bits 15 = .ok (.iand, 1) := by decide +kernel
theorem dX12_bits_16 : decode cX12_bits 16 = .ok (.istore_n 2, 1) := by decide +kernel
theorem dX12_bits_17 : decode cX12_bits 17 = .ok (.goto (-13), 3) := by decide +kernel
theorem dX12_bits_20 : decode cX12_bits 20 = .ok (.iload_n 1, 1) := by decide +kernel
theorem dX12_bits_21 : decode cX12_bits 21 = .ok (.ireturn, 1) := by decide +kernel
theorem dX12_least_0 : decode cX12_least 0 = .ok (.iconst 0, 1) := by decide +kernel
theorem dX12_least_1 : decode cX12_least 1 = .ok (.istore_n 1, 1) := by decide +kernel
theorem dX12_least_2 : decode cX12_least 2 = .ok (.iload_n 0, 1) := by decide +kernel
theorem dX12_least_3 : decode cX12_least 3 = .ok (.iload_n 1, 1) := by decide +kernel
theorem dX12_least_4 : decode cX12_least 4 = .ok (.invokestatic 7, 3) := by decide +kernel
theorem dX12_least_7 : decode cX12_least 7 = .ok (.ifCond .ne 9, 3) := by decide +kernel
theorem dX12_least_10 : decode cX12_least 10 = .ok (.iinc 1 1, 3) := by decide +kernel
theorem dX12_least_13 : decode cX12_least 13 = .ok (.goto (-11), 3) := by decide +kernel
theorem dX12_least_16 : decode cX12_least 16 = .ok (.iload_n 1, 1) := by decide +kernel
theorem dX12_least_17 : decode cX12_least 17 = .ok (.ireturn, 1) := by decide +kernel
theorem dX12_lay_0 : decode cX12_lay 0 = .ok (.bipush 24, 2) := by decide +kernel
theorem dX12_lay_2 : decode cX12_lay 2 = .ok (.istore_n 2, 1) := by decide +kernel
theorem dX12_lay_3 : decode cX12_lay 3 = .ok (.iload_n 2, 1) := by decide +kernel
theorem dX12_lay_4 : decode cX12_lay 4 = .ok (.ifCond .lt 35, 3) := by decide +kernel
theorem dX12_lay_7 : decode cX12_lay 7 = .ok (.aload_n 0, 1) := by decide +kernel
theorem dX12_lay_8 : decode cX12_lay 8 = .ok (.getfield 11, 3) := by decide +kernel
theorem dX12_lay_11 : decode cX12_lay 11 = .ok (.aload_n 0, 1) := by decide +kernel
theorem dX12_lay_12 : decode cX12_lay 12 = .ok (.getfield 15, 3) := by decide +kernel
theorem dX12_lay_15 : decode cX12_lay 15 = .ok (.iload_n 1, 1) := by decide +kernel
theorem dX12_lay_16 : decode cX12_lay 16 = .ok (.iload_n 2, 1) := by decide +kernel
theorem dX12_lay_17 : decode cX12_lay 17 = .ok (.iushr, 1) := by decide +kernel
theorem dX12_lay_18 : decode cX12_lay 18 = .ok (.sipush 255, 3) := by decide +kernel
theorem dX12_lay_21 : decode cX12_lay 21 = .ok (.iand, 1) := by decide +kernel
theorem dX12_lay_22 : decode cX12_lay 22 = .ok (.iastore, 1) := by decide +kernel
theorem dX12_lay_23 : decode cX12_lay 23 = .ok (.aload_n 0, 1) := by decide +kernel
theorem dX12_lay_24 : decode cX12_lay 24 = .ok (.dup, 1) := by decide +kernel
theorem dX12_lay_25 : decode cX12_lay 25 = .ok (.getfield 15, 3) := by decide +kernel
theorem dX12_lay_28 : decode cX12_lay 28 = .ok (.iconst 1, 1) := by decide +kernel
theorem dX12_lay_29 : decode cX12_lay 29 = .ok (.iadd, 1) := by decide +kernel
theorem dX12_lay_30 : decode cX12_lay 30 = .ok (.putfield 15, 3) := by decide +kernel
theorem dX12_lay_33 : decode cX12_lay 33 = .ok (.iinc 2 (-8), 3) := by decide +kernel
theorem dX12_lay_36 : decode cX12_lay 36 = .ok (.goto (-33), 3) := by decide +kernel
theorem dX12_lay_39 : decode cX12_lay 39 = .ok (.return_, 1) := by decide +kernel
theorem dX12_feed_0 : decode cX12_feed 0 = .ok (.aload_n 0, 1) := by decide +kernel
theorem dX12_feed_1 : decode cX12_feed 1 = .ok (.iconst 0, 1) := by decide +kernel
theorem dX12_feed_2 : decode cX12_feed 2 = .ok (.putfield 1, 3) := by decide +kernel
theorem dX12_feed_5 : decode cX12_feed 5 = .ok (.aload_n 0, 1) := by decide +kernel
theorem dX12_feed_6 : decode cX12_feed 6 = .ok (.getfield 15, 3) := by decide +kernel
theorem dX12_feed_9 : decode cX12_feed 9 = .ok (.bipush 20, 2) := by decide +kernel
theorem dX12_feed_11 : decode cX12_feed 11 = .ok (.iadd, 1) := by decide +kernel
theorem dX12_feed_12 : decode cX12_feed 12 = .ok (.sipush 640, 3) := by decide +kernel
theorem dX12_feed_15 : decode cX12_feed 15 = .ok (.if_icmp .le 5, 3) := by decide +kernel
theorem dX12_feed_18 : decode cX12_feed 18 = .ok (.iconst (-1), 1) := by decide +kernel
theorem dX12_feed_19 : decode cX12_feed 19 = .ok (.ireturn, 1) := by decide +kernel
theorem dX12_feed_20 : decode cX12_feed 20 = .ok (.aload_n 0, 1) := by decide +kernel
theorem dX12_feed_21 : decode cX12_feed 21 = .ok (.iload_n 1, 1) := by decide +kernel
theorem dX12_feed_22 : decode cX12_feed 22 = .ok (.invokevirtual 18, 3) := by decide +kernel
theorem dX12_feed_25 : decode cX12_feed 25 = .ok (.aload_n 0, 1) := by decide +kernel
theorem dX12_feed_26 : decode cX12_feed 26 = .ok (.iload_n 2, 1) := by decide +kernel
theorem dX12_feed_27 : decode cX12_feed 27 = .ok (.invokevirtual 18, 3) := by decide +kernel
theorem dX12_feed_30 : decode cX12_feed 30 = .ok (.aload_n 0, 1) := by decide +kernel
theorem dX12_feed_31 : decode cX12_feed 31 = .ok (.iload_n 3, 1) := by decide +kernel
theorem dX12_feed_32 : decode cX12_feed 32 = .ok (.invokevirtual 18, 3) := by decide +kernel
theorem dX12_feed_35 : decode cX12_feed 35 = .ok (.aload_n 0, 1) := by decide +kernel
theorem dX12_feed_36 : decode cX12_feed 36 = .ok (.iload 4, 2) := by decide +kernel
theorem dX12_feed_38 : decode cX12_feed 38 = .ok (.invokevirtual 18, 3) := by decide +kernel
theorem dX12_feed_41 : decode cX12_feed 41 = .ok (.aload_n 0, 1) := by decide +kernel
theorem dX12_feed_42 : decode cX12_feed 42 = .ok (.iload 5, 2) := by decide +kernel
theorem dX12_feed_44 : decode cX12_feed 44 = .ok (.invokevirtual 18, 3) := by decide +kernel
theorem dX12_feed_47 : decode cX12_feed 47 = .ok (.aload_n 0, 1) := by decide +kernel
theorem dX12_feed_48 : decode cX12_feed 48 = .ok (.getfield 15, 3) := by decide +kernel
theorem dX12_feed_51 : decode cX12_feed 51 = .ok (.ireturn, 1) := by decide +kernel
theorem dX12_end_0 : decode cX12_end 0 = .ok (.aload_n 0, 1) := by decide +kernel
theorem dX12_end_1 : decode cX12_end 1 = .ok (.iconst 0, 1) := by decide +kernel
theorem dX12_end_2 : decode cX12_end 2 = .ok (.putfield 1, 3) := by decide +kernel
theorem dX12_end_5 : decode cX12_end 5 = .ok (.iload_n 1, 1) := by decide +kernel
theorem dX12_end_6 : decode cX12_end 6 = .ok (.ifCond .lt 11, 3) := by decide +kernel
theorem dX12_end_9 : decode cX12_end 9 = .ok (.iload_n 1, 1) := by decide +kernel
theorem dX12_end_10 : decode cX12_end 10 = .ok (.aload_n 0, 1) := by decide +kernel
theorem dX12_end_11 : decode cX12_end 11 = .ok (.getfield 15, 3) := by decide +kernel
theorem dX12_end_14 : decode cX12_end 14 = .ok (.if_icmp .le 5, 3) := by decide +kernel
theorem dX12_end_17 : decode cX12_end 17 = .ok (.iconst 0, 1) := by decide +kernel
theorem dX12_end_18 : decode cX12_end 18 = .ok (.ireturn, 1) := by decide +kernel
theorem dX12_end_19 : decode cX12_end 19 = .ok (.aload_n 0, 1) := by decide +kernel
theorem dX12_end_20 : decode cX12_end 20 = .ok (.iload_n 1, 1) := by decide +kernel
theorem dX12_end_21 : decode cX12_end 21 = .ok (.putfield 15, 3) := by decide +kernel
theorem dX12_end_24 : decode cX12_end 24 = .ok (.iconst 1, 1) := by decide +kernel
theorem dX12_end_25 : decode cX12_end 25 = .ok (.ireturn, 1) := by decide +kernel
theorem dX12_tapeAt_0 : decode cX12_tapeAt 0 = .ok (.iload_n 1, 1) := by decide +kernel
theorem dX12_tapeAt_1 : decode cX12_tapeAt 1 = .ok (.aload_n 0, 1) := by decide +kernel
theorem dX12_tapeAt_2 : decode cX12_tapeAt 2 = .ok (.getfield 22, 3) := by decide +kernel
theorem dX12_tapeAt_5 : decode cX12_tapeAt 5 = .ok (.if_icmp .ge 12, 3) := by decide +kernel
theorem dX12_tapeAt_8 : decode cX12_tapeAt 8 = .ok (.aload_n 0, 1) := by decide +kernel
theorem dX12_tapeAt_9 : decode cX12_tapeAt 9 = .ok (.getfield 11, 3) := by decide +kernel
theorem dX12_tapeAt_12 : decode cX12_tapeAt 12 = .ok (.iload_n 1, 1) := by decide +kernel
theorem dX12_tapeAt_13 : decode cX12_tapeAt 13 = .ok (.iaload, 1) := by decide +kernel
theorem dX12_tapeAt_14 : decode cX12_tapeAt 14 = .ok (.goto 4, 3) := by decide +kernel
theorem dX12_tapeAt_17 : decode cX12_tapeAt 17 = .ok (.iconst 0, 1) := by decide +kernel
theorem dX12_tapeAt_18 : decode cX12_tapeAt 18 = .ok (.ireturn, 1) := by decide +kernel
theorem dX12_isDigit_0 : decode cX12_isDigit 0 = .ok (.iload_n 0, 1) := by decide +kernel
theorem dX12_isDigit_1 : decode cX12_isDigit 1 = .ok (.bipush 48, 2) := by decide +kernel
theorem dX12_isDigit_3 : decode cX12_isDigit 3 = .ok (.if_icmp .lt 13, 3) := by decide +kernel
theorem dX12_isDigit_6 : decode cX12_isDigit 6 = .ok (.iload_n 0, 1) := by decide +kernel
theorem dX12_isDigit_7 : decode cX12_isDigit 7 = .ok (.bipush 57, 2) := by decide +kernel
theorem dX12_isDigit_9 : decode cX12_isDigit 9 = .ok (.if_icmp .gt 7, 3) := by decide +kernel
theorem dX12_isDigit_12 : decode cX12_isDigit 12 = .ok (.iconst 1, 1) := by decide +kernel
theorem dX12_isDigit_13 : decode cX12_isDigit 13 = .ok (.goto 4, 3) := by decide +kernel
theorem dX12_isDigit_16 : decode cX12_isDigit 16 = .ok (.iconst 0, 1) := by decide +kernel
theorem dX12_isDigit_17 : decode cX12_isDigit 17 = .ok (.ireturn, 1) := by decide +kernel
theorem dX12_isLetter_0 : decode cX12_isLetter 0 = .ok (.iload_n 0, 1) := by decide +kernel
theorem dX12_isLetter_1 : decode cX12_isLetter 1 = .ok (.bipush 97, 2) := by decide +kernel
theorem dX12_isLetter_3 : decode cX12_isLetter 3 = .ok (.if_icmp .lt 13, 3) := by decide +kernel
theorem dX12_isLetter_6 : decode cX12_isLetter 6 = .ok (.iload_n 0, 1) := by decide +kernel
theorem dX12_isLetter_7 : decode cX12_isLetter 7 = .ok (.bipush 122, 2) := by decide +kernel
theorem dX12_isLetter_9 : decode cX12_isLetter 9 = .ok (.if_icmp .gt 7, 3) := by decide +kernel
theorem dX12_isLetter_12 : decode cX12_isLetter 12 = .ok (.iconst 1, 1) := by decide +kernel
theorem dX12_isLetter_13 : decode cX12_isLetter 13 = .ok (.goto 4, 3) := by decide +kernel
theorem dX12_isLetter_16 : decode cX12_isLetter 16 = .ok (.iconst 0, 1) := by decide +kernel
theorem dX12_isLetter_17 : decode cX12_isLetter 17 = .ok (.ireturn, 1) := by decide +kernel
theorem dX12_next_0 : decode cX12_next 0 = .ok (.aload_n 0, 1) := by decide +kernel
theorem dX12_next_1 : decode cX12_next 1 = .ok (.getfield 25, 3) := by decide +kernel
theorem dX12_next_4 : decode cX12_next 4 = .ok (.aload_n 0, 1) := by decide +kernel
theorem dX12_next_5 : decode cX12_next 5 = .ok (.getfield 22, 3) := by decide +kernel
theorem dX12_next_8 : decode cX12_next 8 = .ok (.if_icmp .ge 44, 3) := by decide +kernel
theorem dX12_next_11 : decode cX12_next 11 = .ok (.aload_n 0, 1) := by decide +kernel
theorem dX12_next_12 : decode cX12_next 12 = .ok (.getfield 11, 3) := by decide +kernel
theorem dX12_next_15 : decode cX12_next 15 = .ok (.aload_n 0, 1) := by decide +kernel
theorem dX12_next_16 : decode cX12_next 16 = .ok (.getfield 25, 3) := by decide +kernel
theorem dX12_next_19 : decode cX12_next 19 = .ok (.iaload, 1) := by decide +kernel
theorem dX12_next_20 : decode cX12_next 20 = .ok (.bipush 32, 2) := by decide +kernel
theorem dX12_next_22 : decode cX12_next 22 = .ok (.if_icmp .eq 17, 3) := by decide +kernel
theorem dX12_next_25 : decode cX12_next 25 = .ok (.aload_n 0, 1) := by decide +kernel
theorem dX12_next_26 : decode cX12_next 26 = .ok (.getfield 11, 3) := by decide +kernel
theorem dX12_next_29 : decode cX12_next 29 = .ok (.aload_n 0, 1) := by decide +kernel
theorem dX12_next_30 : decode cX12_next 30 = .ok (.getfield 25, 3) := by decide +kernel
theorem dX12_next_33 : decode cX12_next 33 = .ok (.iaload, 1) := by decide +kernel
theorem dX12_next_34 : decode cX12_next 34 = .ok (.bipush 10, 2) := by decide +kernel
theorem dX12_next_36 : decode cX12_next 36 = .ok (.if_icmp .ne 16, 3) := by decide +kernel
theorem dX12_next_39 : decode cX12_next 39 = .ok (.aload_n 0, 1) := by decide +kernel
theorem dX12_next_40 : decode cX12_next 40 = .ok (.dup, 1) := by decide +kernel
theorem dX12_next_41 : decode cX12_next 41 = .ok (.getfield 25, 3) := by decide +kernel
theorem dX12_next_44 : decode cX12_next 44 = .ok (.iconst 1, 1) := by decide +kernel
theorem dX12_next_45 : decode cX12_next 45 = .ok (.iadd, 1) := by decide +kernel
theorem dX12_next_46 : decode cX12_next 46 = .ok (.putfield 25, 3) := by decide +kernel
theorem dX12_next_49 : decode cX12_next 49 = .ok (.goto (-49), 3) := by decide +kernel
theorem dX12_next_52 : decode cX12_next 52 = .ok (.aload_n 0, 1) := by decide +kernel
theorem dX12_next_53 : decode cX12_next 53 = .ok (.aload_n 0, 1) := by decide +kernel
theorem dX12_next_54 : decode cX12_next 54 = .ok (.getfield 25, 3) := by decide +kernel
theorem dX12_next_57 : decode cX12_next 57 = .ok (.putfield 28, 3) := by decide +kernel
theorem dX12_next_60 : decode cX12_next 60 = .ok (.aload_n 0, 1) := by decide +kernel
theorem dX12_next_61 : decode cX12_next 61 = .ok (.getfield 22, 3) := by decide +kernel
theorem dX12_next_64 : decode cX12_next 64 = .ok (.sipush 600, 3) := by decide +kernel
theorem dX12_next_67 : decode cX12_next 67 = .ok (.if_icmp .le 26, 3) := by decide +kernel
theorem dX12_next_70 : decode cX12_next 70 = .ok (.aload_n 0, 1) := by decide +kernel
theorem dX12_next_71 : decode cX12_next 71 = .ok (.getfield 28, 3) := by decide +kernel
theorem dX12_next_74 : decode cX12_next 74 = .ok (.sipush 600, 3) := by decide +kernel
theorem dX12_next_77 : decode cX12_next 77 = .ok (.if_icmp .lt 16, 3) := by decide +kernel
theorem dX12_next_80 : decode cX12_next 80 = .ok (.aload_n 0, 1) := by decide +kernel
theorem dX12_next_81 : decode cX12_next 81 = .ok (.sipush 600, 3) := by decide +kernel
theorem dX12_next_84 : decode cX12_next 84 = .ok (.putfield 28, 3) := by decide +kernel
theorem dX12_next_87 : decode cX12_next 87 = .ok (.aload_n 0, 1) := by decide +kernel
theorem dX12_next_88 : decode cX12_next 88 = .ok (.iconst 1, 1) := by decide +kernel
theorem dX12_next_89 : decode cX12_next 89 = .ok (.putfield 31, 3) := by decide +kernel
theorem dX12_next_92 : decode cX12_next 92 = .ok (.return_, 1) := by decide +kernel
theorem dX12_next_93 : decode cX12_next 93 = .ok (.aload_n 0, 1) := by decide +kernel
theorem dX12_next_94 : decode cX12_next 94 = .ok (.getfield 25, 3) := by decide +kernel
theorem dX12_next_97 : decode cX12_next 97 = .ok (.aload_n 0, 1) := by decide +kernel
theorem dX12_next_98 : decode cX12_next 98 = .ok (.getfield 22, 3) := by decide +kernel
theorem dX12_next_101 : decode cX12_next 101 = .ok (.if_icmp .lt 9, 3) := by decide +kernel
theorem dX12_next_104 : decode cX12_next 104 = .ok (.aload_n 0, 1) := by decide +kernel
theorem dX12_next_105 : decode cX12_next 105 = .ok (.iconst 0, 1) := by decide +kernel
theorem dX12_next_106 : decode cX12_next 106 = .ok (.putfield 31, 3) := by decide +kernel
theorem dX12_next_109 : decode cX12_next 109 = .ok (.return_, 1) := by decide +kernel
theorem dX12_next_110 : decode cX12_next 110 = .ok (.aload_n 0, 1) := by decide +kernel
theorem dX12_next_111 : decode cX12_next 111 = .ok (.getfield 11, 3) := by decide +kernel
theorem dX12_next_114 : decode cX12_next 114 = .ok (.aload_n 0, 1) := by decide +kernel
theorem dX12_next_115 : decode cX12_next 115 = .ok (.getfield 25, 3) := by decide +kernel
theorem dX12_next_118 : decode cX12_next 118 = .ok (.iaload, 1) := by decide +kernel
theorem dX12_next_119 : decode cX12_next 119 = .ok (.istore_n 1, 1) := by decide +kernel
theorem dX12_next_120 : decode cX12_next 120 = .ok (.iload_n 1, 1) := by decide +kernel
theorem dX12_next_121 : decode cX12_next 121 = .ok (.invokestatic 34, 3) := by decide +kernel
theorem dX12_next_124 : decode cX12_next 124 = .ok (.ifCond .ne 36, 3) := by decide +kernel
theorem dX12_next_127 : decode cX12_next 127 = .ok (.iload_n 1, 1) := by decide +kernel
theorem dX12_next_128 : decode cX12_next 128 = .ok (.invokestatic 38, 3) := by decide +kernel
theorem dX12_next_131 : decode cX12_next 131 = .ok (.ifCond .ne 29, 3) := by decide +kernel
theorem dX12_next_134 : decode cX12_next 134 = .ok (.aload_n 0, 1) := by decide +kernel
theorem dX12_next_135 : decode cX12_next 135 = .ok (.iload_n 1, 1) := by decide +kernel
theorem dX12_next_136 : decode cX12_next 136 = .ok (.bipush 59, 2) := by decide +kernel
theorem dX12_next_138 : decode cX12_next 138 = .ok (.if_icmp .ne 7, 3) := by decide +kernel
theorem dX12_next_141 : decode cX12_next 141 = .ok (.iconst 4, 1) := by decide +kernel
theorem dX12_next_142 : decode cX12_next 142 = .ok (.goto 4, 3) := by decide +kernel
theorem dX12_next_145 : decode cX12_next 145 = .ok (.iconst 1, 1) := by decide +kernel
theorem dX12_next_146 : decode cX12_next 146 = .ok (.putfield 31, 3) := by decide +kernel
theorem dX12_next_149 : decode cX12_next 149 = .ok (.aload_n 0, 1) := by decide +kernel
theorem dX12_next_150 : decode cX12_next 150 = .ok (.dup, 1) := by decide +kernel
theorem dX12_next_151 : decode cX12_next 151 = .ok (.getfield 25, 3) := by decide +kernel
theorem dX12_next_154 : decode cX12_next 154 = .ok (.iconst 1, 1) := by decide +kernel
theorem dX12_next_155 : decode cX12_next 155 = .ok (.iadd, 1) := by decide +kernel
theorem dX12_next_156 : decode cX12_next 156 = .ok (.putfield 25, 3) := by decide +kernel
theorem dX12_next_159 : decode cX12_next 159 = .ok (.return_, 1) := by decide +kernel
theorem dX12_next_160 : decode cX12_next 160 = .ok (.iload_n 1, 1) := by decide +kernel
theorem dX12_next_161 : decode cX12_next 161 = .ok (.invokestatic 34, 3) := by decide +kernel
theorem dX12_next_164 : decode cX12_next 164 = .ok (.istore_n 2, 1) := by decide +kernel
theorem dX12_next_165 : decode cX12_next 165 = .ok (.iconst 1, 1) := by decide +kernel
theorem dX12_next_166 : decode cX12_next 166 = .ok (.istore_n 3, 1) := by decide +kernel
theorem dX12_next_167 : decode cX12_next 167 = .ok (.aload_n 0, 1) := by decide +kernel
theorem dX12_next_168 : decode cX12_next 168 = .ok (.lconst 0, 1) := by decide +kernel
theorem dX12_next_169 : decode cX12_next 169 = .ok (.putfield 41, 3) := by decide +kernel
theorem dX12_next_172 : decode cX12_next 172 = .ok (.aload_n 0, 1) := by decide +kernel
theorem dX12_next_173 : decode cX12_next 173 = .ok (.iconst 0, 1) := by decide +kernel
theorem dX12_next_174 : decode cX12_next 174 = .ok (.putfield 45, 3) := by decide +kernel
theorem dX12_next_177 : decode cX12_next 177 = .ok (.aload_n 0, 1) := by decide +kernel
theorem dX12_next_178 : decode cX12_next 178 = .ok (.aload_n 0, 1) := by decide +kernel
theorem dX12_next_179 : decode cX12_next 179 = .ok (.getfield 25, 3) := by decide +kernel
theorem dX12_next_182 : decode cX12_next 182 = .ok (.invokevirtual 48, 3) := by decide +kernel
theorem dX12_next_185 : decode cX12_next 185 = .ok (.invokestatic 34, 3) := by decide +kernel
theorem dX12_next_188 : decode cX12_next 188 = .ok (.ifCond .ne 17, 3) := by decide +kernel
theorem dX12_next_191 : decode cX12_next 191 = .ok (.aload_n 0, 1) := by decide +kernel
theorem dX12_next_192 : decode cX12_next 192 = .ok (.aload_n 0, 1) := by decide +kernel
theorem dX12_next_193 : decode cX12_next 193 = .ok (.getfield 25, 3) := by decide +kernel
theorem dX12_next_196 : decode cX12_next 196 = .ok (.invokevirtual 48, 3) := by decide +kernel
theorem dX12_next_199 : decode cX12_next 199 = .ok (.invokestatic 38, 3) := by decide +kernel
theorem dX12_next_202 : decode cX12_next 202 = .ok (.ifCond .eq 110, 3) := by decide +kernel
theorem dX12_next_205 : decode cX12_next 205 = .ok (.aload_n 0, 1) := by decide +kernel
theorem dX12_next_206 : decode cX12_next 206 = .ok (.getfield 11, 3) := by decide +kernel
theorem dX12_next_209 : decode cX12_next 209 = .ok (.aload_n 0, 1) := by decide +kernel
theorem dX12_next_210 : decode cX12_next 210 = .ok (.getfield 25, 3) := by decide +kernel
theorem dX12_next_213 : decode cX12_next 213 = .ok (.iaload, 1) := by decide +kernel
theorem dX12_next_214 : decode cX12_next 214 = .ok (.istore 4, 2) := by decide +kernel
theorem dX12_next_216 : decode cX12_next 216 = .ok (.iload_n 3, 1) := by decide +kernel
theorem dX12_next_217 : decode cX12_next 217 = .ok (.ifCond .eq 16, 3) := by decide +kernel
theorem dX12_next_220 : decode cX12_next 220 = .ok (.iload 4, 2) := by decide +kernel
theorem dX12_next_222 : decode cX12_next 222 = .ok (.invokestatic 34, 3) := by decide +kernel
theorem dX12_next_225 : decode cX12_next 225 = .ok (.iload_n 2, 1) := by decide +kernel
theorem dX12_next_226 : decode cX12_next 226 = .ok (.if_icmp .ne 7, 3) := by decide +kernel
theorem dX12_next_229 : decode cX12_next 229 = .ok (.iconst 1, 1) := by decide +kernel
theorem dX12_next_230 : decode cX12_next 230 = .ok (.goto 4, 3) := by decide +kernel
theorem dX12_next_233 : decode cX12_next 233 = .ok (.iconst 0, 1) := by decide +kernel
theorem dX12_next_234 : decode cX12_next 234 = .ok (.istore_n 3, 1) := by decide +kernel
theorem dX12_next_235 : decode cX12_next 235 = .ok (.aload_n 0, 1) := by decide +kernel
theorem dX12_next_236 : decode cX12_next 236 = .ok (.getfield 25, 3) := by decide +kernel
theorem dX12_next_239 : decode cX12_next 239 = .ok (.aload_n 0, 1) := by decide +kernel
theorem dX12_next_240 : decode cX12_next 240 = .ok (.getfield 28, 3) := by decide +kernel
theorem dX12_next_243 : decode cX12_next 243 = .ok (.isub, 1) := by decide +kernel
theorem dX12_next_244 : decode cX12_next 244 = .ok (.bipush 7, 2) := by decide +kernel
theorem dX12_next_246 : decode cX12_next 246 = .ok (.if_icmp .ge 23, 3) := by decide +kernel
theorem dX12_next_249 : decode cX12_next 249 = .ok (.aload_n 0, 1) := by decide +kernel
theorem dX12_next_250 : decode cX12_next 250 = .ok (.ldc2_w 52, 3) := by decide +kernel
theorem dX12_next_253 : decode cX12_next 253 = .ok (.aload_n 0, 1) := by decide +kernel
theorem dX12_next_254 : decode cX12_next 254 = .ok (.getfield 41, 3) := by decide +kernel
theorem dX12_next_257 : decode cX12_next 257 = .ok (.lmul, 1) := by decide +kernel
theorem dX12_next_258 : decode cX12_next 258 = .ok (.iload 4, 2) := by decide +kernel
theorem dX12_next_260 : decode cX12_next 260 = .ok (.i2l, 1) := by decide +kernel
theorem dX12_next_261 : decode cX12_next 261 = .ok (.ladd, 1) := by decide +kernel
theorem dX12_next_262 : decode cX12_next 262 = .ok (.ldc2_w 54, 3) := by decide +kernel
theorem dX12_next_265 : decode cX12_next 265 = .ok (.lsub, 1) := by decide +kernel
theorem dX12_next_266 : decode cX12_next 266 = .ok (.putfield 41, 3) := by decide +kernel
theorem dX12_next_269 : decode cX12_next 269 = .ok (.aload_n 0, 1) := by decide +kernel
theorem dX12_next_270 : decode cX12_next 270 = .ok (.getfield 25, 3) := by decide +kernel
theorem dX12_next_273 : decode cX12_next 273 = .ok (.aload_n 0, 1) := by decide +kernel
theorem dX12_next_274 : decode cX12_next 274 = .ok (.getfield 28, 3) := by decide +kernel
theorem dX12_next_277 : decode cX12_next 277 = .ok (.isub, 1) := by decide +kernel
theorem dX12_next_278 : decode cX12_next 278 = .ok (.iconst 2, 1) := by decide +kernel
theorem dX12_next_279 : decode cX12_next 279 = .ok (.if_icmp .ge 20, 3) := by decide +kernel
theorem dX12_next_282 : decode cX12_next 282 = .ok (.aload_n 0, 1) := by decide +kernel
theorem dX12_next_283 : decode cX12_next 283 = .ok (.bipush 10, 2) := by decide +kernel
theorem dX12_next_285 : decode cX12_next 285 = .ok (.aload_n 0, 1) := by decide +kernel
theorem dX12_next_286 : decode cX12_next 286 = .ok (.getfield 45, 3) := by decide +kernel
theorem dX12_next_289 : decode cX12_next 289 = .ok (.imul, 1) := by decide +kernel
theorem dX12_next_290 : decode cX12_next 290 = .ok (.iload 4, 2) := by decide +kernel
theorem dX12_next_292 : decode cX12_next 292 = .ok (.iadd, 1) := by decide +kernel
theorem dX12_next_293 : decode cX12_next 293 = .ok (.bipush 48, 2) := by decide +kernel
theorem dX12_next_295 : decode cX12_next 295 = .ok (.isub, 1) := by decide +kernel
theorem dX12_next_296 : decode cX12_next 296 = .ok (.putfield 45, 3) := by decide +kernel
theorem dX12_next_299 : decode cX12_next 299 = .ok (.aload_n 0, 1) := by decide +kernel
theorem dX12_next_300 : decode cX12_next 300 = .ok (.dup, 1) := by decide +kernel
theorem dX12_next_301 : decode cX12_next 301 = .ok (.getfield 25, 3) := by decide +kernel
theorem dX12_next_304 : decode cX12_next 304 = .ok (.iconst 1, 1) := by decide +kernel
theorem dX12_next_305 : decode cX12_next 305 = .ok (.iadd, 1) := by decide +kernel
theorem dX12_next_306 : decode cX12_next 306 = .ok (.putfield 25, 3) := by decide +kernel
theorem dX12_next_309 : decode cX12_next 309 = .ok (.goto (-132), 3) := by decide +kernel
theorem dX12_next_312 : decode cX12_next 312 = .ok (.aload_n 0, 1) := by decide +kernel
theorem dX12_next_313 : decode cX12_next 313 = .ok (.iload_n 3, 1) := by decide +kernel
theorem dX12_next_314 : decode cX12_next 314 = .ok (.ifCond .eq 25, 3) := by decide +kernel
theorem dX12_next_317 : decode cX12_next 317 = .ok (.aload_n 0, 1) := by decide +kernel
theorem dX12_next_318 : decode cX12_next 318 = .ok (.getfield 25, 3) := by decide +kernel
theorem dX12_next_321 : decode cX12_next 321 = .ok (.aload_n 0, 1) := by decide +kernel
theorem dX12_next_322 : decode cX12_next 322 = .ok (.getfield 28, 3) := by decide +kernel
theorem dX12_next_325 : decode cX12_next 325 = .ok (.isub, 1) := by decide +kernel
theorem dX12_next_326 : decode cX12_next 326 = .ok (.iload_n 2, 1) := by decide +kernel
theorem dX12_next_327 : decode cX12_next 327 = .ok (.ifCond .eq 8, 3) := by decide +kernel
theorem dX12_next_330 : decode cX12_next 330 = .ok (.bipush 7, 2) := by decide +kernel
theorem dX12_next_332 : decode cX12_next 332 = .ok (.goto 4, 3) := by decide +kernel
theorem dX12_next_335 : decode cX12_next 335 = .ok (.iconst 2, 1) := by decide +kernel
theorem dX12_next_336 : decode cX12_next 336 = .ok (.if_icmp .le 7, 3) := by decide +kernel
theorem dX12_next_339 : decode cX12_next 339 = .ok (.iconst 1, 1) := by decide +kernel
theorem dX12_next_340 : decode cX12_next 340 = .ok (.goto 12, 3) := by decide +kernel
theorem dX12_next_343 : decode cX12_next 343 = .ok (.iload_n 2, 1) := by decide +kernel
theorem dX12_next_344 : decode cX12_next 344 = .ok (.ifCond .eq 7, 3) := by decide +kernel
theorem dX12_next_347 : decode cX12_next 347 = .ok (.iconst 2, 1) := by decide +kernel
theorem dX12_next_348 : decode cX12_next 348 = .ok (.goto 4, 3) := by decide +kernel
theorem dX12_next_351 : decode cX12_next 351 = .ok (.iconst 3, 1) := by decide +kernel
theorem dX12_next_352 : decode cX12_next 352 = .ok (.putfield 31, 3) := by decide +kernel
theorem dX12_next_355 : decode cX12_next 355 = .ok (.return_, 1) := by decide +kernel
theorem dX12_spelt_0 : decode cX12_spelt 0 = .ok (.ldc2_w 52, 3) := by decide +kernel
theorem dX12_spelt_3 : decode cX12_spelt 3 = .ok (.ldc2_w 52, 3) := by decide +kernel
theorem dX12_spelt_6 : decode cX12_spelt 6 = .ok (.ldc2_w 52, 3) := by decide +kernel
theorem dX12_spelt_9 : decode cX12_spelt 9 = .ok (.iload_n 0, 1) := by decide +kernel
theorem dX12_spelt_10 : decode cX12_spelt 10 = .ok (.i2l, 1) := by decide +kernel
theorem dX12_spelt_11 : decode cX12_spelt 11 = .ok (.ldc2_w 54, 3) := by decide +kernel
theorem dX12_spelt_14 : decode cX12_spelt 14 = .ok (.lsub, 1) := by decide +kernel
theorem dX12_spelt_15 : decode cX12_spelt 15 = .ok (.lmul, 1) := by decide +kernel
theorem dX12_spelt_16 : decode cX12_spelt 16 = .ok (.iload_n 1, 1) := by decide +kernel
theorem dX12_spelt_17 : decode cX12_spelt 17 = .ok (.i2l, 1) := by decide +kernel
theorem dX12_spelt_18 : decode cX12_spelt 18 = .ok (.ladd, 1) := by decide +kernel
theorem dX12_spelt_19 : decode cX12_spelt 19 = .ok (.ldc2_w 54, 3) := by decide +kernel
theorem dX12_spelt_22 : decode cX12_spelt 22 = .ok (.lsub, 1) := by decide +kernel
theorem dX12_spelt_23 : decode cX12_spelt 23 = .ok (.lmul, 1) := by decide +kernel
theorem dX12_spelt_24 : decode cX12_spelt 24 = .ok (.iload_n 2, 1) := by decide +kernel
theorem dX12_spelt_25 : decode cX12_spelt 25 = .ok (.i2l, 1) := by decide +kernel
theorem dX12_spelt_26 : decode cX12_spelt 26 = .ok (.ladd, 1) := by decide +kernel
theorem dX12_spelt_27 : decode cX12_spelt 27 = .ok (.ldc2_w 54, 3) := by decide +kernel
theorem dX12_spelt_30 : decode cX12_spelt 30 = .ok (.lsub, 1) := by decide +kernel
theorem dX12_spelt_31 : decode cX12_spelt 31 = .ok (.lmul, 1) := by decide +kernel
theorem dX12_spelt_32 : decode cX12_spelt 32 = .ok (.iload_n 3, 1) := by decide +kernel
theorem dX12_spelt_33 : decode cX12_spelt 33 = .ok (.i2l, 1) := by decide +kernel
theorem dX12_spelt_34 : decode cX12_spelt 34 = .ok (.ladd, 1) := by decide +kernel
theorem dX12_spelt_35 : decode cX12_spelt 35 = .ok (.ldc2_w 54, 3) := by decide +kernel
theorem dX12_spelt_38 : decode cX12_spelt 38 = .ok (.lsub, 1) := by decide +kernel
theorem dX12_spelt_39 : decode cX12_spelt 39 = .ok (.lstore 5, 2) := by decide +kernel
theorem dX12_spelt_41 : decode cX12_spelt 41 = .ok (.iload 4, 2) := by decide +kernel
theorem dX12_spelt_43 : decode cX12_spelt 43 = .ok (.ifCond .le 20, 3) := by decide +kernel
theorem dX12_spelt_46 : decode cX12_spelt 46 = .ok (.ldc2_w 52, 3) := by decide +kernel
theorem dX12_spelt_49 : decode cX12_spelt 49 = .ok (.lload 5, 2) := by decide +kernel
theorem dX12_spelt_51 : decode cX12_spelt 51 = .ok (.lmul, 1) := by decide +kernel
theorem dX12_spelt_52 : decode cX12_spelt 52 = .ok (.iload 4, 2) := by decide +kernel
theorem dX12_spelt_54 : decode cX12_spelt 54 = .ok (.i2l, 1) := by decide +kernel
theorem dX12_spelt_55 : decode cX12_spelt 55 = .ok (.ladd, 1) := by decide +kernel
theorem dX12_spelt_56 : decode cX12_spelt 56 = .ok (.ldc2_w 54, 3) := by decide +kernel
theorem dX12_spelt_59 : decode cX12_spelt 59 = .ok (.lsub, 1) := by decide +kernel
theorem dX12_spelt_60 : decode cX12_spelt 60 = .ok (.goto 5, 3) := by decide +kernel
theorem dX12_spelt_63 : decode cX12_spelt 63 = .ok (.lload 5, 2) := by decide +kernel
theorem dX12_spelt_65 : decode cX12_spelt 65 = .ok (.lreturn, 1) := by decide +kernel
theorem dX12_isPointWord_0 : decode cX12_isPointWord 0 = .ok (.aload_n 0, 1) := by decide +kernel
theorem dX12_isPointWord_1 : decode cX12_isPointWord 1 = .ok (.getfield 31, 3) := by decide +kernel
theorem dX12_isPointWord_4 : decode cX12_isPointWord 4 = .ok (.iconst 2, 1) := by decide +kernel
theorem dX12_isPointWord_5 : decode cX12_isPointWord 5 = .ok (.if_icmp .ne 28, 3) := by decide +kernel
theorem dX12_isPointWord_8 : decode cX12_isPointWord 8 = .ok (.aload_n 0, 1) := by decide +kernel
theorem dX12_isPointWord_9 : decode cX12_isPointWord 9 = .ok (.getfield 41, 3) := by decide +kernel
theorem dX12_isPointWord_12 : decode cX12_isPointWord 12 = .ok (.bipush 112, 2) := by decide +kernel
theorem dX12_isPointWord_14 : decode cX12_isPointWord 14 = .ok (.bipush 111, 2) := by decide +kernel
theorem dX12_isPointWord_16 : decode cX12_isPointWord 16 = .ok (.bipush 105, 2) := by decide +kernel
theorem dX12_isPointWord_18 : decode cX12_isPointWord 18 = .ok (.bipush 110, 2) := by decide +kernel
theorem dX12_isPointWord_20 : decode cX12_isPointWord 20 = .ok (.bipush 116, 2) := by decide +kernel
theorem dX12_isPointWord_22 : decode cX12_isPointWord 22 = .ok (.invokestatic 56, 3) := by decide +kernel
theorem dX12_isPointWord_25 : decode cX12_isPointWord 25 = .ok (.lcmp, 1) := by decide +kernel
theorem dX12_isPointWord_26 : decode cX12_isPointWord 26 = .ok (.ifCond .ne 7, 3) := by decide +kernel
theorem dX12_isPointWord_29 : decode cX12_isPointWord 29 = .ok (.iconst 1, 1) := by decide +kernel
theorem dX12_isPointWord_30 : decode cX12_isPointWord 30 = .ok (.goto 4, 3) := by decide +kernel
theorem dX12_isPointWord_33 : decode cX12_isPointWord 33 = .ok (.iconst 0, 1) := by decide +kernel
theorem dX12_isPointWord_34 : decode cX12_isPointWord 34 = .ok (.ireturn, 1) := by decide +kernel
theorem dX12_isLineWord_0 : decode cX12_isLineWord 0 = .ok (.aload_n 0, 1) := by decide +kernel
theorem dX12_isLineWord_1 : decode cX12_isLineWord 1 = .ok (.getfield 31, 3) := by decide +kernel
theorem dX12_isLineWord_4 : decode cX12_isLineWord 4 = .ok (.iconst 2, 1) := by decide +kernel
theorem dX12_isLineWord_5 : decode cX12_isLineWord 5 = .ok (.if_icmp .ne 27, 3) := by decide +kernel
theorem dX12_isLineWord_8 : decode cX12_isLineWord 8 = .ok (.aload_n 0, 1) := by decide +kernel
theorem dX12_isLineWord_9 : decode cX12_isLineWord 9 = .ok (.getfield 41, 3) := by decide +kernel
theorem dX12_isLineWord_12 : decode cX12_isLineWord 12 = .ok (.bipush 108, 2) := by decide +kernel
theorem dX12_isLineWord_14 : decode cX12_isLineWord 14 = .ok (.bipush 105, 2) := by decide +kernel
theorem dX12_isLineWord_16 : decode cX12_isLineWord 16 = .ok (.bipush 110, 2) := by decide +kernel
theorem dX12_isLineWord_18 : decode cX12_isLineWord 18 = .ok (.bipush 101, 2) := by decide +kernel
theorem dX12_isLineWord_20 : decode cX12_isLineWord 20 = .ok (.iconst 0, 1) := by decide +kernel
theorem dX12_isLineWord_21 : decode cX12_isLineWord 21 = .ok (.invokestatic 56, 3) := by decide +kernel
theorem dX12_isLineWord_24 : decode cX12_isLineWord 24 = .ok (.lcmp, 1) := by decide +kernel
theorem dX12_isLineWord_25 : decode cX12_isLineWord 25 = .ok (.ifCond .ne 7, 3) := by decide +kernel
theorem dX12_isLineWord_28 : decode cX12_isLineWord 28 = .ok (.iconst 1, 1) := by decide +kernel
theorem dX12_isLineWord_29 : decode cX12_isLineWord 29 = .ok (.goto 4, 3) := by decide +kernel
theorem dX12_isLineWord_32 : decode cX12_isLineWord 32 = .ok (.iconst 0, 1) := by decide +kernel
theorem dX12_isLineWord_33 : decode cX12_isLineWord 33 = .ok (.ireturn, 1) := by decide +kernel
theorem dX12_isName_0 : decode cX12_isName 0 = .ok (.aload_n 0, 1) := by decide +kernel
theorem dX12_isName_1 : decode cX12_isName 1 = .ok (.getfield 31, 3) := by decide +kernel
theorem dX12_isName_4 : decode cX12_isName 4 = .ok (.iconst 2, 1) := by decide +kernel
theorem dX12_isName_5 : decode cX12_isName 5 = .ok (.if_icmp .ne 21, 3) := by decide +kernel
theorem dX12_isName_8 : decode cX12_isName 8 = .ok (.aload_n 0, 1) := by decide +kernel
theorem dX12_isName_9 : decode cX12_isName 9 = .ok (.invokevirtual 60, 3) := by decide +kernel
theorem dX12_isName_12 : decode cX12_isName 12 = .ok (.ifCond .ne 14, 3) := by decide +kernel
theorem dX12_isName_15 : decode cX12_isName 15 = .ok (.aload_n 0, 1) := by decide +kernel
theorem dX12_isName_16 : decode cX12_isName 16 = .ok (.invokevirtual 64, 3) := by decide +kernel
theorem dX12_isName_19 : decode cX12_isName 19 = .ok (.ifCond .ne 7, 3) := by decide +kernel
theorem dX12_isName_22 : decode cX12_isName 22 = .ok (.iconst 1, 1) := by decide +kernel
theorem dX12_isName_23 : decode cX12_isName 23 = .ok (.goto 4, 3) := by decide +kernel
theorem dX12_isName_26 : decode cX12_isName 26 = .ok (.iconst 0, 1) := by decide +kernel
theorem dX12_isName_27 : decode cX12_isName 27 = .ok (.ireturn, 1) := by decide +kernel
theorem dX12_bad_0 : decode cX12_bad 0 = .ok (.aload_n 0, 1) := by decide +kernel
theorem dX12_bad_1 : decode cX12_bad 1 = .ok (.aload_n 0, 1) := by decide +kernel
theorem dX12_bad_2 : decode cX12_bad 2 = .ok (.getfield 31, 3) := by decide +kernel
theorem dX12_bad_5 : decode cX12_bad 5 = .ok (.iconst 1, 1) := by decide +kernel
theorem dX12_bad_6 : decode cX12_bad 6 = .ok (.if_icmp .ne 7, 3) := by decide +kernel
theorem dX12_bad_9 : decode cX12_bad 9 = .ok (.iconst 1, 1) := by decide +kernel
theorem dX12_bad_10 : decode cX12_bad 10 = .ok (.goto 4, 3) := by decide +kernel
theorem dX12_bad_13 : decode cX12_bad 13 = .ok (.iload_n 1, 1) := by decide +kernel
theorem dX12_bad_14 : decode cX12_bad 14 = .ok (.putfield 67, 3) := by decide +kernel
theorem dX12_bad_17 : decode cX12_bad 17 = .ok (.aload_n 0, 1) := by decide +kernel
theorem dX12_bad_18 : decode cX12_bad 18 = .ok (.aload_n 0, 1) := by decide +kernel
theorem dX12_bad_19 : decode cX12_bad 19 = .ok (.getfield 28, 3) := by decide +kernel
theorem dX12_bad_22 : decode cX12_bad 22 = .ok (.putfield 70, 3) := by decide +kernel
theorem dX12_bad_25 : decode cX12_bad 25 = .ok (.iconst 0, 1) := by decide +kernel
theorem dX12_bad_26 : decode cX12_bad 26 = .ok (.ireturn, 1) := by decide +kernel
theorem dX12_init_0 : decode cX12_init 0 = .ok (.aload_n 0, 1) := by decide +kernel
theorem dX12_init_1 : decode cX12_init 1 = .ok (.invokespecial 73, 3) := by decide +kernel
theorem dX12_init_4 : decode cX12_init 4 = .ok (.aload_n 0, 1) := by decide +kernel
theorem dX12_init_5 : decode cX12_init 5 = .ok (.sipush 640, 3) := by decide +kernel
theorem dX12_init_8 : decode cX12_init 8 = .ok (.newarray .int, 2) := by decide +kernel
theorem dX12_init_10 : decode cX12_init 10 = .ok (.putfield 11, 3) := by decide +kernel
theorem dX12_init_13 : decode cX12_init 13 = .ok (.aload_n 0, 1) := by decide +kernel
theorem dX12_init_14 : decode cX12_init 14 = .ok (.sipush 159, 3) := by decide +kernel
theorem dX12_init_17 : decode cX12_init 17 = .ok (.newarray .int, 2) := by decide +kernel
theorem dX12_init_19 : decode cX12_init 19 = .ok (.putfield 79, 3) := by decide +kernel
theorem dX12_init_22 : decode cX12_init 22 = .ok (.aload_n 0, 1) := by decide +kernel
theorem dX12_init_23 : decode cX12_init 23 = .ok (.sipush 159, 3) := by decide +kernel
theorem dX12_init_26 : decode cX12_init 26 = .ok (.newarray .int, 2) := by decide +kernel
theorem dX12_init_28 : decode cX12_init 28 = .ok (.putfield 82, 3) := by decide +kernel
theorem dX12_init_31 : decode cX12_init 31 = .ok (.aload_n 0, 1) := by decide +kernel
theorem dX12_init_32 : decode cX12_init 32 = .ok (.sipush 318, 3) := by decide +kernel
theorem dX12_init_35 : decode cX12_init 35 = .ok (.newarray .int, 2) := by decide +kernel
theorem dX12_init_37 : decode cX12_init 37 = .ok (.putfield 85, 3) := by decide +kernel
theorem dX12_init_40 : decode cX12_init 40 = .ok (.aload_n 0, 1) := by decide +kernel
theorem dX12_init_41 : decode cX12_init 41 = .ok (.sipush 1272, 3) := by decide +kernel
theorem dX12_init_44 : decode cX12_init 44 = .ok (.newarray .int, 2) := by decide +kernel
theorem dX12_init_46 : decode cX12_init 46 = .ok (.putfield 88, 3) := by decide +kernel
theorem dX12_init_49 : decode cX12_init 49 = .ok (.aload_n 0, 1) := by decide +kernel
theorem dX12_init_50 : decode cX12_init 50 = .ok (.sipush 159, 3) := by decide +kernel
theorem dX12_init_53 : decode cX12_init 53 = .ok (.newarray .int, 2) := by decide +kernel
theorem dX12_init_55 : decode cX12_init 55 = .ok (.putfield 91, 3) := by decide +kernel
theorem dX12_init_58 : decode cX12_init 58 = .ok (.aload_n 0, 1) := by decide +kernel
theorem dX12_init_59 : decode cX12_init 59 = .ok (.sipush 159, 3) := by decide +kernel
theorem dX12_init_62 : decode cX12_init 62 = .ok (.newarray .int, 2) := by decide +kernel
theorem dX12_init_64 : decode cX12_init 64 = .ok (.putfield 94, 3) := by decide +kernel
theorem dX12_init_67 : decode cX12_init 67 = .ok (.aload_n 0, 1) := by decide +kernel
theorem dX12_init_68 : decode cX12_init 68 = .ok (.bipush 12, 2) := by decide +kernel
theorem dX12_init_70 : decode cX12_init 70 = .ok (.newarray .long, 2) := by decide +kernel
theorem dX12_init_72 : decode cX12_init 72 = .ok (.putfield 97, 3) := by decide +kernel
theorem dX12_init_75 : decode cX12_init 75 = .ok (.aload_n 0, 1) := by decide +kernel
theorem dX12_init_76 : decode cX12_init 76 = .ok (.iconst 2, 1) := by decide +kernel
theorem dX12_init_77 : decode cX12_init 77 = .ok (.newarray .boolean, 2) := by decide +kernel
theorem dX12_init_79 : decode cX12_init 79 = .ok (.putfield 101, 3) := by decide +kernel
theorem dX12_init_82 : decode cX12_init 82 = .ok (.aload_n 0, 1) := by decide +kernel
theorem dX12_init_83 : decode cX12_init 83 = .ok (.sipush 4096, 3) := by decide +kernel
theorem dX12_init_86 : decode cX12_init 86 = .ok (.newarray .boolean, 2) := by decide +kernel
theorem dX12_init_88 : decode cX12_init 88 = .ok (.putfield 105, 3) := by decide +kernel
theorem dX12_init_91 : decode cX12_init 91 = .ok (.aload_n 0, 1) := by decide +kernel
theorem dX12_init_92 : decode cX12_init 92 = .ok (.sipush 4096, 3) := by decide +kernel
theorem dX12_init_95 : decode cX12_init 95 = .ok (.newarray .int, 2) := by decide +kernel
theorem dX12_init_97 : decode cX12_init 97 = .ok (.putfield 108, 3) := by decide +kernel
theorem dX12_init_100 : decode cX12_init 100 = .ok (.aload_n 0, 1) := by decide +kernel
theorem dX12_init_101 : decode cX12_init 101 = .ok (.bipush 12, 2) := by decide +kernel
theorem dX12_init_103 : decode cX12_init 103 = .ok (.newarray .long, 2) := by decide +kernel
theorem dX12_init_105 : decode cX12_init 105 = .ok (.putfield 111, 3) := by decide +kernel
theorem dX12_init_108 : decode cX12_init 108 = .ok (.aload_n 0, 1) := by decide +kernel
theorem dX12_init_109 : decode cX12_init 109 = .ok (.bipush 12, 2) := by decide +kernel
theorem dX12_init_111 : decode cX12_init 111 = .ok (.newarray .long, 2) := by decide +kernel
theorem dX12_init_113 : decode cX12_init 113 = .ok (.putfield 114, 3) := by decide +kernel
theorem dX12_init_116 : decode cX12_init 116 = .ok (.aload_n 0, 1) := by decide +kernel
theorem dX12_init_117 : decode cX12_init 117 = .ok (.bipush 12, 2) := by decide +kernel
theorem dX12_init_119 : decode cX12_init 119 = .ok (.newarray .int, 2) := by decide +kernel
theorem dX12_init_121 : decode cX12_init 121 = .ok (.putfield 117, 3) := by decide +kernel
theorem dX12_init_124 : decode cX12_init 124 = .ok (.return_, 1) := by decide +kernel
theorem dX12_copy_0 : decode cX12_copy 0 = .ok (.iconst 0, 1) := by decide +kernel
theorem dX12_copy_1 : decode cX12_copy 1 = .ok (.istore 4, 2) := by decide +kernel
theorem dX12_copy_3 : decode cX12_copy 3 = .ok (.iload 4, 2) := by decide +kernel
theorem dX12_copy_5 : decode cX12_copy 5 = .ok (.sipush 159, 3) := by decide +kernel
theorem dX12_copy_8 : decode cX12_copy 8 = .ok (.if_icmp .ge 21, 3) := by decide +kernel
theorem dX12_copy_11 : decode cX12_copy 11 = .ok (.aload_n 2, 1) := by decide +kernel
theorem dX12_copy_12 : decode cX12_copy 12 = .ok (.iload_n 3, 1) := by decide +kernel
theorem dX12_copy_13 : decode cX12_copy 13 = .ok (.iload 4, 2) := by decide +kernel
theorem dX12_copy_15 : decode cX12_copy 15 = .ok (.iadd, 1) := by decide +kernel
theorem dX12_copy_16 : decode cX12_copy 16 = .ok (.aload_n 0, 1) := by decide +kernel
theorem dX12_copy_17 : decode cX12_copy 17 = .ok (.iload_n 1, 1) := by decide +kernel
theorem dX12_copy_18 : decode cX12_copy 18 = .ok (.iload 4, 2) := by decide +kernel
theorem dX12_copy_20 : decode cX12_copy 20 = .ok (.iadd, 1) := by decide +kernel
theorem dX12_copy_21 : decode cX12_copy 21 = .ok (.iaload, 1) := by decide +kernel
theorem dX12_copy_22 : decode cX12_copy 22 = .ok (.iastore, 1) := by decide +kernel
theorem dX12_copy_23 : decode cX12_copy 23 = .ok (.iinc 4 1, 3) := by decide +kernel
theorem dX12_copy_26 : decode cX12_copy 26 = .ok (.goto (-23), 3) := by decide +kernel
theorem dX12_copy_29 : decode cX12_copy 29 = .ok (.return_, 1) := by decide +kernel
theorem dX12_between_0 : decode cX12_between 0 = .ok (.aload_n 0, 1) := by decide +kernel
theorem dX12_between_1 : decode cX12_between 1 = .ok (.bipush 15, 2) := by decide +kernel
theorem dX12_between_3 : decode cX12_between 3 = .ok (.bipush 12, 2) := by decide +kernel
theorem dX12_between_5 : decode cX12_between 5 = .ok (.iload_n 1, 1) := by decide +kernel
theorem dX12_between_6 : decode cX12_between 6 = .ok (.imul, 1) := by decide +kernel
theorem dX12_between_7 : decode cX12_between 7 = .ok (.iadd, 1) := by decide +kernel
theorem dX12_between_8 : decode cX12_between 8 = .ok (.iload_n 2, 1) := by decide +kernel
theorem dX12_between_9 : decode cX12_between 9 = .ok (.iadd, 1) := by decide +kernel
theorem dX12_between_10 : decode cX12_between 10 = .ok (.iaload, 1) := by decide +kernel
theorem dX12_between_11 : decode cX12_between 11 = .ok (.ireturn, 1) := by decide +kernel
theorem dX12_adds_0 : decode cX12_adds 0 = .ok (.aload_n 0, 1) := by decide +kernel
theorem dX12_adds_1 : decode cX12_adds 1 = .ok (.bipush 15, 2) := by decide +kernel
theorem dX12_adds_3 : decode cX12_adds 3 = .ok (.bipush 12, 2) := by decide +kernel
theorem dX12_adds_5 : decode cX12_adds 5 = .ok (.iload_n 1, 1) := by decide +kernel
theorem dX12_adds_6 : decode cX12_adds 6 = .ok (.imul, 1) := by decide +kernel
theorem dX12_adds_7 : decode cX12_adds 7 = .ok (.iadd, 1) := by decide +kernel
theorem dX12_adds_8 : decode cX12_adds 8 = .ok (.iload_n 2, 1) := by decide +kernel
theorem dX12_adds_9 : decode cX12_adds 9 = .ok (.iadd, 1) := by decide +kernel
theorem dX12_adds_10 : decode cX12_adds 10 = .ok (.dup2, 1) := by decide +kernel
theorem dX12_adds_11 : decode cX12_adds 11 = .ok (.iaload, 1) := by decide +kernel
theorem dX12_adds_12 : decode cX12_adds 12 = .ok (.iload_n 3, 1) := by decide +kernel
theorem dX12_adds_13 : decode cX12_adds 13 = .ok (.iadd, 1) := by decide +kernel
theorem dX12_adds_14 : decode cX12_adds 14 = .ok (.iastore, 1) := by decide +kernel
theorem dX12_adds_15 : decode cX12_adds 15 = .ok (.iload_n 1, 1) := by decide +kernel
theorem dX12_adds_16 : decode cX12_adds 16 = .ok (.iload_n 2, 1) := by decide +kernel
theorem dX12_adds_17 : decode cX12_adds 17 = .ok (.if_icmp .eq 18, 3) := by decide +kernel
theorem dX12_adds_20 : decode cX12_adds 20 = .ok (.aload_n 0, 1) := by decide +kernel
theorem dX12_adds_21 : decode cX12_adds 21 = .ok (.bipush 15, 2) := by decide +kernel
theorem dX12_adds_23 : decode cX12_adds 23 = .ok (.bipush 12, 2) := by decide +kernel
theorem dX12_adds_25 : decode cX12_adds 25 = .ok (.iload_n 2, 1) := by decide +kernel
theorem dX12_adds_26 : decode cX12_adds 26 = .ok (.imul, 1) := by decide +kernel
theorem dX12_adds_27 : decode cX12_adds 27 = .ok (.iadd, 1) := by decide +kernel
theorem dX12_adds_28 : decode cX12_adds 28 = .ok (.iload_n 1, 1) := by decide +kernel
theorem dX12_adds_29 : decode cX12_adds 29 = .ok (.iadd, 1) := by decide +kernel
theorem dX12_adds_30 : decode cX12_adds 30 = .ok (.dup2, 1) := by decide +kernel
theorem dX12_adds_31 : decode cX12_adds 31 = .ok (.iaload, 1) := by decide +kernel
theorem dX12_adds_32 : decode cX12_adds 32 = .ok (.iload_n 3, 1) := by decide +kernel
theorem dX12_adds_33 : decode cX12_adds 33 = .ok (.iadd, 1) := by decide +kernel
theorem dX12_adds_34 : decode cX12_adds 34 = .ok (.iastore, 1) := by decide +kernel
theorem dX12_adds_35 : decode cX12_adds 35 = .ok (.return_, 1) := by decide +kernel
theorem dX12_ends_0 : decode cX12_ends 0 = .ok (.iconst 0, 1) := by decide +kernel
theorem dX12_ends_1 : decode cX12_ends 1 = .ok (.istore_n 3, 1) := by decide +kernel
theorem dX12_ends_2 : decode cX12_ends 2 = .ok (.iconst 0, 1) := by decide +kernel
theorem dX12_ends_3 : decode cX12_ends 3 = .ok (.istore 4, 2) := by decide +kernel
theorem dX12_ends_5 : decode cX12_ends 5 = .ok (.iload 4, 2) := by decide +kernel
theorem dX12_ends_7 : decode cX12_ends 7 = .ok (.bipush 12, 2) := by decide +kernel
theorem dX12_ends_9 : decode cX12_ends 9 = .ok (.if_icmp .ge 40, 3) := by decide +kernel
theorem dX12_ends_12 : decode cX12_ends 12 = .ok (.iload_n 2, 1) := by decide +kernel
theorem dX12_ends_13 : decode cX12_ends 13 = .ok (.iload 4, 2) := by decide +kernel
theorem dX12_ends_15 : decode cX12_ends 15 = .ok (.invokestatic 7, 3) := by decide +kernel
theorem dX12_ends_18 : decode cX12_ends 18 = .ok (.ifCond .eq 25, 3) := by decide +kernel
theorem dX12_ends_21 : decode cX12_ends 21 = .ok (.iload_n 3, 1) := by decide +kernel
theorem dX12_ends_22 : decode cX12_ends 22 = .ok (.aload_n 0, 1) := by decide +kernel
theorem dX12_ends_23 : decode cX12_ends 23 = .ok (.iload_n 1, 1) := by decide +kernel
theorem dX12_ends_24 : decode cX12_ends 24 = .ok (.iload 4, 2) := by decide +kernel
theorem dX12_ends_26 : decode cX12_ends 26 = .ok (.invokestatic 120, 3) := by decide +kernel
theorem dX12_ends_29 : decode cX12_ends 29 = .ok (.iload_n 1, 1) := by decide +kernel
theorem dX12_ends_30 : decode cX12_ends 30 = .ok (.iload 4, 2) := by decide +kernel
theorem dX12_ends_32 : decode cX12_ends 32 = .ok (.if_icmp .ne 7, 3) := by decide +kernel
theorem dX12_ends_35 : decode cX12_ends 35 = .ok (.iconst 2, 1) := by decide +kernel
theorem dX12_ends_36 : decode cX12_ends 36 = .ok (.goto 4, 3) := by decide +kernel
theorem dX12_ends_39 : decode cX12_ends 39 = .ok (.iconst 1, 1) := by decide +kernel
theorem dX12_ends_40 : decode cX12_ends 40 = .ok (.imul, 1) := by decide +kernel
theorem dX12_ends_41 : decode cX12_ends 41 = .ok (.iadd, 1) := by decide +kernel
theorem dX12_ends_42 : decode cX12_ends 42 = .ok (.istore_n 3, 1) := by decide +kernel
theorem dX12_ends_43 : decode cX12_ends 43 = .ok (.iinc 4 1, 3) := by decide +kernel
theorem dX12_ends_46 : decode cX12_ends 46 = .ok (.goto (-41), 3) := by decide +kernel
theorem dX12_ends_49 : decode cX12_ends 49 = .ok (.iload_n 3, 1) := by decide +kernel
theorem dX12_ends_50 : decode cX12_ends 50 = .ok (.ireturn, 1) := by decide +kernel
theorem dX12_allEnds_0 : decode cX12_allEnds 0 = .ok (.aload_n 0, 1) := by decide +kernel
theorem dX12_allEnds_1 : decode cX12_allEnds 1 = .ok (.iload_n 1, 1) := by decide +kernel
theorem dX12_allEnds_2 : decode cX12_allEnds 2 = .ok (.sipush 4095, 3) := by decide +kernel
theorem dX12_allEnds_5 : decode cX12_allEnds 5 = .ok (.invokestatic 124, 3) := by decide +kernel
theorem dX12_allEnds_8 : decode cX12_allEnds 8 = .ok (.ireturn, 1) := by decide +kernel
theorem dX12_lineMany_0 : decode cX12_lineMany 0 = .ok (.iconst 0, 1) := by decide +kernel
theorem dX12_lineMany_1 : decode cX12_lineMany 1 = .ok (.istore_n 2, 1) := by decide +kernel
theorem dX12_lineMany_2 : decode cX12_lineMany 2 = .ok (.iconst 0, 1) := by decide +kernel
theorem dX12_lineMany_3 : decode cX12_lineMany 3 = .ok (.istore_n 3, 1) := by decide +kernel
theorem dX12_lineMany_4 : decode cX12_lineMany 4 = .ok (.iload_n 3, 1) := by decide +kernel
theorem dX12_lineMany_5 : decode cX12_lineMany 5 = .ok (.bipush 12, 2) := by decide +kernel
theorem dX12_lineMany_7 : decode cX12_lineMany 7 = .ok (.if_icmp .ge 26, 3) := by decide +kernel
theorem dX12_lineMany_10 : decode cX12_lineMany 10 = .ok (.iload_n 1, 1) := by decide +kernel
theorem dX12_lineMany_11 : decode cX12_lineMany 11 = .ok (.iload_n 3, 1) := by decide +kernel
theorem dX12_lineMany_12 : decode cX12_lineMany 12 = .ok (.invokestatic 7, 3) := by decide +kernel
theorem dX12_lineMany_15 : decode cX12_lineMany 15 = .ok (.ifCond .eq 12, 3) := by decide +kernel
theorem dX12_lineMany_18 : decode cX12_lineMany 18 = .ok (.iload_n 2, 1) := by decide +kernel
theorem dX12_lineMany_19 : decode cX12_lineMany 19 = .ok (.aload_n 0, 1) := by decide +kernel
theorem dX12_lineMany_20 : decode cX12_lineMany 20 = .ok (.iload_n 3, 1) := by decide +kernel
theorem dX12_lineMany_21 : decode cX12_lineMany 21 = .ok (.iload_n 1, 1) := by decide +kernel
theorem dX12_lineMany_22 : decode cX12_lineMany 22 = .ok (.invokestatic 124, 3) := by decide +kernel
theorem dX12_lineMany_25 : decode cX12_lineMany 25 = .ok (.iadd, 1) := by decide +kernel
theorem dX12_lineMany_26 : decode cX12_lineMany 26 = .ok (.istore_n 2, 1) := by decide +kernel
theorem dX12_lineMany_27 : decode cX12_lineMany 27 = .ok (.iinc 3 1, 3) := by decide +kernel
theorem dX12_lineMany_30 : decode cX12_lineMany 30 = .ok (.goto (-26), 3) := by decide +kernel
theorem dX12_lineMany_33 : decode cX12_lineMany 33 = .ok (.iload_n 2, 1) := by decide +kernel
theorem dX12_lineMany_34 : decode cX12_lineMany 34 = .ok (.iconst 2, 1) := by decide +kernel
theorem dX12_lineMany_35 : decode cX12_lineMany 35 = .ok (.idiv, 1) := by decide +kernel
theorem dX12_lineMany_36 : decode cX12_lineMany 36 = .ok (.ireturn, 1) := by decide +kernel
theorem dX12_named_0 : decode cX12_named 0 = .ok (.iconst 0, 1) := by decide +kernel
theorem dX12_named_1 : decode cX12_named 1 = .ok (.istore_n 1, 1) := by decide +kernel
theorem dX12_named_2 : decode cX12_named 2 = .ok (.iload_n 1, 1) := by decide +kernel
theorem dX12_named_3 : decode cX12_named 3 = .ok (.aload_n 0, 1) := by decide +kernel
theorem dX12_named_4 : decode cX12_named 4 = .ok (.getfield 82, 3) := by decide +kernel
theorem dX12_named_7 : decode cX12_named 7 = .ok (.iconst 0, 1) := by decide +kernel
theorem dX12_named_8 : decode cX12_named 8 = .ok (.iaload, 1) := by decide +kernel
theorem dX12_named_9 : decode cX12_named 9 = .ok (.if_icmp .ge 25, 3) := by decide +kernel
theorem dX12_named_12 : decode cX12_named 12 = .ok (.aload_n 0, 1) := by decide +kernel
theorem dX12_named_13 : decode cX12_named 13 = .ok (.getfield 97, 3) := by decide +kernel
theorem dX12_named_16 : decode cX12_named 16 = .ok (.iload_n 1, 1) := by decide +kernel
theorem dX12_named_17 : decode cX12_named 17 = .ok (.laload, 1) := by decide +kernel
theorem dX12_named_18 : decode cX12_named 18 = .ok (.aload_n 0, 1) := by decide +kernel
theorem dX12_named_19 : decode cX12_named 19 = .ok (.getfield 41, 3) := by decide +kernel
theorem dX12_named_22 : decode cX12_named 22 = .ok (.lcmp, 1) := by decide +kernel
theorem dX12_named_23 : decode cX12_named 23 = .ok (.ifCond .ne 5, 3) := by decide +kernel
theorem dX12_named_26 : decode cX12_named 26 = .ok (.iload_n 1, 1) := by decide +kernel
theorem dX12_named_27 : decode cX12_named 27 = .ok (.ireturn, 1) := by decide +kernel
theorem dX12_named_28 : decode cX12_named 28 = .ok (.iinc 1 1, 3) := by decide +kernel
theorem dX12_named_31 : decode cX12_named 31 = .ok (.goto (-29), 3) := by decide +kernel
theorem dX12_named_34 : decode cX12_named 34 = .ok (.iconst (-1), 1) := by decide +kernel
theorem dX12_named_35 : decode cX12_named 35 = .ok (.ireturn, 1) := by decide +kernel
theorem dX12_readPoint_0 : decode cX12_readPoint 0 = .ok (.aload_n 0, 1) := by decide +kernel
theorem dX12_readPoint_1 : decode cX12_readPoint 1 = .ok (.getfield 82, 3) := by decide +kernel
theorem dX12_readPoint_4 : decode cX12_readPoint 4 = .ok (.iconst 0, 1) := by decide +kernel
theorem dX12_readPoint_5 : decode cX12_readPoint 5 = .ok (.iaload, 1) := by decide +kernel
theorem dX12_readPoint_6 : decode cX12_readPoint 6 = .ok (.istore_n 1, 1) := by decide +kernel
theorem dX12_readPoint_7 : decode cX12_readPoint 7 = .ok (.iload_n 1, 1) := by decide +kernel
theorem dX12_readPoint_8 : decode cX12_readPoint 8 = .ok (.bipush 12, 2) := by decide +kernel
theorem dX12_readPoint_10 : decode cX12_readPoint 10 = .ok (.if_icmp .ne 9, 3) := by decide +kernel
theorem dX12_readPoint_13 : decode cX12_readPoint 13 = .ok (.aload_n 0, 1) := by decide +kernel
theorem dX12_readPoint_14 : decode cX12_readPoint 14 = .ok (.iconst 4, 1) := by decide +kernel
theorem dX12_readPoint_15 : decode cX12_readPoint 15 = .ok (.invokevirtual 127, 3) := by decide +kernel
theorem dX12_readPoint_18 : decode cX12_readPoint 18 = .ok (.ireturn, 1) := by decide +kernel
theorem dX12_readPoint_19 : decode cX12_readPoint 19 = .ok (.aload_n 0, 1) := by decide +kernel
theorem dX12_readPoint_20 : decode cX12_readPoint 20 = .ok (.invokevirtual 130, 3) := by decide +kernel
theorem dX12_readPoint_23 : decode cX12_readPoint 23 = .ok (.aload_n 0, 1) := by decide +kernel
theorem dX12_readPoint_24 : decode cX12_readPoint 24 = .ok (.invokevirtual 133, 3) := by decide +kernel
theorem dX12_readPoint_27 : decode cX12_readPoint 27 = .ok (.ifCond .ne 9, 3) := by decide +kernel
theorem dX12_readPoint_30 : decode cX12_readPoint 30 = .ok (.aload_n 0, 1) := by decide +kernel
theorem dX12_readPoint_31 : decode cX12_readPoint 31 = .ok (.iconst 1, 1) := by decide +kernel
theorem dX12_readPoint_32 : decode cX12_readPoint 32 = .ok (.invokevirtual 127, 3) := by decide +kernel
theorem dX12_readPoint_35 : decode cX12_readPoint 35 = .ok (.ireturn, 1) := by decide +kernel
theorem dX12_readPoint_36 : decode cX12_readPoint 36 = .ok (.aload_n 0, 1) := by decide +kernel
theorem dX12_readPoint_37 : decode cX12_readPoint 37 = .ok (.invokevirtual 136, 3) := by decide +kernel
theorem dX12_readPoint_40 : decode cX12_readPoint 40 = .ok (.iconst (-1), 1) := by decide +kernel
theorem dX12_readPoint_41 : decode cX12_readPoint 41 = .ok (.if_icmp .eq 9, 3) := by decide +kernel
theorem dX12_readPoint_44 : decode cX12_readPoint 44 = .ok (.aload_n 0, 1) := by decide +kernel
theorem dX12_readPoint_45 : decode cX12_readPoint 45 = .ok (.iconst 3, 1) := by decide +kernel
theorem dX12_readPoint_46 : decode cX12_readPoint 46 = .ok (.invokevirtual 127, 3) := by decide +kernel
theorem dX12_readPoint_49 : decode cX12_readPoint 49 = .ok (.ireturn, 1) := by decide +kernel
theorem dX12_readPoint_50 : decode cX12_readPoint 50 = .ok (.aload_n 0, 1) := by decide +kernel
theorem dX12_readPoint_51 : decode cX12_readPoint 51 = .ok (.getfield 97, 3) := by decide +kernel
theorem dX12_readPoint_54 : decode cX12_readPoint 54 = .ok (.iload_n 1, 1) := by decide +kernel
theorem dX12_readPoint_55 : decode cX12_readPoint 55 = .ok (.aload_n 0, 1) := by decide +kernel
theorem dX12_readPoint_56 : decode cX12_readPoint 56 = .ok (.getfield 41, 3) := by decide +kernel
theorem dX12_readPoint_59 : decode cX12_readPoint 59 = .ok (.lastore, 1) := by decide +kernel
theorem dX12_readPoint_60 : decode cX12_readPoint 60 = .ok (.aload_n 0, 1) := by decide +kernel
theorem dX12_readPoint_61 : decode cX12_readPoint 61 = .ok (.getfield 82, 3) := by decide +kernel
theorem dX12_readPoint_64 : decode cX12_readPoint 64 = .ok (.iconst 3, 1) := by decide +kernel
theorem dX12_readPoint_65 : decode cX12_readPoint 65 = .ok (.iload_n 1, 1) := by decide +kernel
theorem dX12_readPoint_66 : decode cX12_readPoint 66 = .ok (.iadd, 1) := by decide +kernel
theorem dX12_readPoint_67 : decode cX12_readPoint 67 = .ok (.iconst 1, 1) := by decide +kernel
theorem dX12_readPoint_68 : decode cX12_readPoint 68 = .ok (.iastore, 1) := by decide +kernel
theorem dX12_readPoint_69 : decode cX12_readPoint 69 = .ok (.aload_n 0, 1) := by decide +kernel
theorem dX12_readPoint_70 : decode cX12_readPoint 70 = .ok (.invokevirtual 130, 3) := by decide +kernel
theorem dX12_readPoint_73 : decode cX12_readPoint 73 = .ok (.aload_n 0, 1) := by decide +kernel
theorem dX12_readPoint_74 : decode cX12_readPoint 74 = .ok (.getfield 31, 3) := by decide +kernel
theorem dX12_readPoint_77 : decode cX12_readPoint 77 = .ok (.iconst 3, 1) := by decide +kernel
theorem dX12_readPoint_78 : decode cX12_readPoint 78 = .ok (.if_icmp .ne 38, 3) := by decide +kernel
theorem dX12_readPoint_81 : decode cX12_readPoint 81 = .ok (.aload_n 0, 1) := by decide +kernel
theorem dX12_readPoint_82 : decode cX12_readPoint 82 = .ok (.getfield 45, 3) := by decide +kernel
theorem dX12_readPoint_85 : decode cX12_readPoint 85 = .ok (.iconst 1, 1) := by decide +kernel
theorem dX12_readPoint_86 : decode cX12_readPoint 86 = .ok (.bipush 9, 2) := by decide +kernel
theorem dX12_readPoint_88 : decode cX12_readPoint 88 = .ok (.invokestatic 140, 3) := by decide +kernel
theorem dX12_readPoint_91 : decode cX12_readPoint 91 = .ok (.ifCond .ne 9, 3) := by decide +kernel
theorem dX12_readPoint_94 : decode cX12_readPoint 94 = .ok (.aload_n 0, 1) := by decide +kernel
theorem dX12_readPoint_95 : decode cX12_readPoint 95 = .ok (.iconst 2, 1) := by decide +kernel
theorem dX12_readPoint_96 : decode cX12_readPoint 96 = .ok (.invokevirtual 127, 3) := by decide +kernel
theorem dX12_readPoint_99 : decode cX12_readPoint 99 = .ok (.ireturn, 1) := by decide +kernel
theorem dX12_readPoint_100 : decode cX12_readPoint 100 = .ok (.aload_n 0, 1) := by decide +kernel
theorem dX12_readPoint_101 : decode cX12_readPoint 101 = .ok (.getfield 82, 3) := by decide +kernel
theorem dX12_readPoint_104 : decode cX12_readPoint 104 = .ok (.iconst 3, 1) := by decide +kernel
theorem dX12_readPoint_105 : decode cX12_readPoint 105 = .ok (.iload_n 1, 1) := by decide +kernel
theorem dX12_readPoint_106 : decode cX12_readPoint 106 = .ok (.iadd, 1) := by decide +kernel
theorem dX12_readPoint_107 : decode cX12_readPoint 107 = .ok (.aload_n 0, 1) := by decide +kernel
theorem dX12_readPoint_108 : decode cX12_readPoint 108 = .ok (.getfield 45, 3) := by decide +kernel
theorem dX12_readPoint_111 : decode cX12_readPoint 111 = .ok (.iastore, 1) := by decide +kernel
theorem dX12_readPoint_112 : decode cX12_readPoint 112 = .ok (.aload_n 0, 1) := by decide +kernel
theorem dX12_readPoint_113 : decode cX12_readPoint 113 = .ok (.invokevirtual 130, 3) := by decide +kernel
theorem dX12_readPoint_116 : decode cX12_readPoint 116 = .ok (.aload_n 0, 1) := by decide +kernel
theorem dX12_readPoint_117 : decode cX12_readPoint 117 = .ok (.getfield 82, 3) := by decide +kernel
theorem dX12_readPoint_120 : decode cX12_readPoint 120 = .ok (.iconst 0, 1) := by decide +kernel
theorem dX12_readPoint_121 : decode cX12_readPoint 121 = .ok (.dup2, 1) := by decide +kernel
theorem dX12_readPoint_122 : decode cX12_readPoint 122 = .ok (.iaload, 1) := by decide +kernel
theorem dX12_readPoint_123 : decode cX12_readPoint 123 = .ok (.iconst 1, 1) := by decide +kernel
theorem dX12_readPoint_124 : decode cX12_readPoint 124 = .ok (.iadd, 1) := by decide +kernel
theorem dX12_readPoint_125 : decode cX12_readPoint 125 = .ok (.iastore, 1) := by decide +kernel
theorem dX12_readPoint_126 : decode cX12_readPoint 126 = .ok (.aload_n 0, 1) := by decide +kernel
theorem dX12_readPoint_127 : decode cX12_readPoint 127 = .ok (.getfield 82, 3) := by decide +kernel
theorem dX12_readPoint_130 : decode cX12_readPoint 130 = .ok (.iconst 1, 1) := by decide +kernel
theorem dX12_readPoint_131 : decode cX12_readPoint 131 = .ok (.dup2, 1) := by decide +kernel
theorem dX12_readPoint_132 : decode cX12_readPoint 132 = .ok (.iaload, 1) := by decide +kernel
theorem dX12_readPoint_133 : decode cX12_readPoint 133 = .ok (.iconst 1, 1) := by decide +kernel
theorem dX12_readPoint_134 : decode cX12_readPoint 134 = .ok (.iload_n 1, 1) := by decide +kernel
theorem dX12_readPoint_135 : decode cX12_readPoint 135 = .ok (.ishl, 1) := by decide +kernel
theorem dX12_readPoint_136 : decode cX12_readPoint 136 = .ok (.ior, 1) := by decide +kernel
theorem dX12_readPoint_137 : decode cX12_readPoint 137 = .ok (.iastore, 1) := by decide +kernel
theorem dX12_readPoint_138 : decode cX12_readPoint 138 = .ok (.iconst 1, 1) := by decide +kernel
theorem dX12_readPoint_139 : decode cX12_readPoint 139 = .ok (.ireturn, 1) := by decide +kernel
theorem dX12_readLine_0 : decode cX12_readLine 0 = .ok (.aload_n 0, 1) := by decide +kernel
theorem dX12_readLine_1 : decode cX12_readLine 1 = .ok (.getfield 82, 3) := by decide +kernel
theorem dX12_readLine_4 : decode cX12_readLine 4 = .ok (.sipush 4095, 3) := by decide +kernel
theorem dX12_readLine_7 : decode cX12_readLine 7 = .ok (.invokestatic 144, 3) := by decide +kernel
theorem dX12_readLine_10 : decode cX12_readLine 10 = .ok (.bipush 20, 2) := by decide +kernel
theorem dX12_readLine_12 : decode cX12_readLine 12 = .ok (.if_icmp .ne 9, 3) := by decide +kernel
theorem dX12_readLine_15 : decode cX12_readLine 15 = .ok (.aload_n 0, 1) := by decide +kernel
theorem dX12_readLine_16 : decode cX12_readLine 16 = .ok (.iconst 4, 1) := by decide +kernel
theorem dX12_readLine_17 : decode cX12_readLine 17 = .ok (.invokevirtual 127, 3) := by decide +kernel
theorem dX12_readLine_20 : decode cX12_readLine 20 = .ok (.ireturn, 1) := by decide +kernel
theorem dX12_readLine_21 : decode cX12_readLine 21 = .ok (.aload_n 0, 1) := by decide +kernel
theorem dX12_readLine_22 : decode cX12_readLine 22 = .ok (.invokevirtual 130, 3) := by decide +kernel
theorem dX12_readLine_25 : decode cX12_readLine 25 = .ok (.aload_n 0, 1) := by decide +kernel
theorem dX12_readLine_26 : decode cX12_readLine 26 = .ok (.invokevirtual 133, 3) := by decide +kernel
theorem dX12_readLine_29 : decode cX12_readLine 29 = .ok (.ifCond .ne 9, 3) := by decide +kernel
theorem dX12_readLine_32 : decode cX12_readLine 32 = .ok (.aload_n 0, 1) := by decide +kernel
theorem dX12_readLine_33 : decode cX12_readLine 33 = .ok (.iconst 1, 1) := by decide +kernel
theorem dX12_readLine_34 : decode cX12_readLine 34 = .ok (.invokevirtual 127, 3) := by decide +kernel
theorem dX12_readLine_37 : decode cX12_readLine 37 = .ok (.ireturn, 1) := by decide +kernel
theorem dX12_readLine_38 : decode cX12_readLine 38 = .ok (.aload_n 0, 1) := by decide +kernel
theorem dX12_readLine_39 : decode cX12_readLine 39 = .ok (.invokevirtual 136, 3) := by decide +kernel
theorem dX12_readLine_42 : decode cX12_readLine 42 = .ok (.istore_n 1, 1) := by decide +kernel
theorem dX12_readLine_43 : decode cX12_readLine 43 = .ok (.iload_n 1, 1) := by decide +kernel
theorem dX12_readLine_44 : decode cX12_readLine 44 = .ok (.iconst (-1), 1) := by decide +kernel
theorem dX12_readLine_45 : decode cX12_readLine 45 = .ok (.if_icmp .ne 9, 3) := by decide +kernel
theorem dX12_readLine_48 : decode cX12_readLine 48 = .ok (.aload_n 0, 1) := by decide +kernel
theorem dX12_readLine_49 : decode cX12_readLine 49 = .ok (.iconst 3, 1) := by decide +kernel
theorem dX12_readLine_50 : decode cX12_readLine 50 = .ok (.invokevirtual 127, 3) := by decide +kernel
theorem dX12_readLine_53 : decode cX12_readLine 53 = .ok (.ireturn, 1) := by decide +kernel
theorem dX12_readLine_54 : decode cX12_readLine 54 = .ok (.aload_n 0, 1) := by decide +kernel
theorem dX12_readLine_55 : decode cX12_readLine 55 = .ok (.getfield 82, 3) := by decide +kernel
theorem dX12_readLine_58 : decode cX12_readLine 58 = .ok (.iload_n 1, 1) := by decide +kernel
theorem dX12_readLine_59 : decode cX12_readLine 59 = .ok (.invokestatic 148, 3) := by decide +kernel
theorem dX12_readLine_62 : decode cX12_readLine 62 = .ok (.bipush 6, 2) := by decide +kernel
theorem dX12_readLine_64 : decode cX12_readLine 64 = .ok (.if_icmp .ne 9, 3) := by decide +kernel
theorem dX12_readLine_67 : decode cX12_readLine 67 = .ok (.aload_n 0, 1) := by decide +kernel
theorem dX12_readLine_68 : decode cX12_readLine 68 = .ok (.iconst 5, 1) := by decide +kernel
theorem dX12_readLine_69 : decode cX12_readLine 69 = .ok (.invokevirtual 127, 3) := by decide +kernel
theorem dX12_readLine_72 : decode cX12_readLine 72 = .ok (.ireturn, 1) := by decide +kernel
theorem dX12_readLine_73 : decode cX12_readLine 73 = .ok (.aload_n 0, 1) := by decide +kernel
theorem dX12_readLine_74 : decode cX12_readLine 74 = .ok (.invokevirtual 130, 3) := by decide +kernel
theorem dX12_readLine_77 : decode cX12_readLine 77 = .ok (.aload_n 0, 1) := by decide +kernel
theorem dX12_readLine_78 : decode cX12_readLine 78 = .ok (.invokevirtual 133, 3) := by decide +kernel
theorem dX12_readLine_81 : decode cX12_readLine 81 = .ok (.ifCond .ne 9, 3) := by decide +kernel
theorem dX12_readLine_84 : decode cX12_readLine 84 = .ok (.aload_n 0, 1) := by decide +kernel
theorem dX12_readLine_85 : decode cX12_readLine 85 = .ok (.iconst 1, 1) := by decide +kernel
theorem dX12_readLine_86 : decode cX12_readLine 86 = .ok (.invokevirtual 127, 3) := by decide +kernel
theorem dX12_readLine_89 : decode cX12_readLine 89 = .ok (.ireturn, 1) := by decide +kernel
theorem dX12_readLine_90 : decode cX12_readLine 90 = .ok (.aload_n 0, 1) := by decide +kernel
theorem dX12_readLine_91 : decode cX12_readLine 91 = .ok (.invokevirtual 136, 3) := by decide +kernel
theorem dX12_readLine_94 : decode cX12_readLine 94 = .ok (.istore_n 2, 1) := by decide +kernel
theorem dX12_readLine_95 : decode cX12_readLine 95 = .ok (.iload_n 2, 1) := by decide +kernel
theorem dX12_readLine_96 : decode cX12_readLine 96 = .ok (.iconst (-1), 1) := by decide +kernel
theorem dX12_readLine_97 : decode cX12_readLine 97 = .ok (.if_icmp .ne 9, 3) := by decide +kernel
theorem dX12_readLine_100 : decode cX12_readLine 100 = .ok (.aload_n 0, 1) := by decide +kernel
theorem dX12_readLine_101 : decode cX12_readLine 101 = .ok (.iconst 3, 1) := by decide +kernel
theorem dX12_readLine_102 : decode cX12_readLine 102 = .ok (.invokevirtual 127, 3) := by decide +kernel
theorem dX12_readLine_105 : decode cX12_readLine 105 = .ok (.ireturn, 1) := by decide +kernel
theorem dX12_readLine_106 : decode cX12_readLine 106 = .ok (.aload_n 0, 1) := by decide +kernel
theorem dX12_readLine_107 : decode cX12_readLine 107 = .ok (.getfield 82, 3) := by decide +kernel
theorem dX12_readLine_110 : decode cX12_readLine 110 = .ok (.iload_n 2, 1) := by decide +kernel
theorem dX12_readLine_111 : decode cX12_readLine 111 = .ok (.invokestatic 148, 3) := by decide +kernel
theorem dX12_readLine_114 : decode cX12_readLine 114 = .ok (.iload_n 2, 1) := by decide +kernel
theorem dX12_readLine_115 : decode cX12_readLine 115 = .ok (.iload_n 1, 1) := by decide +kernel
theorem dX12_readLine_116 : decode cX12_readLine 116 = .ok (.if_icmp .ne 7, 3) := by decide +kernel
theorem dX12_readLine_119 : decode cX12_readLine 119 = .ok (.iconst 1, 1) := by decide +kernel
theorem dX12_readLine_120 : decode cX12_readLine 120 = .ok (.goto 4, 3) := by decide +kernel
theorem dX12_readLine_123 : decode cX12_readLine 123 = .ok (.iconst 0, 1) := by decide +kernel
theorem dX12_readLine_124 : decode cX12_readLine 124 = .ok (.iadd, 1) := by decide +kernel
theorem dX12_readLine_125 : decode cX12_readLine 125 = .ok (.bipush 6, 2) := by decide +kernel
theorem dX12_readLine_127 : decode cX12_readLine 127 = .ok (.if_icmp .ne 9, 3) := by decide +kernel
theorem dX12_readLine_130 : decode cX12_readLine 130 = .ok (.aload_n 0, 1) := by decide +kernel
theorem dX12_readLine_131 : decode cX12_readLine 131 = .ok (.iconst 5, 1) := by decide +kernel
theorem dX12_readLine_132 : decode cX12_readLine 132 = .ok (.invokevirtual 127, 3) := by decide +kernel
theorem dX12_readLine_135 : decode cX12_readLine 135 = .ok (.ireturn, 1) := by decide +kernel
theorem dX12_readLine_136 : decode cX12_readLine 136 = .ok (.aload_n 0, 1) := by decide +kernel
theorem dX12_readLine_137 : decode cX12_readLine 137 = .ok (.getfield 82, 3) := by decide +kernel
theorem dX12_readLine_140 : decode cX12_readLine 140 = .ok (.iload_n 1, 1) := by decide +kernel
theorem dX12_readLine_141 : decode cX12_readLine 141 = .ok (.iload_n 2, 1) := by decide +kernel
theorem dX12_readLine_142 : decode cX12_readLine 142 = .ok (.iconst 1, 1) := by decide +kernel
theorem dX12_readLine_143 : decode cX12_readLine 143 = .ok (.invokestatic 151, 3) := by decide +kernel
theorem dX12_readLine_146 : decode cX12_readLine 146 = .ok (.aload_n 0, 1) := by decide +kernel
theorem dX12_readLine_147 : decode cX12_readLine 147 = .ok (.invokevirtual 130, 3) := by decide +kernel
theorem dX12_readLine_150 : decode cX12_readLine 150 = .ok (.iconst 1, 1) := by decide +kernel
theorem dX12_readLine_151 : decode cX12_readLine 151 = .ok (.ireturn, 1) := by decide +kernel
theorem dX12_readEnd_0 : decode cX12_readEnd 0 = .ok (.aload_n 0, 1) := by decide +kernel
theorem dX12_readEnd_1 : decode cX12_readEnd 1 = .ok (.getfield 31, 3) := by decide +kernel
theorem dX12_readEnd_4 : decode cX12_readEnd 4 = .ok (.iconst 4, 1) := by decide +kernel
theorem dX12_readEnd_5 : decode cX12_readEnd 5 = .ok (.if_icmp .eq 9, 3) := by decide +kernel
theorem dX12_readEnd_8 : decode cX12_readEnd 8 = .ok (.aload_n 0, 1) := by decide +kernel
theorem dX12_readEnd_9 : decode cX12_readEnd 9 = .ok (.iconst 1, 1) := by decide +kernel
theorem dX12_readEnd_10 : decode cX12_readEnd 10 = .ok (.invokevirtual 127, 3) := by decide +kernel
theorem dX12_readEnd_13 : decode cX12_readEnd 13 = .ok (.ireturn, 1) := by decide +kernel
theorem dX12_readEnd_14 : decode cX12_readEnd 14 = .ok (.aload_n 0, 1) := by decide +kernel
theorem dX12_readEnd_15 : decode cX12_readEnd 15 = .ok (.invokevirtual 130, 3) := by decide +kernel
theorem dX12_readEnd_18 : decode cX12_readEnd 18 = .ok (.iconst 1, 1) := by decide +kernel
theorem dX12_readEnd_19 : decode cX12_readEnd 19 = .ok (.ireturn, 1) := by decide +kernel
theorem dX12_net_0 : decode cX12_net 0 = .ok (.aload_n 0, 1) := by decide +kernel
theorem dX12_net_1 : decode cX12_net 1 = .ok (.iconst 0, 1) := by decide +kernel
theorem dX12_net_2 : decode cX12_net 2 = .ok (.putfield 1, 3) := by decide +kernel
theorem dX12_net_5 : decode cX12_net 5 = .ok (.aload_n 0, 1) := by decide +kernel
theorem dX12_net_6 : decode cX12_net 6 = .ok (.aload_n 0, 1) := by decide +kernel
theorem dX12_net_7 : decode cX12_net 7 = .ok (.getfield 15, 3) := by decide +kernel
theorem dX12_net_10 : decode cX12_net 10 = .ok (.putfield 22, 3) := by decide +kernel
theorem dX12_net_13 : decode cX12_net 13 = .ok (.aload_n 0, 1) := by decide +kernel
theorem dX12_net_14 : decode cX12_net 14 = .ok (.iconst 0, 1) := by decide +kernel
theorem dX12_net_15 : decode cX12_net 15 = .ok (.putfield 15, 3) := by decide +kernel
theorem dX12_net_18 : decode cX12_net 18 = .ok (.aload_n 0, 1) := by decide +kernel
theorem dX12_net_19 : decode cX12_net 19 = .ok (.iconst 0, 1) := by decide +kernel
theorem dX12_net_20 : decode cX12_net 20 = .ok (.putfield 67, 3) := by decide +kernel
theorem dX12_net_23 : decode cX12_net 23 = .ok (.aload_n 0, 1) := by decide +kernel
theorem dX12_net_24 : decode cX12_net 24 = .ok (.iconst 0, 1) := by decide +kernel
theorem dX12_net_25 : decode cX12_net 25 = .ok (.putfield 25, 3) := by decide +kernel
theorem dX12_net_28 : decode cX12_net 28 = .ok (.iconst 0, 1) := by decide +kernel
theorem dX12_net_29 : decode cX12_net 29 = .ok (.istore_n 1, 1) := by decide +kernel
theorem dX12_net_30 : decode cX12_net 30 = .ok (.iconst 0, 1) := by decide +kernel
theorem dX12_net_31 : decode cX12_net 31 = .ok (.istore_n 2, 1) := by decide +kernel
theorem dX12_net_32 : decode cX12_net 32 = .ok (.iload_n 2, 1) := by decide +kernel
theorem dX12_net_33 : decode cX12_net 33 = .ok (.sipush 159, 3) := by decide +kernel
theorem dX12_net_36 : decode cX12_net 36 = .ok (.if_icmp .ge 16, 3) := by decide +kernel
theorem dX12_net_39 : decode cX12_net 39 = .ok (.aload_n 0, 1) := by decide +kernel
theorem dX12_net_40 : decode cX12_net 40 = .ok (.getfield 82, 3) := by decide +kernel
theorem dX12_net_43 : decode cX12_net 43 = .ok (.iload_n 2, 1) := by decide +kernel
theorem dX12_net_44 : decode cX12_net 44 = .ok (.iconst 0, 1) := by decide +kernel
theorem dX12_net_45 : decode cX12_net 45 = .ok (.iastore, 1) := by decide +kernel
theorem dX12_net_46 : decode cX12_net 46 = .ok (.iinc 2 1, 3) := by decide +kernel
theorem dX12_net_49 : decode cX12_net 49 = .ok (.goto (-17), 3) := by decide +kernel
theorem dX12_net_52 : decode cX12_net 52 = .ok (.aload_n 0, 1) := by decide +kernel
theorem dX12_net_53 : decode cX12_net 53 = .ok (.invokevirtual 130, 3) := by decide +kernel
theorem dX12_net_56 : decode cX12_net 56 = .ok (.aload_n 0, 1) := by decide +kernel
theorem dX12_net_57 : decode cX12_net 57 = .ok (.getfield 31, 3) := by decide +kernel
theorem dX12_net_60 : decode cX12_net 60 = .ok (.ifCond .eq 61, 3) := by decide +kernel
theorem dX12_net_63 : decode cX12_net 63 = .ok (.aload_n 0, 1) := by decide +kernel
theorem dX12_net_64 : decode cX12_net 64 = .ok (.invokevirtual 60, 3) := by decide +kernel
theorem dX12_net_67 : decode cX12_net 67 = .ok (.ifCond .eq 10, 3) := by decide +kernel
theorem dX12_net_70 : decode cX12_net 70 = .ok (.aload_n 0, 1) := by decide +kernel
theorem dX12_net_71 : decode cX12_net 71 = .ok (.invokevirtual 155, 3) := by decide +kernel
theorem dX12_net_74 : decode cX12_net 74 = .ok (.goto 22, 3) := by decide +kernel
theorem dX12_net_77 : decode cX12_net 77 = .ok (.aload_n 0, 1) := by decide +kernel
theorem dX12_net_78 : decode cX12_net 78 = .ok (.invokevirtual 64, 3) := by decide +kernel
theorem dX12_net_81 : decode cX12_net 81 = .ok (.ifCond .eq 10, 3) := by decide +kernel
theorem dX12_net_84 : decode cX12_net 84 = .ok (.aload_n 0, 1) := by decide +kernel
theorem dX12_net_85 : decode cX12_net 85 = .ok (.invokevirtual 158, 3) := by decide +kernel
theorem dX12_net_88 : decode cX12_net 88 = .ok (.goto 8, 3) := by decide +kernel
theorem dX12_net_91 : decode cX12_net 91 = .ok (.aload_n 0, 1) := by decide +kernel
theorem dX12_net_92 : decode cX12_net 92 = .ok (.iconst 1, 1) := by decide +kernel
theorem dX12_net_93 : decode cX12_net 93 = .ok (.invokevirtual 127, 3) := by decide +kernel
theorem dX12_net_96 : decode cX12_net 96 = .ok (.istore_n 2, 1) := by decide +kernel
theorem dX12_net_97 : decode cX12_net 97 = .ok (.iload_n 2, 1) := by decide +kernel
theorem dX12_net_98 : decode cX12_net 98 = .ok (.ifCond .eq 10, 3) := by decide +kernel
theorem dX12_net_101 : decode cX12_net 101 = .ok (.aload_n 0, 1) := by decide +kernel
theorem dX12_net_102 : decode cX12_net 102 = .ok (.invokevirtual 161, 3) := by decide +kernel
theorem dX12_net_105 : decode cX12_net 105 = .ok (.ifCond .ne 10, 3) := by decide +kernel
theorem dX12_net_108 : decode cX12_net 108 = .ok (.iconst (-1), 1) := by decide +kernel
theorem dX12_net_109 : decode cX12_net 109 = .ok (.aload_n 0, 1) := by decide +kernel
theorem dX12_net_110 : decode cX12_net 110 = .ok (.getfield 70, 3) := by decide +kernel
theorem dX12_net_113 : decode cX12_net 113 = .ok (.isub, 1) := by decide +kernel
theorem dX12_net_114 : decode cX12_net 114 = .ok (.ireturn, 1) := by decide +kernel
theorem dX12_net_115 : decode cX12_net 115 = .ok (.iinc 1 1, 3) := by decide +kernel
theorem dX12_net_118 : decode cX12_net 118 = .ok (.goto (-62), 3) := by decide +kernel
theorem dX12_net_121 : decode cX12_net 121 = .ok (.aload_n 0, 1) := by decide +kernel
theorem dX12_net_122 : decode cX12_net 122 = .ok (.getfield 82, 3) := by decide +kernel
theorem dX12_net_125 : decode cX12_net 125 = .ok (.iconst 0, 1) := by decide +kernel
theorem dX12_net_126 : decode cX12_net 126 = .ok (.aload_n 0, 1) := by decide +kernel
theorem dX12_net_127 : decode cX12_net 127 = .ok (.getfield 79, 3) := by decide +kernel
theorem dX12_net_130 : decode cX12_net 130 = .ok (.iconst 0, 1) := by decide +kernel
theorem dX12_net_131 : decode cX12_net 131 = .ok (.invokestatic 164, 3) := by decide +kernel
theorem dX12_net_134 : decode cX12_net 134 = .ok (.aload_n 0, 1) := by decide +kernel
theorem dX12_net_135 : decode cX12_net 135 = .ok (.iconst 0, 1) := by decide +kernel
theorem dX12_net_136 : decode cX12_net 136 = .ok (.putfield 168, 3) := by decide +kernel
theorem dX12_net_139 : decode cX12_net 139 = .ok (.iload_n 1, 1) := by decide +kernel
theorem dX12_net_140 : decode cX12_net 140 = .ok (.ireturn, 1) := by decide +kernel
theorem dX12_fault_0 : decode cX12_fault 0 = .ok (.aload_n 0, 1) := by decide +kernel
theorem dX12_fault_1 : decode cX12_fault 1 = .ok (.iconst 0, 1) := by decide +kernel
theorem dX12_fault_2 : decode cX12_fault 2 = .ok (.putfield 1, 3) := by decide +kernel
theorem dX12_fault_5 : decode cX12_fault 5 = .ok (.aload_n 0, 1) := by decide +kernel
theorem dX12_fault_6 : decode cX12_fault 6 = .ok (.getfield 67, 3) := by decide +kernel
theorem dX12_fault_9 : decode cX12_fault 9 = .ok (.ireturn, 1) := by decide +kernel
theorem dX12_there_0 : decode cX12_there 0 = .ok (.aload_n 0, 1) := by decide +kernel
theorem dX12_there_1 : decode cX12_there 1 = .ok (.getfield 79, 3) := by decide +kernel
theorem dX12_there_4 : decode cX12_there 4 = .ok (.iconst 1, 1) := by decide +kernel
theorem dX12_there_5 : decode cX12_there 5 = .ok (.iaload, 1) := by decide +kernel
theorem dX12_there_6 : decode cX12_there 6 = .ok (.ireturn, 1) := by decide +kernel
theorem dX12_isThere_0 : decode cX12_isThere 0 = .ok (.iload_n 1, 1) := by decide +kernel
theorem dX12_isThere_1 : decode cX12_isThere 1 = .ok (.iconst 0, 1) := by decide +kernel
theorem dX12_isThere_2 : decode cX12_isThere 2 = .ok (.bipush 11, 2) := by decide +kernel
theorem dX12_isThere_4 : decode cX12_isThere 4 = .ok (.invokestatic 140, 3) := by decide +kernel
theorem dX12_isThere_7 : decode cX12_isThere 7 = .ok (.ifCond .eq 18, 3) := by decide +kernel
theorem dX12_isThere_10 : decode cX12_isThere 10 = .ok (.aload_n 0, 1) := by decide +kernel
theorem dX12_isThere_11 : decode cX12_isThere 11 = .ok (.invokevirtual 171, 3) := by decide +kernel
theorem dX12_isThere_14 : decode cX12_isThere 14 = .ok (.iload_n 1, 1) := by decide +kernel
theorem dX12_isThere_15 : decode cX12_isThere 15 = .ok (.invokestatic 7, 3) := by decide +kernel
theorem dX12_isThere_18 : decode cX12_isThere 18 = .ok (.ifCond .eq 7, 3) := by decide +kernel
theorem dX12_isThere_21 : decode cX12_isThere 21 = .ok (.iconst 1, 1) := by decide +kernel
theorem dX12_isThere_22 : decode cX12_isThere 22 = .ok (.goto 4, 3) := by decide +kernel
theorem dX12_isThere_25 : decode cX12_isThere 25 = .ok (.iconst 0, 1) := by decide +kernel
theorem dX12_isThere_26 : decode cX12_isThere 26 = .ok (.ireturn, 1) := by decide +kernel
theorem dX12_areThere_0 : decode cX12_areThere 0 = .ok (.iload_n 1, 1) := by decide +kernel
theorem dX12_areThere_1 : decode cX12_areThere 1 = .ok (.ifCond .lt 18, 3) := by decide +kernel
theorem dX12_areThere_4 : decode cX12_areThere 4 = .ok (.iload_n 1, 1) := by decide +kernel
theorem dX12_areThere_5 : decode cX12_areThere 5 = .ok (.aload_n 0, 1) := by decide +kernel
theorem dX12_areThere_6 : decode cX12_areThere 6 = .ok (.invokevirtual 171, 3) := by decide +kernel
theorem dX12_areThere_9 : decode cX12_areThere 9 = .ok (.iconst (-1), 1) := by decide +kernel
theorem dX12_areThere_10 : decode cX12_areThere 10 = .ok (.ixor, 1) := by decide +kernel
theorem dX12_areThere_11 : decode cX12_areThere 11 = .ok (.iand, 1) := by decide +kernel
theorem dX12_areThere_12 : decode cX12_areThere 12 = .ok (.ifCond .ne 7, 3) := by decide +kernel
theorem dX12_areThere_15 : decode cX12_areThere 15 = .ok (.iconst 1, 1) := by decide +kernel
theorem dX12_areThere_16 : decode cX12_areThere 16 = .ok (.goto 4, 3) := by decide +kernel
theorem dX12_areThere_19 : decode cX12_areThere 19 = .ok (.iconst 0, 1) := by decide +kernel
theorem dX12_areThere_20 : decode cX12_areThere 20 = .ok (.ireturn, 1) := by decide +kernel
theorem dX12_weightOf_0 : decode cX12_weightOf 0 = .ok (.iconst 0, 1) := by decide +kernel
theorem dX12_weightOf_1 : decode cX12_weightOf 1 = .ok (.istore_n 2, 1) := by decide +kernel
theorem dX12_weightOf_2 : decode cX12_weightOf 2 = .ok (.iconst 0, 1) := by decide +kernel
theorem dX12_weightOf_3 : decode cX12_weightOf 3 = .ok (.istore_n 3, 1) := by decide +kernel
theorem dX12_weightOf_4 : decode cX12_weightOf 4 = .ok (.iload_n 3, 1) := by decide +kernel
theorem dX12_weightOf_5 : decode cX12_weightOf 5 = .ok (.bipush 12, 2) := by decide +kernel
theorem dX12_weightOf_7 : decode cX12_weightOf 7 = .ok (.if_icmp .ge 28, 3) := by decide +kernel
theorem dX12_weightOf_10 : decode cX12_weightOf 10 = .ok (.iload_n 1, 1) := by decide +kernel
theorem dX12_weightOf_11 : decode cX12_weightOf 11 = .ok (.iload_n 3, 1) := by decide +kernel
theorem dX12_weightOf_12 : decode cX12_weightOf 12 = .ok (.invokestatic 7, 3) := by decide +kernel
theorem dX12_weightOf_15 : decode cX12_weightOf 15 = .ok (.ifCond .eq 14, 3) := by decide +kernel
theorem dX12_weightOf_18 : decode cX12_weightOf 18 = .ok (.iload_n 2, 1) := by decide +kernel
theorem dX12_weightOf_19 : decode cX12_weightOf 19 = .ok (.aload_n 0, 1) := by decide +kernel
theorem dX12_weightOf_20 : decode cX12_weightOf 20 = .ok (.getfield 79, 3) := by decide +kernel
theorem dX12_weightOf_23 : decode cX12_weightOf 23 = .ok (.iconst 3, 1) := by decide +kernel
theorem dX12_weightOf_24 : decode cX12_weightOf 24 = .ok (.iload_n 3, 1) := by decide +kernel
theorem dX12_weightOf_25 : decode cX12_weightOf 25 = .ok (.iadd, 1) := by decide +kernel
theorem dX12_weightOf_26 : decode cX12_weightOf 26 = .ok (.iaload, 1) := by decide +kernel
theorem dX12_weightOf_27 : decode cX12_weightOf 27 = .ok (.iadd, 1) := by decide +kernel
theorem dX12_weightOf_28 : decode cX12_weightOf 28 = .ok (.istore_n 2, 1) := by decide +kernel
theorem dX12_weightOf_29 : decode cX12_weightOf 29 = .ok (.iinc 3 1, 3) := by decide +kernel
theorem dX12_weightOf_32 : decode cX12_weightOf 32 = .ok (.goto (-28), 3) := by decide +kernel
theorem dX12_weightOf_35 : decode cX12_weightOf 35 = .ok (.iload_n 2, 1) := by decide +kernel
theorem dX12_weightOf_36 : decode cX12_weightOf 36 = .ok (.ireturn, 1) := by decide +kernel
theorem dX12_partOf_0 : decode cX12_partOf 0 = .ok (.iconst 1, 1) := by decide +kernel
theorem dX12_partOf_1 : decode cX12_partOf 1 = .ok (.iload_n 1, 1) := by decide +kernel
theorem dX12_partOf_2 : decode cX12_partOf 2 = .ok (.ishl, 1) := by decide +kernel
theorem dX12_partOf_3 : decode cX12_partOf 3 = .ok (.istore_n 3, 1) := by decide +kernel
theorem dX12_partOf_4 : decode cX12_partOf 4 = .ok (.iconst 0, 1) := by decide +kernel
theorem dX12_partOf_5 : decode cX12_partOf 5 = .ok (.istore 4, 2) := by decide +kernel
theorem dX12_partOf_7 : decode cX12_partOf 7 = .ok (.iload_n 3, 1) := by decide +kernel
theorem dX12_partOf_8 : decode cX12_partOf 8 = .ok (.iload 4, 2) := by decide +kernel
theorem dX12_partOf_10 : decode cX12_partOf 10 = .ok (.if_icmp .eq 81, 3) := by decide +kernel
theorem dX12_partOf_13 : decode cX12_partOf 13 = .ok (.iload_n 3, 1) := by decide +kernel
theorem dX12_partOf_14 : decode cX12_partOf 14 = .ok (.istore 4, 2) := by decide +kernel
theorem dX12_partOf_16 : decode cX12_partOf 16 = .ok (.iconst 0, 1) := by decide +kernel
theorem dX12_partOf_17 : decode cX12_partOf 17 = .ok (.istore 5, 2) := by decide +kernel
theorem dX12_partOf_19 : decode cX12_partOf 19 = .ok (.iload 5, 2) := by decide +kernel
theorem dX12_partOf_21 : decode cX12_partOf 21 = .ok (.bipush 12, 2) := by decide +kernel
theorem dX12_partOf_23 : decode cX12_partOf 23 = .ok (.if_icmp .ge 65, 3) := by decide +kernel
theorem dX12_partOf_26 : decode cX12_partOf 26 = .ok (.iconst 0, 1) := by decide +kernel
theorem dX12_partOf_27 : decode cX12_partOf 27 = .ok (.istore 6, 2) := by decide +kernel
theorem dX12_partOf_29 : decode cX12_partOf 29 = .ok (.iload 6, 2) := by decide +kernel
theorem dX12_partOf_31 : decode cX12_partOf 31 = .ok (.bipush 12, 2) := by decide +kernel
theorem dX12_partOf_33 : decode cX12_partOf 33 = .ok (.if_icmp .ge 49, 3) := by decide +kernel
theorem dX12_partOf_36 : decode cX12_partOf 36 = .ok (.iload 4, 2) := by decide +kernel
theorem dX12_partOf_38 : decode cX12_partOf 38 = .ok (.iload 5, 2) := by decide +kernel
theorem dX12_partOf_40 : decode cX12_partOf 40 = .ok (.invokestatic 7, 3) := by decide +kernel
theorem dX12_partOf_43 : decode cX12_partOf 43 = .ok (.ifCond .eq 33, 3) := by decide +kernel
theorem dX12_partOf_46 : decode cX12_partOf 46 = .ok (.iload_n 2, 1) := by decide +kernel
theorem dX12_partOf_47 : decode cX12_partOf 47 = .ok (.iload 6, 2) := by decide +kernel
theorem dX12_partOf_49 : decode cX12_partOf 49 = .ok (.invokestatic 7, 3) := by decide +kernel
theorem dX12_partOf_52 : decode cX12_partOf 52 = .ok (.ifCond .eq 24, 3) := by decide +kernel
theorem dX12_partOf_55 : decode cX12_partOf 55 = .ok (.aload_n 0, 1) := by decide +kernel
theorem dX12_partOf_56 : decode cX12_partOf 56 = .ok (.getfield 79, 3) := by decide +kernel
theorem dX12_partOf_59 : decode cX12_partOf 59 = .ok (.iload 5, 2) := by decide +kernel
theorem dX12_partOf_61 : decode cX12_partOf 61 = .ok (.iload 6, 2) := by decide +kernel
theorem dX12_partOf_63 : decode cX12_partOf 63 = .ok (.invokestatic 120, 3) := by decide +kernel
theorem dX12_partOf_66 : decode cX12_partOf 66 = .ok (.ifCond .le 10, 3) := by decide +kernel
theorem dX12_partOf_69 : decode cX12_partOf 69 = .ok (.iload_n 3, 1) := by decide +kernel
theorem dX12_partOf_70 : decode cX12_partOf 70 = .ok (.iconst 1, 1) := by decide +kernel
theorem dX12_partOf_71 : decode cX12_partOf 71 = .ok (.iload 6, 2) := by decide +kernel
theorem dX12_partOf_73 : decode cX12_partOf 73 = .ok (.ishl, 1) := by decide +kernel
theorem dX12_partOf_74 : decode cX12_partOf 74 = .ok (.ior, 1) := by decide +kernel
theorem dX12_partOf_75 : decode cX12_partOf 75 = .ok (.istore_n 3, 1) := by decide +kernel
theorem dX12_partOf_76 : decode cX12_partOf 76 = .ok (.iinc 6 1, 3) := by decide +kernel
theorem dX12_partOf_79 : decode cX12_partOf 79 = .ok (.goto (-50), 3) := by decide +kernel
theorem dX12_partOf_82 : decode cX12_partOf 82 = .ok (.iinc 5 1, 3) := by decide +kernel
theorem dX12_partOf_85 : decode cX12_partOf 85 = .ok (.goto (-66), 3) := by decide +kernel
theorem dX12_partOf_88 : decode cX12_partOf 88 = .ok (.goto (-81), 3) := by decide +kernel
theorem dX12_partOf_91 : decode cX12_partOf 91 = .ok (.iload_n 3, 1) := by decide +kernel
theorem dX12_partOf_92 : decode cX12_partOf 92 = .ok (.ireturn, 1) := by decide +kernel
theorem dX12_parts_0 : decode cX12_parts 0 = .ok (.iload_n 1, 1) := by decide +kernel
theorem dX12_parts_1 : decode cX12_parts 1 = .ok (.istore_n 2, 1) := by decide +kernel
theorem dX12_parts_2 : decode cX12_parts 2 = .ok (.iconst 0, 1) := by decide +kernel
theorem dX12_parts_3 : decode cX12_parts 3 = .ok (.istore_n 3, 1) := by decide +kernel
theorem dX12_parts_4 : decode cX12_parts 4 = .ok (.iload_n 2, 1) := by decide +kernel
theorem dX12_parts_5 : decode cX12_parts 5 = .ok (.ifCond .eq 23, 3) := by decide +kernel
theorem dX12_parts_8 : decode cX12_parts 8 = .ok (.iload_n 2, 1) := by decide +kernel
theorem dX12_parts_9 : decode cX12_parts 9 = .ok (.aload_n 0, 1) := by decide +kernel
theorem dX12_parts_10 : decode cX12_parts 10 = .ok (.iload_n 2, 1) := by decide +kernel
theorem dX12_parts_11 : decode cX12_parts 11 = .ok (.invokestatic 174, 3) := by decide +kernel
theorem dX12_parts_14 : decode cX12_parts 14 = .ok (.iload_n 1, 1) := by decide +kernel
theorem dX12_parts_15 : decode cX12_parts 15 = .ok (.invokevirtual 177, 3) := by decide +kernel
theorem dX12_parts_18 : decode cX12_parts 18 = .ok (.iconst (-1), 1) := by decide +kernel
theorem dX12_parts_19 : decode cX12_parts 19 = .ok (.ixor, 1) := by decide +kernel
theorem dX12_parts_20 : decode cX12_parts 20 = .ok (.iand, 1) := by decide +kernel
theorem dX12_parts_21 : decode cX12_parts 21 = .ok (.istore_n 2, 1) := by decide +kernel
theorem dX12_parts_22 : decode cX12_parts 22 = .ok (.iinc 3 1, 3) := by decide +kernel
theorem dX12_parts_25 : decode cX12_parts 25 = .ok (.goto (-21), 3) := by decide +kernel
theorem dX12_parts_28 : decode cX12_parts 28 = .ok (.iload_n 3, 1) := by decide +kernel
theorem dX12_parts_29 : decode cX12_parts 29 = .ok (.ireturn, 1) := by decide +kernel
theorem dX12_now_0 : decode cX12_now 0 = .ok (.aload_n 0, 1) := by decide +kernel
theorem dX12_now_1 : decode cX12_now 1 = .ok (.iconst 0, 1) := by decide +kernel
theorem dX12_now_2 : decode cX12_now 2 = .ok (.putfield 1, 3) := by decide +kernel
theorem dX12_now_5 : decode cX12_now 5 = .ok (.iload_n 1, 1) := by decide +kernel
theorem dX12_now_6 : decode cX12_now 6 = .ok (.tableswitch 104 0 7 #[46, 53, 58, 69, 76, 85, 94, 99], 46) := by decide +kernel
theorem dX12_now_52 : decode cX12_now 52 = .ok (.aload_n 0, 1) := by decide +kernel
theorem dX12_now_53 : decode cX12_now 53 = .ok (.getfield 79, 3) := by decide +kernel
theorem dX12_now_56 : decode cX12_now 56 = .ok (.iconst 0, 1) := by decide +kernel
theorem dX12_now_57 : decode cX12_now 57 = .ok (.iaload, 1) := by decide +kernel
theorem dX12_now_58 : decode cX12_now 58 = .ok (.ireturn, 1) := by decide +kernel
theorem dX12_now_59 : decode cX12_now 59 = .ok (.aload_n 0, 1) := by decide +kernel
theorem dX12_now_60 : decode cX12_now 60 = .ok (.invokevirtual 171, 3) := by decide +kernel
theorem dX12_now_63 : decode cX12_now 63 = .ok (.ireturn, 1) := by decide +kernel
theorem dX12_now_64 : decode cX12_now 64 = .ok (.aload_n 0, 1) := by decide +kernel
theorem dX12_now_65 : decode cX12_now 65 = .ok (.getfield 79, 3) := by decide +kernel
theorem dX12_now_68 : decode cX12_now 68 = .ok (.sipush 4095, 3) := by decide +kernel
theorem dX12_now_71 : decode cX12_now 71 = .ok (.invokestatic 144, 3) := by decide +kernel
theorem dX12_now_74 : decode cX12_now 74 = .ok (.ireturn, 1) := by decide +kernel
theorem dX12_now_75 : decode cX12_now 75 = .ok (.aload_n 0, 1) := by decide +kernel
theorem dX12_now_76 : decode cX12_now 76 = .ok (.getfield 79, 3) := by decide +kernel
theorem dX12_now_79 : decode cX12_now 79 = .ok (.iconst 2, 1) := by decide +kernel
theorem dX12_now_80 : decode cX12_now 80 = .ok (.iaload, 1) := by decide +kernel
theorem dX12_now_81 : decode cX12_now 81 = .ok (.ireturn, 1) := by decide +kernel
theorem dX12_now_82 : decode cX12_now 82 = .ok (.aload_n 0, 1) := by decide +kernel
theorem dX12_now_83 : decode cX12_now 83 = .ok (.aload_n 0, 1) := by decide +kernel
theorem dX12_now_84 : decode cX12_now 84 = .ok (.invokevirtual 171, 3) := by decide +kernel
theorem dX12_now_87 : decode cX12_now 87 = .ok (.invokevirtual 181, 3) := by decide +kernel
theorem dX12_now_90 : decode cX12_now 90 = .ok (.ireturn, 1) := by decide +kernel
theorem dX12_now_91 : decode cX12_now 91 = .ok (.aload_n 0, 1) := by decide +kernel
theorem dX12_now_92 : decode cX12_now 92 = .ok (.aload_n 0, 1) := by decide +kernel
theorem dX12_now_93 : decode cX12_now 93 = .ok (.invokevirtual 171, 3) := by decide +kernel
theorem dX12_now_96 : decode cX12_now 96 = .ok (.invokevirtual 184, 3) := by decide +kernel
theorem dX12_now_99 : decode cX12_now 99 = .ok (.ireturn, 1) := by decide +kernel
theorem dX12_now_100 : decode cX12_now 100 = .ok (.aload_n 0, 1) := by decide +kernel
theorem dX12_now_101 : decode cX12_now 101 = .ok (.getfield 168, 3) := by decide +kernel
theorem dX12_now_104 : decode cX12_now 104 = .ok (.ireturn, 1) := by decide +kernel
theorem dX12_now_105 : decode cX12_now 105 = .ok (.aload_n 0, 1) := by decide +kernel
theorem dX12_now_106 : decode cX12_now 106 = .ok (.getfield 15, 3) := by decide +kernel
theorem dX12_now_109 : decode cX12_now 109 = .ok (.ireturn, 1) := by decide +kernel
theorem dX12_now_110 : decode cX12_now 110 = .ok (.iconst (-1), 1) := by decide +kernel
theorem dX12_now_111 : decode cX12_now 111 = .ok (.ireturn, 1) := by decide +kernel
theorem dX12_point_0 : decode cX12_point 0 = .ok (.aload_n 0, 1) := by decide +kernel
theorem dX12_point_1 : decode cX12_point 1 = .ok (.iconst 0, 1) := by decide +kernel
theorem dX12_point_2 : decode cX12_point 2 = .ok (.putfield 1, 3) := by decide +kernel
theorem dX12_point_5 : decode cX12_point 5 = .ok (.aload_n 0, 1) := by decide +kernel
theorem dX12_point_6 : decode cX12_point 6 = .ok (.iload_n 1, 1) := by decide +kernel
theorem dX12_point_7 : decode cX12_point 7 = .ok (.invokevirtual 187, 3) := by decide +kernel
theorem dX12_point_10 : decode cX12_point 10 = .ok (.ifCond .ne 8, 3) := by decide +kernel
theorem dX12_point_13 : decode cX12_point 13 = .ok (.aload_n 0, 1) := by decide +kernel
theorem dX12_point_14 : decode cX12_point 14 = .ok (.invokevirtual 190, 3) := by decide +kernel
theorem dX12_point_17 : decode cX12_point 17 = .ok (.ireturn, 1) := by decide +kernel
theorem dX12_point_18 : decode cX12_point 18 = .ok (.iload_n 2, 1) := by decide +kernel
theorem dX12_point_19 : decode cX12_point 19 = .ok (.tableswitch 103 0 3 #[29, 38, 47, 57], 29) := by decide +kernel
theorem dX12_point_48 : decode cX12_point 48 = .ok (.aload_n 0, 1) := by decide +kernel
theorem dX12_point_49 : decode cX12_point 49 = .ok (.getfield 79, 3) := by decide +kernel
theorem dX12_point_52 : decode cX12_point 52 = .ok (.iconst 3, 1) := by decide +kernel
theorem dX12_point_53 : decode cX12_point 53 = .ok (.iload_n 1, 1) := by decide +kernel
theorem dX12_point_54 : decode cX12_point 54 = .ok (.iadd, 1) := by decide +kernel
theorem dX12_point_55 : decode cX12_point 55 = .ok (.iaload, 1) := by decide +kernel
theorem dX12_point_56 : decode cX12_point 56 = .ok (.ireturn, 1) := by decide +kernel
theorem dX12_point_57 : decode cX12_point 57 = .ok (.aload_n 0, 1) := by decide +kernel
theorem dX12_point_58 : decode cX12_point 58 = .ok (.getfield 79, 3) := by decide +kernel
theorem dX12_point_61 : decode cX12_point 61 = .ok (.iload_n 1, 1) := by decide +kernel
theorem dX12_point_62 : decode cX12_point 62 = .ok (.invokestatic 148, 3) := by decide +kernel
theorem dX12_point_65 : decode cX12_point 65 = .ok (.ireturn, 1) := by decide +kernel
theorem dX12_point_66 : decode cX12_point 66 = .ok (.aload_n 0, 1) := by decide +kernel
theorem dX12_point_67 : decode cX12_point 67 = .ok (.getfield 79, 3) := by decide +kernel
theorem dX12_point_70 : decode cX12_point 70 = .ok (.iload_n 1, 1) := by decide +kernel
theorem dX12_point_71 : decode cX12_point 71 = .ok (.iload_n 1, 1) := by decide +kernel
theorem dX12_point_72 : decode cX12_point 72 = .ok (.invokestatic 120, 3) := by decide +kernel
theorem dX12_point_75 : decode cX12_point 75 = .ok (.ireturn, 1) := by decide +kernel
theorem dX12_point_76 : decode cX12_point 76 = .ok (.iconst 0, 1) := by decide +kernel
theorem dX12_point_77 : decode cX12_point 77 = .ok (.istore_n 3, 1) := by decide +kernel
theorem dX12_point_78 : decode cX12_point 78 = .ok (.iconst 0, 1) := by decide +kernel
theorem dX12_point_79 : decode cX12_point 79 = .ok (.istore 4, 2) := by decide +kernel
theorem dX12_point_81 : decode cX12_point 81 = .ok (.iload 4, 2) := by decide +kernel
theorem dX12_point_83 : decode cX12_point 83 = .ok (.bipush 12, 2) := by decide +kernel
theorem dX12_point_85 : decode cX12_point 85 = .ok (.if_icmp .ge 35, 3) := by decide +kernel
theorem dX12_point_88 : decode cX12_point 88 = .ok (.iload 4, 2) := by decide +kernel
theorem dX12_point_90 : decode cX12_point 90 = .ok (.iload_n 1, 1) := by decide +kernel
theorem dX12_point_91 : decode cX12_point 91 = .ok (.if_icmp .eq 23, 3) := by decide +kernel
theorem dX12_point_94 : decode cX12_point 94 = .ok (.aload_n 0, 1) := by decide +kernel
theorem dX12_point_95 : decode cX12_point 95 = .ok (.getfield 79, 3) := by decide +kernel
theorem dX12_point_98 : decode cX12_point 98 = .ok (.iload_n 1, 1) := by decide +kernel
theorem dX12_point_99 : decode cX12_point 99 = .ok (.iload 4, 2) := by decide +kernel
theorem dX12_point_101 : decode cX12_point 101 = .ok (.invokestatic 120, 3) := by decide +kernel
theorem dX12_point_104 : decode cX12_point 104 = .ok (.ifCond .le 10, 3) := by decide +kernel
theorem dX12_point_107 : decode cX12_point 107 = .ok (.iload_n 3, 1) := by decide +kernel
theorem dX12_point_108 : decode cX12_point 108 = .ok (.iconst 1, 1) := by decide +kernel
theorem dX12_point_109 : decode cX12_point 109 = .ok (.iload 4, 2) := by decide +kernel
theorem dX12_point_111 : decode cX12_point 111 = .ok (.ishl, 1) := by decide +kernel
theorem dX12_point_112 : decode cX12_point 112 = .ok (.ior, 1) := by decide +kernel
theorem dX12_point_113 : decode cX12_point 113 = .ok (.istore_n 3, 1) := by decide +kernel
theorem dX12_point_114 : decode cX12_point 114 = .ok (.iinc 4 1, 3) := by decide +kernel
theorem dX12_point_117 : decode cX12_point 117 = .ok (.goto (-36), 3) := by decide +kernel
theorem dX12_point_120 : decode cX12_point 120 = .ok (.iload_n 3, 1) := by decide +kernel
theorem dX12_point_121 : decode cX12_point 121 = .ok (.ireturn, 1) := by decide +kernel
theorem dX12_point_122 : decode cX12_point 122 = .ok (.aload_n 0, 1) := by decide +kernel
theorem dX12_point_123 : decode cX12_point 123 = .ok (.invokevirtual 190, 3) := by decide +kernel
theorem dX12_point_126 : decode cX12_point 126 = .ok (.ireturn, 1) := by decide +kernel
theorem dX12_lines_0 : decode cX12_lines 0 = .ok (.aload_n 0, 1) := by decide +kernel
theorem dX12_lines_1 : decode cX12_lines 1 = .ok (.iconst 0, 1) := by decide +kernel
theorem dX12_lines_2 : decode cX12_lines 2 = .ok (.putfield 1, 3) := by decide +kernel
theorem dX12_lines_5 : decode cX12_lines 5 = .ok (.aload_n 0, 1) := by decide +kernel
theorem dX12_lines_6 : decode cX12_lines 6 = .ok (.iload_n 1, 1) := by decide +kernel
theorem dX12_lines_7 : decode cX12_lines 7 = .ok (.invokevirtual 187, 3) := by decide +kernel
theorem dX12_lines_10 : decode cX12_lines 10 = .ok (.ifCond .eq 23, 3) := by decide +kernel
theorem dX12_lines_13 : decode cX12_lines 13 = .ok (.aload_n 0, 1) := by decide +kernel
theorem dX12_lines_14 : decode cX12_lines 14 = .ok (.iload_n 2, 1) := by decide +kernel
theorem dX12_lines_15 : decode cX12_lines 15 = .ok (.invokevirtual 187, 3) := by decide +kernel
theorem dX12_lines_18 : decode cX12_lines 18 = .ok (.ifCond .eq 15, 3) := by decide +kernel
theorem dX12_lines_21 : decode cX12_lines 21 = .ok (.aload_n 0, 1) := by decide +kernel
theorem dX12_lines_22 : decode cX12_lines 22 = .ok (.getfield 79, 3) := by decide +kernel
theorem dX12_lines_25 : decode cX12_lines 25 = .ok (.iload_n 1, 1) := by decide +kernel
theorem dX12_lines_26 : decode cX12_lines 26 = .ok (.iload_n 2, 1) := by decide +kernel
theorem dX12_lines_27 : decode cX12_lines 27 = .ok (.invokestatic 120, 3) := by decide +kernel
theorem dX12_lines_30 : decode cX12_lines 30 = .ok (.goto 4, 3) := by decide +kernel
theorem dX12_lines_33 : decode cX12_lines 33 = .ok (.iconst (-1), 1) := by decide +kernel
theorem dX12_lines_34 : decode cX12_lines 34 = .ok (.ireturn, 1) := by decide +kernel
theorem dX12_isOpen_0 : decode cX12_isOpen 0 = .ok (.aload_n 0, 1) := by decide +kernel
theorem dX12_isOpen_1 : decode cX12_isOpen 1 = .ok (.getfield 79, 3) := by decide +kernel
theorem dX12_isOpen_4 : decode cX12_isOpen 4 = .ok (.iload_n 1, 1) := by decide +kernel
theorem dX12_isOpen_5 : decode cX12_isOpen 5 = .ok (.invokestatic 144, 3) := by decide +kernel
theorem dX12_isOpen_8 : decode cX12_isOpen 8 = .ok (.iload_n 1, 1) := by decide +kernel
theorem dX12_isOpen_9 : decode cX12_isOpen 9 = .ok (.invokestatic 193, 3) := by decide +kernel
theorem dX12_isOpen_12 : decode cX12_isOpen 12 = .ok (.aload_n 0, 1) := by decide +kernel
theorem dX12_isOpen_13 : decode cX12_isOpen 13 = .ok (.iload_n 1, 1) := by decide +kernel
theorem dX12_isOpen_14 : decode cX12_isOpen 14 = .ok (.invokevirtual 181, 3) := by decide +kernel
theorem dX12_isOpen_17 : decode cX12_isOpen 17 = .ok (.isub, 1) := by decide +kernel
theorem dX12_isOpen_18 : decode cX12_isOpen 18 = .ok (.if_icmp .ne 7, 3) := by decide +kernel
theorem dX12_isOpen_21 : decode cX12_isOpen 21 = .ok (.iconst 1, 1) := by decide +kernel
theorem dX12_isOpen_22 : decode cX12_isOpen 22 = .ok (.goto 4, 3) := by decide +kernel
theorem dX12_isOpen_25 : decode cX12_isOpen 25 = .ok (.iconst 0, 1) := by decide +kernel
theorem dX12_isOpen_26 : decode cX12_isOpen 26 = .ok (.ireturn, 1) := by decide +kernel
theorem dX12_isCut_0 : decode cX12_isCut 0 = .ok (.aload_n 0, 1) := by decide +kernel
theorem dX12_isCut_1 : decode cX12_isCut 1 = .ok (.iload_n 2, 1) := by decide +kernel
theorem dX12_isCut_2 : decode cX12_isCut 2 = .ok (.iload_n 1, 1) := by decide +kernel
theorem dX12_isCut_3 : decode cX12_isCut 3 = .ok (.iconst (-1), 1) := by decide +kernel
theorem dX12_isCut_4 : decode cX12_isCut 4 = .ok (.ixor, 1) := by decide +kernel
theorem dX12_isCut_5 : decode cX12_isCut 5 = .ok (.iand, 1) := by decide +kernel
theorem dX12_isCut_6 : decode cX12_isCut 6 = .ok (.invokevirtual 196, 3) := by decide +kernel
theorem dX12_isCut_9 : decode cX12_isCut 9 = .ok (.ireturn, 1) := by decide +kernel
theorem dX12_cuts_0 : decode cX12_cuts 0 = .ok (.aload_n 0, 1) := by decide +kernel
theorem dX12_cuts_1 : decode cX12_cuts 1 = .ok (.iconst 0, 1) := by decide +kernel
theorem dX12_cuts_2 : decode cX12_cuts 2 = .ok (.putfield 1, 3) := by decide +kernel
theorem dX12_cuts_5 : decode cX12_cuts 5 = .ok (.aload_n 0, 1) := by decide +kernel
theorem dX12_cuts_6 : decode cX12_cuts 6 = .ok (.iload_n 1, 1) := by decide +kernel
theorem dX12_cuts_7 : decode cX12_cuts 7 = .ok (.invokevirtual 199, 3) := by decide +kernel
theorem dX12_cuts_10 : decode cX12_cuts 10 = .ok (.ifCond .ne 7, 3) := by decide +kernel
theorem dX12_cuts_13 : decode cX12_cuts 13 = .ok (.iconst (-1), 1) := by decide +kernel
theorem dX12_cuts_14 : decode cX12_cuts 14 = .ok (.goto 20, 3) := by decide +kernel
theorem dX12_cuts_17 : decode cX12_cuts 17 = .ok (.aload_n 0, 1) := by decide +kernel
theorem dX12_cuts_18 : decode cX12_cuts 18 = .ok (.iload_n 1, 1) := by decide +kernel
theorem dX12_cuts_19 : decode cX12_cuts 19 = .ok (.aload_n 0, 1) := by decide +kernel
theorem dX12_cuts_20 : decode cX12_cuts 20 = .ok (.invokevirtual 171, 3) := by decide +kernel
theorem dX12_cuts_23 : decode cX12_cuts 23 = .ok (.invokevirtual 202, 3) := by decide +kernel
theorem dX12_cuts_26 : decode cX12_cuts 26 = .ok (.ifCond .eq 7, 3) := by decide +kernel
theorem dX12_cuts_29 : decode cX12_cuts 29 = .ok (.iconst 1, 1) := by decide +kernel
theorem dX12_cuts_30 : decode cX12_cuts 30 = .ok (.goto 4, 3) := by decide +kernel
theorem dX12_cuts_33 : decode cX12_cuts 33 = .ok (.iconst 0, 1) := by decide +kernel
theorem dX12_cuts_34 : decode cX12_cuts 34 = .ok (.ireturn, 1) := by decide +kernel
theorem dX12_bestCut_0 : decode cX12_bestCut 0 = .ok (.iconst (-1), 1) := by decide +kernel
theorem dX12_bestCut_1 : decode cX12_bestCut 1 = .ok (.istore 4, 2) := by decide +kernel
theorem dX12_bestCut_3 : decode cX12_bestCut 3 = .ok (.iconst 0, 1) := by decide +kernel
theorem dX12_bestCut_4 : decode cX12_bestCut 4 = .ok (.istore 5, 2) := by decide +kernel
theorem dX12_bestCut_6 : decode cX12_bestCut 6 = .ok (.iconst 0, 1) := by decide +kernel
theorem dX12_bestCut_7 : decode cX12_bestCut 7 = .ok (.istore 6, 2) := by decide +kernel
theorem dX12_bestCut_9 : decode cX12_bestCut 9 = .ok (.iload 6, 2) := by decide +kernel
theorem dX12_bestCut_11 : decode cX12_bestCut 11 = .ok (.iload_n 1, 1) := by decide +kernel
theorem dX12_bestCut_12 : decode cX12_bestCut 12 = .ok (.if_icmp .gt 82, 3) := by decide +kernel
theorem dX12_bestCut_15 : decode cX12_bestCut 15 = .ok (.iload 6, 2) := by decide +kernel
theorem dX12_bestCut_17 : decode cX12_bestCut 17 = .ok (.iload_n 1, 1) := by decide +kernel
theorem dX12_bestCut_18 : decode cX12_bestCut 18 = .ok (.iconst (-1), 1) := by decide +kernel
theorem dX12_bestCut_19 : decode cX12_bestCut 19 = .ok (.ixor, 1) := by decide +kernel
theorem dX12_bestCut_20 : decode cX12_bestCut 20 = .ok (.iand, 1) := by decide +kernel
theorem dX12_bestCut_21 : decode cX12_bestCut 21 = .ok (.ifCond .ne 67, 3) := by decide +kernel
theorem dX12_bestCut_24 : decode cX12_bestCut 24 = .ok (.iload 6, 2) := by decide +kernel
theorem dX12_bestCut_26 : decode cX12_bestCut 26 = .ok (.iload_n 2, 1) := by decide +kernel
theorem dX12_bestCut_27 : decode cX12_bestCut 27 = .ok (.iand, 1) := by decide +kernel
theorem dX12_bestCut_28 : decode cX12_bestCut 28 = .ok (.ifCond .eq 6, 3) := by decide +kernel
theorem dX12_bestCut_31 : decode cX12_bestCut 31 = .ok (.goto 57, 3) := by decide +kernel
theorem dX12_bestCut_34 : decode cX12_bestCut 34 = .ok (.iload_n 3, 1) := by decide +kernel
theorem dX12_bestCut_35 : decode cX12_bestCut 35 = .ok (.ifCond .eq 12, 3) := by decide +kernel
theorem dX12_bestCut_38 : decode cX12_bestCut 38 = .ok (.aload_n 0, 1) := by decide +kernel
theorem dX12_bestCut_39 : decode cX12_bestCut 39 = .ok (.iload 6, 2) := by decide +kernel
theorem dX12_bestCut_41 : decode cX12_bestCut 41 = .ok (.invokevirtual 184, 3) := by decide +kernel
theorem dX12_bestCut_44 : decode cX12_bestCut 44 = .ok (.goto 8, 3) := by decide +kernel
theorem dX12_bestCut_47 : decode cX12_bestCut 47 = .ok (.iload 6, 2) := by decide +kernel
theorem dX12_bestCut_49 : decode cX12_bestCut 49 = .ok (.invokestatic 193, 3) := by decide +kernel
theorem dX12_bestCut_52 : decode cX12_bestCut 52 = .ok (.istore 7, 2) := by decide +kernel
theorem dX12_bestCut_54 : decode cX12_bestCut 54 = .ok (.iload 4, 2) := by decide +kernel
theorem dX12_bestCut_56 : decode cX12_bestCut 56 = .ok (.iconst (-1), 1) := by decide +kernel
theorem dX12_bestCut_57 : decode cX12_bestCut 57 = .ok (.if_icmp .eq 10, 3) := by decide +kernel
theorem dX12_bestCut_60 : decode cX12_bestCut 60 = .ok (.iload 7, 2) := by decide +kernel
theorem dX12_bestCut_62 : decode cX12_bestCut 62 = .ok (.iload 5, 2) := by decide +kernel
theorem dX12_bestCut_64 : decode cX12_bestCut 64 = .ok (.if_icmp .ge 24, 3) := by decide +kernel
theorem dX12_bestCut_67 : decode cX12_bestCut 67 = .ok (.aload_n 0, 1) := by decide +kernel
theorem dX12_bestCut_68 : decode cX12_bestCut 68 = .ok (.iload 6, 2) := by decide +kernel
theorem dX12_bestCut_70 : decode cX12_bestCut 70 = .ok (.iload_n 1, 1) := by decide +kernel
theorem dX12_bestCut_71 : decode cX12_bestCut 71 = .ok (.invokevirtual 202, 3) := by decide +kernel
theorem dX12_bestCut_74 : decode cX12_bestCut 74 = .ok (.ifCond .ne 6, 3) := by decide +kernel
theorem dX12_bestCut_77 : decode cX12_bestCut 77 = .ok (.goto 11, 3) := by decide +kernel
theorem dX12_bestCut_80 : decode cX12_bestCut 80 = .ok (.iload 6, 2) := by decide +kernel
theorem dX12_bestCut_82 : decode cX12_bestCut 82 = .ok (.istore 4, 2) := by decide +kernel
theorem dX12_bestCut_84 : decode cX12_bestCut 84 = .ok (.iload 7, 2) := by decide +kernel
theorem dX12_bestCut_86 : decode cX12_bestCut 86 = .ok (.istore 5, 2) := by decide +kernel
theorem dX12_bestCut_88 : decode cX12_bestCut 88 = .ok (.iinc 6 1, 3) := by decide +kernel
theorem dX12_bestCut_91 : decode cX12_bestCut 91 = .ok (.goto (-82), 3) := by decide +kernel
theorem dX12_bestCut_94 : decode cX12_bestCut 94 = .ok (.iload 4, 2) := by decide +kernel
theorem dX12_bestCut_96 : decode cX12_bestCut 96 = .ok (.ireturn, 1) := by decide +kernel
theorem dX12_tellsCut_0 : decode cX12_tellsCut 0 = .ok (.iload_n 2, 1) := by decide +kernel
theorem dX12_tellsCut_1 : decode cX12_tellsCut 1 = .ok (.ifCond .ne 10, 3) := by decide +kernel
theorem dX12_tellsCut_4 : decode cX12_tellsCut 4 = .ok (.iload_n 1, 1) := by decide +kernel
theorem dX12_tellsCut_5 : decode cX12_tellsCut 5 = .ok (.invokestatic 193, 3) := by decide +kernel
theorem dX12_tellsCut_8 : decode cX12_tellsCut 8 = .ok (.goto 26, 3) := by decide +kernel
theorem dX12_tellsCut_11 : decode cX12_tellsCut 11 = .ok (.iload_n 2, 1) := by decide +kernel
theorem dX12_tellsCut_12 : decode cX12_tellsCut 12 = .ok (.iconst 1, 1) := by decide +kernel
theorem dX12_tellsCut_13 : decode cX12_tellsCut 13 = .ok (.if_icmp .ne 7, 3) := by decide +kernel
theorem dX12_tellsCut_16 : decode cX12_tellsCut 16 = .ok (.iload_n 1, 1) := by decide +kernel
theorem dX12_tellsCut_17 : decode cX12_tellsCut 17 = .ok (.goto 17, 3) := by decide +kernel
theorem dX12_tellsCut_20 : decode cX12_tellsCut 20 = .ok (.iload_n 2, 1) := by decide +kernel
theorem dX12_tellsCut_21 : decode cX12_tellsCut 21 = .ok (.iconst 2, 1) := by decide +kernel
theorem dX12_tellsCut_22 : decode cX12_tellsCut 22 = .ok (.if_icmp .ne 11, 3) := by decide +kernel
theorem dX12_tellsCut_25 : decode cX12_tellsCut 25 = .ok (.aload_n 0, 1) := by decide +kernel
theorem dX12_tellsCut_26 : decode cX12_tellsCut 26 = .ok (.iload_n 1, 1) := by decide +kernel
theorem dX12_tellsCut_27 : decode cX12_tellsCut 27 = .ok (.invokevirtual 184, 3) := by decide +kernel
theorem dX12_tellsCut_30 : decode cX12_tellsCut 30 = .ok (.goto 4, 3) := by decide +kernel
theorem dX12_tellsCut_33 : decode cX12_tellsCut 33 = .ok (.iconst (-1), 1) := by decide +kernel
theorem dX12_tellsCut_34 : decode cX12_tellsCut 34 = .ok (.ireturn, 1) := by decide +kernel
theorem dX12_fewest_0 : decode cX12_fewest 0 = .ok (.aload_n 0, 1) := by decide +kernel
theorem dX12_fewest_1 : decode cX12_fewest 1 = .ok (.iconst 0, 1) := by decide +kernel
theorem dX12_fewest_2 : decode cX12_fewest 2 = .ok (.putfield 1, 3) := by decide +kernel
theorem dX12_fewest_5 : decode cX12_fewest 5 = .ok (.aload_n 0, 1) := by decide +kernel
theorem dX12_fewest_6 : decode cX12_fewest 6 = .ok (.aload_n 0, 1) := by decide +kernel
theorem dX12_fewest_7 : decode cX12_fewest 7 = .ok (.aload_n 0, 1) := by decide +kernel
theorem dX12_fewest_8 : decode cX12_fewest 8 = .ok (.invokevirtual 171, 3) := by decide +kernel
theorem dX12_fewest_11 : decode cX12_fewest 11 = .ok (.iconst 0, 1) := by decide +kernel
theorem dX12_fewest_12 : decode cX12_fewest 12 = .ok (.iconst 0, 1) := by decide +kernel
theorem dX12_fewest_13 : decode cX12_fewest 13 = .ok (.invokevirtual 205, 3) := by decide +kernel
theorem dX12_fewest_16 : decode cX12_fewest 16 = .ok (.iload_n 1, 1) := by decide +kernel
theorem dX12_fewest_17 : decode cX12_fewest 17 = .ok (.invokevirtual 209, 3) := by decide +kernel
theorem dX12_fewest_20 : decode cX12_fewest 20 = .ok (.ireturn, 1) := by decide +kernel
theorem dX12_lightest_0 : decode cX12_lightest 0 = .ok (.aload_n 0, 1) := by decide +kernel
theorem dX12_lightest_1 : decode cX12_lightest 1 = .ok (.iconst 0, 1) := by decide +kernel
theorem dX12_lightest_2 : decode cX12_lightest 2 = .ok (.putfield 1, 3) := by decide +kernel
theorem dX12_lightest_5 : decode cX12_lightest 5 = .ok (.aload_n 0, 1) := by decide +kernel
theorem dX12_lightest_6 : decode cX12_lightest 6 = .ok (.aload_n 0, 1) := by decide +kernel
theorem dX12_lightest_7 : decode cX12_lightest 7 = .ok (.aload_n 0, 1) := by decide +kernel
theorem dX12_lightest_8 : decode cX12_lightest 8 = .ok (.invokevirtual 171, 3) := by decide +kernel
theorem dX12_lightest_11 : decode cX12_lightest 11 = .ok (.iconst 0, 1) := by decide +kernel
theorem dX12_lightest_12 : decode cX12_lightest 12 = .ok (.iconst 1, 1) := by decide +kernel
theorem dX12_lightest_13 : decode cX12_lightest 13 = .ok (.invokevirtual 205, 3) := by decide +kernel
theorem dX12_lightest_16 : decode cX12_lightest 16 = .ok (.iload_n 1, 1) := by decide +kernel
theorem dX12_lightest_17 : decode cX12_lightest 17 = .ok (.invokevirtual 209, 3) := by decide +kernel
theorem dX12_lightest_20 : decode cX12_lightest 20 = .ok (.ireturn, 1) := by decide +kernel
theorem dX12_those_0 : decode cX12_those 0 = .ok (.aload_n 0, 1) := by decide +kernel
theorem dX12_those_1 : decode cX12_those 1 = .ok (.iconst 0, 1) := by decide +kernel
theorem dX12_those_2 : decode cX12_those 2 = .ok (.putfield 1, 3) := by decide +kernel
theorem dX12_those_5 : decode cX12_those 5 = .ok (.iload_n 1, 1) := by decide +kernel
theorem dX12_those_6 : decode cX12_those 6 = .ok (.iconst 0, 1) := by decide +kernel
theorem dX12_those_7 : decode cX12_those 7 = .ok (.iconst 2, 1) := by decide +kernel
theorem dX12_those_8 : decode cX12_those 8 = .ok (.invokestatic 140, 3) := by decide +kernel
theorem dX12_those_11 : decode cX12_those 11 = .ok (.ifCond .ne 5, 3) := by decide +kernel
theorem dX12_those_14 : decode cX12_those 14 = .ok (.iconst (-1), 1) := by decide +kernel
theorem dX12_those_15 : decode cX12_those 15 = .ok (.ireturn, 1) := by decide +kernel
theorem dX12_those_16 : decode cX12_those 16 = .ok (.aload_n 0, 1) := by decide +kernel
theorem dX12_those_17 : decode cX12_those 17 = .ok (.aload_n 0, 1) := by decide +kernel
theorem dX12_those_18 : decode cX12_those 18 = .ok (.invokevirtual 171, 3) := by decide +kernel
theorem dX12_those_21 : decode cX12_those 21 = .ok (.iconst 0, 1) := by decide +kernel
theorem dX12_those_22 : decode cX12_those 22 = .ok (.iconst 0, 1) := by decide +kernel
theorem dX12_those_23 : decode cX12_those 23 = .ok (.invokevirtual 205, 3) := by decide +kernel
theorem dX12_those_26 : decode cX12_those 26 = .ok (.invokestatic 193, 3) := by decide +kernel
theorem dX12_those_29 : decode cX12_those 29 = .ok (.istore_n 2, 1) := by decide +kernel
theorem dX12_those_30 : decode cX12_those 30 = .ok (.iconst 0, 1) := by decide +kernel
theorem dX12_those_31 : decode cX12_those 31 = .ok (.istore_n 3, 1) := by decide +kernel
theorem dX12_those_32 : decode cX12_those 32 = .ok (.aload_n 0, 1) := by decide +kernel
theorem dX12_those_33 : decode cX12_those 33 = .ok (.invokevirtual 171, 3) := by decide +kernel
theorem dX12_those_36 : decode cX12_those 36 = .ok (.istore 4, 2) := by decide +kernel
theorem dX12_those_38 : decode cX12_those 38 = .ok (.iconst 0, 1) := by decide +kernel
theorem dX12_those_39 : decode cX12_those 39 = .ok (.istore 5, 2) := by decide +kernel
theorem dX12_those_41 : decode cX12_those 41 = .ok (.iconst 0, 1) := by decide +kernel
theorem dX12_those_42 : decode cX12_those 42 = .ok (.istore 6, 2) := by decide +kernel
theorem dX12_those_44 : decode cX12_those 44 = .ok (.iload 6, 2) := by decide +kernel
theorem dX12_those_46 : decode cX12_those 46 = .ok (.aload_n 0, 1) := by decide +kernel
theorem dX12_those_47 : decode cX12_those 47 = .ok (.invokevirtual 171, 3) := by decide +kernel
theorem dX12_those_50 : decode cX12_those 50 = .ok (.if_icmp .gt 63, 3) := by decide +kernel
theorem dX12_those_53 : decode cX12_those 53 = .ok (.iload 6, 2) := by decide +kernel
theorem dX12_those_55 : decode cX12_those 55 = .ok (.aload_n 0, 1) := by decide +kernel
theorem dX12_those_56 : decode cX12_those 56 = .ok (.invokevirtual 171, 3) := by decide +kernel
theorem dX12_those_59 : decode cX12_those 59 = .ok (.iconst (-1), 1) := by decide +kernel
theorem dX12_those_60 : decode cX12_those 60 = .ok (.ixor, 1) := by decide +kernel
theorem dX12_those_61 : decode cX12_those 61 = .ok (.iand, 1) := by decide +kernel
theorem dX12_those_62 : decode cX12_those 62 = .ok (.ifCond .ne 45, 3) := by decide +kernel
theorem dX12_those_65 : decode cX12_those 65 = .ok (.iload 6, 2) := by decide +kernel
theorem dX12_those_67 : decode cX12_those 67 = .ok (.invokestatic 193, 3) := by decide +kernel
theorem dX12_those_70 : decode cX12_those 70 = .ok (.iload_n 2, 1) := by decide +kernel
theorem dX12_those_71 : decode cX12_those 71 = .ok (.if_icmp .ne 36, 3) := by decide +kernel
theorem dX12_those_74 : decode cX12_those 74 = .ok (.aload_n 0, 1) := by decide +kernel
theorem dX12_those_75 : decode cX12_those 75 = .ok (.iload 6, 2) := by decide +kernel
theorem dX12_those_77 : decode cX12_those 77 = .ok (.aload_n 0, 1) := by decide +kernel
theorem dX12_those_78 : decode cX12_those 78 = .ok (.invokevirtual 171, 3) := by decide +kernel
theorem dX12_those_81 : decode cX12_those 81 = .ok (.invokevirtual 202, 3) := by decide +kernel
theorem dX12_those_84 : decode cX12_those 84 = .ok (.ifCond .ne 6, 3) := by decide +kernel
theorem dX12_those_87 : decode cX12_those 87 = .ok (.goto 20, 3) := by decide +kernel
theorem dX12_those_90 : decode cX12_those 90 = .ok (.iinc 3 1, 3) := by decide +kernel
theorem dX12_those_93 : decode cX12_those 93 = .ok (.iload 4, 2) := by decide +kernel
theorem dX12_those_95 : decode cX12_those 95 = .ok (.iload 6, 2) := by decide +kernel
theorem dX12_those_97 : decode cX12_those 97 = .ok (.iand, 1) := by decide +kernel
theorem dX12_those_98 : decode cX12_those 98 = .ok (.istore 4, 2) := by decide +kernel
theorem dX12_those_100 : decode cX12_those 100 = .ok (.iload 5, 2) := by decide +kernel
theorem dX12_those_102 : decode cX12_those 102 = .ok (.iload 6, 2) := by decide +kernel
theorem dX12_those_104 : decode cX12_those 104 = .ok (.ior, 1) := by decide +kernel
theorem dX12_those_105 : decode cX12_those 105 = .ok (.istore 5, 2) := by decide +kernel
theorem dX12_those_107 : decode cX12_those 107 = .ok (.iinc 6 1, 3) := by decide +kernel
theorem dX12_those_110 : decode cX12_those 110 = .ok (.goto (-66), 3) := by decide +kernel
theorem dX12_those_113 : decode cX12_those 113 = .ok (.iload_n 1, 1) := by decide +kernel
theorem dX12_those_114 : decode cX12_those 114 = .ok (.ifCond .ne 7, 3) := by decide +kernel
theorem dX12_those_117 : decode cX12_those 117 = .ok (.iload_n 3, 1) := by decide +kernel
theorem dX12_those_118 : decode cX12_those 118 = .ok (.goto 15, 3) := by decide +kernel
theorem dX12_those_121 : decode cX12_those 121 = .ok (.iload_n 1, 1) := by decide +kernel
theorem dX12_those_122 : decode cX12_those 122 = .ok (.iconst 1, 1) := by decide +kernel
theorem dX12_those_123 : decode cX12_those 123 = .ok (.if_icmp .ne 8, 3) := by decide +kernel
theorem dX12_those_126 : decode cX12_those 126 = .ok (.iload 4, 2) := by decide +kernel
theorem dX12_those_128 : decode cX12_those 128 = .ok (.goto 5, 3) := by decide +kernel
theorem dX12_those_131 : decode cX12_those 131 = .ok (.iload 5, 2) := by decide +kernel
theorem dX12_those_133 : decode cX12_those 133 = .ok (.ireturn, 1) := by decide +kernel
theorem dX12_sparing_0 : decode cX12_sparing 0 = .ok (.aload_n 0, 1) := by decide +kernel
theorem dX12_sparing_1 : decode cX12_sparing 1 = .ok (.iconst 0, 1) := by decide +kernel
theorem dX12_sparing_2 : decode cX12_sparing 2 = .ok (.putfield 1, 3) := by decide +kernel
theorem dX12_sparing_5 : decode cX12_sparing 5 = .ok (.aload_n 0, 1) := by decide +kernel
theorem dX12_sparing_6 : decode cX12_sparing 6 = .ok (.iload_n 1, 1) := by decide +kernel
theorem dX12_sparing_7 : decode cX12_sparing 7 = .ok (.invokevirtual 199, 3) := by decide +kernel
theorem dX12_sparing_10 : decode cX12_sparing 10 = .ok (.ifCond .eq 16, 3) := by decide +kernel
theorem dX12_sparing_13 : decode cX12_sparing 13 = .ok (.aload_n 0, 1) := by decide +kernel
theorem dX12_sparing_14 : decode cX12_sparing 14 = .ok (.aload_n 0, 1) := by decide +kernel
theorem dX12_sparing_15 : decode cX12_sparing 15 = .ok (.invokevirtual 171, 3) := by decide +kernel
theorem dX12_sparing_18 : decode cX12_sparing 18 = .ok (.iload_n 1, 1) := by decide +kernel
theorem dX12_sparing_19 : decode cX12_sparing 19 = .ok (.iconst 0, 1) := by decide +kernel
theorem dX12_sparing_20 : decode cX12_sparing 20 = .ok (.invokevirtual 205, 3) := by decide +kernel
theorem dX12_sparing_23 : decode cX12_sparing 23 = .ok (.goto 4, 3) := by decide +kernel
theorem dX12_sparing_26 : decode cX12_sparing 26 = .ok (.iconst (-1), 1) := by decide +kernel
theorem dX12_sparing_27 : decode cX12_sparing 27 = .ok (.ireturn, 1) := by decide +kernel
theorem dX12_upTo_0 : decode cX12_upTo 0 = .ok (.aload_n 0, 1) := by decide +kernel
theorem dX12_upTo_1 : decode cX12_upTo 1 = .ok (.iconst 0, 1) := by decide +kernel
theorem dX12_upTo_2 : decode cX12_upTo 2 = .ok (.putfield 1, 3) := by decide +kernel
theorem dX12_upTo_5 : decode cX12_upTo 5 = .ok (.iload_n 1, 1) := by decide +kernel
theorem dX12_upTo_6 : decode cX12_upTo 6 = .ok (.iconst 0, 1) := by decide +kernel
theorem dX12_upTo_7 : decode cX12_upTo 7 = .ok (.aload_n 0, 1) := by decide +kernel
theorem dX12_upTo_8 : decode cX12_upTo 8 = .ok (.getfield 79, 3) := by decide +kernel
theorem dX12_upTo_11 : decode cX12_upTo 11 = .ok (.iconst 0, 1) := by decide +kernel
theorem dX12_upTo_12 : decode cX12_upTo 12 = .ok (.iaload, 1) := by decide +kernel
theorem dX12_upTo_13 : decode cX12_upTo 13 = .ok (.iconst 1, 1) := by decide +kernel
theorem dX12_upTo_14 : decode cX12_upTo 14 = .ok (.isub, 1) := by decide +kernel
theorem dX12_upTo_15 : decode cX12_upTo 15 = .ok (.invokestatic 140, 3) := by decide +kernel
theorem dX12_upTo_18 : decode cX12_upTo 18 = .ok (.ifCond .eq 25, 3) := by decide +kernel
theorem dX12_upTo_21 : decode cX12_upTo 21 = .ok (.aload_n 0, 1) := by decide +kernel
theorem dX12_upTo_22 : decode cX12_upTo 22 = .ok (.aload_n 0, 1) := by decide +kernel
theorem dX12_upTo_23 : decode cX12_upTo 23 = .ok (.invokevirtual 171, 3) := by decide +kernel
theorem dX12_upTo_26 : decode cX12_upTo 26 = .ok (.iconst 2, 1) := by decide +kernel
theorem dX12_upTo_27 : decode cX12_upTo 27 = .ok (.iload_n 1, 1) := by decide +kernel
theorem dX12_upTo_28 : decode cX12_upTo 28 = .ok (.ishl, 1) := by decide +kernel
theorem dX12_upTo_29 : decode cX12_upTo 29 = .ok (.iconst 1, 1) := by decide +kernel
theorem dX12_upTo_30 : decode cX12_upTo 30 = .ok (.isub, 1) := by decide +kernel
theorem dX12_upTo_31 : decode cX12_upTo 31 = .ok (.iand, 1) := by decide +kernel
theorem dX12_upTo_32 : decode cX12_upTo 32 = .ok (.iconst 0, 1) := by decide +kernel
theorem dX12_upTo_33 : decode cX12_upTo 33 = .ok (.iconst 0, 1) := by decide +kernel
theorem dX12_upTo_34 : decode cX12_upTo 34 = .ok (.invokevirtual 205, 3) := by decide +kernel
theorem dX12_upTo_37 : decode cX12_upTo 37 = .ok (.invokestatic 193, 3) := by decide +kernel
theorem dX12_upTo_40 : decode cX12_upTo 40 = .ok (.goto 4, 3) := by decide +kernel
theorem dX12_upTo_43 : decode cX12_upTo 43 = .ok (.iconst (-1), 1) := by decide +kernel
theorem dX12_upTo_44 : decode cX12_upTo 44 = .ok (.ireturn, 1) := by decide +kernel
theorem dX12_goes_0 : decode cX12_goes 0 = .ok (.iload_n 1, 1) := by decide +kernel
theorem dX12_goes_1 : decode cX12_goes 1 = .ok (.istore 6, 2) := by decide +kernel
theorem dX12_goes_3 : decode cX12_goes 3 = .ok (.iload 6, 2) := by decide +kernel
theorem dX12_goes_5 : decode cX12_goes 5 = .ok (.bipush 12, 2) := by decide +kernel
theorem dX12_goes_7 : decode cX12_goes 7 = .ok (.if_icmp .ge 99, 3) := by decide +kernel
theorem dX12_goes_10 : decode cX12_goes 10 = .ok (.aload_n 0, 1) := by decide +kernel
theorem dX12_goes_11 : decode cX12_goes 11 = .ok (.getfield 79, 3) := by decide +kernel
theorem dX12_goes_14 : decode cX12_goes 14 = .ok (.iload_n 2, 1) := by decide +kernel
theorem dX12_goes_15 : decode cX12_goes 15 = .ok (.iload 6, 2) := by decide +kernel
theorem dX12_goes_17 : decode cX12_goes 17 = .ok (.invokestatic 120, 3) := by decide +kernel
theorem dX12_goes_20 : decode cX12_goes 20 = .ok (.istore 7, 2) := by decide +kernel
theorem dX12_goes_22 : decode cX12_goes 22 = .ok (.iload 7, 2) := by decide +kernel
theorem dX12_goes_24 : decode cX12_goes 24 = .ok (.ifCond .ne 6, 3) := by decide +kernel
theorem dX12_goes_27 : decode cX12_goes 27 = .ok (.goto 73, 3) := by decide +kernel
theorem dX12_goes_30 : decode cX12_goes 30 = .ok (.iload 6, 2) := by decide +kernel
theorem dX12_goes_32 : decode cX12_goes 32 = .ok (.iload_n 1, 1) := by decide +kernel
theorem dX12_goes_33 : decode cX12_goes 33 = .ok (.if_icmp .ne 33, 3) := by decide +kernel
theorem dX12_goes_36 : decode cX12_goes 36 = .ok (.iload_n 3, 1) := by decide +kernel
theorem dX12_goes_37 : decode cX12_goes 37 = .ok (.invokestatic 193, 3) := by decide +kernel
theorem dX12_goes_40 : decode cX12_goes 40 = .ok (.iconst 2, 1) := by decide +kernel
theorem dX12_goes_41 : decode cX12_goes 41 = .ok (.if_icmp .le 25, 3) := by decide +kernel
theorem dX12_goes_44 : decode cX12_goes 44 = .ok (.aload_n 0, 1) := by decide +kernel
theorem dX12_goes_45 : decode cX12_goes 45 = .ok (.dup, 1) := by decide +kernel
theorem dX12_goes_46 : decode cX12_goes 46 = .ok (.getfield 212, 3) := by decide +kernel
theorem dX12_goes_49 : decode cX12_goes 49 = .ok (.lload 4, 2) := by decide +kernel
theorem dX12_goes_51 : decode cX12_goes 51 = .ok (.iload 7, 2) := by decide +kernel
theorem dX12_goes_53 : decode cX12_goes 53 = .ok (.i2l, 1) := by decide +kernel
theorem dX12_goes_54 : decode cX12_goes 54 = .ok (.lmul, 1) := by decide +kernel
theorem dX12_goes_55 : decode cX12_goes 55 = .ok (.ladd, 1) := by decide +kernel
theorem dX12_goes_56 : decode cX12_goes 56 = .ok (.putfield 212, 3) := by decide +kernel
theorem dX12_goes_59 : decode cX12_goes 59 = .ok (.aload_n 0, 1) := by decide +kernel
theorem dX12_goes_60 : decode cX12_goes 60 = .ok (.getfield 105, 3) := by decide +kernel
theorem dX12_goes_63 : decode cX12_goes 63 = .ok (.iload_n 3, 1) := by decide +kernel
theorem dX12_goes_64 : decode cX12_goes 64 = .ok (.iconst 1, 1) := by decide +kernel
theorem dX12_goes_65 : decode cX12_goes 65 = .ok (.bastore, 1) := by decide +kernel
theorem dX12_goes_66 : decode cX12_goes 66 = .ok (.iload 6, 2) := by decide +kernel
theorem dX12_goes_68 : decode cX12_goes 68 = .ok (.iload_n 2, 1) := by decide +kernel
theorem dX12_goes_69 : decode cX12_goes 69 = .ok (.if_icmp .eq 31, 3) := by decide +kernel
theorem dX12_goes_72 : decode cX12_goes 72 = .ok (.iload_n 3, 1) := by decide +kernel
theorem dX12_goes_73 : decode cX12_goes 73 = .ok (.iload 6, 2) := by decide +kernel
theorem dX12_goes_75 : decode cX12_goes 75 = .ok (.invokestatic 7, 3) := by decide +kernel
theorem dX12_goes_78 : decode cX12_goes 78 = .ok (.ifCond .ne 22, 3) := by decide +kernel
theorem dX12_goes_81 : decode cX12_goes 81 = .ok (.aload_n 0, 1) := by decide +kernel
theorem dX12_goes_82 : decode cX12_goes 82 = .ok (.iload_n 1, 1) := by decide +kernel
theorem dX12_goes_83 : decode cX12_goes 83 = .ok (.iload 6, 2) := by decide +kernel
theorem dX12_goes_85 : decode cX12_goes 85 = .ok (.iload_n 3, 1) := by decide +kernel
theorem dX12_goes_86 : decode cX12_goes 86 = .ok (.iconst 1, 1) := by decide +kernel
theorem dX12_goes_87 : decode cX12_goes 87 = .ok (.iload 6, 2) := by decide +kernel
theorem dX12_goes_89 : decode cX12_goes 89 = .ok (.ishl, 1) := by decide +kernel
theorem dX12_goes_90 : decode cX12_goes 90 = .ok (.ior, 1) := by decide +kernel
theorem dX12_goes_91 : decode cX12_goes 91 = .ok (.lload 4, 2) := by decide +kernel
theorem dX12_goes_93 : decode cX12_goes 93 = .ok (.iload 7, 2) := by decide +kernel
theorem dX12_goes_95 : decode cX12_goes 95 = .ok (.i2l, 1) := by decide +kernel
theorem dX12_goes_96 : decode cX12_goes 96 = .ok (.lmul, 1) := by decide +kernel
theorem dX12_goes_97 : decode cX12_goes 97 = .ok (.invokevirtual 215, 3) := by decide +kernel
theorem dX12_goes_100 : decode cX12_goes 100 = .ok (.iinc 6 1, 3) := by decide +kernel
theorem dX12_goes_103 : decode cX12_goes 103 = .ok (.goto (-100), 3) := by decide +kernel
theorem dX12_goes_106 : decode cX12_goes 106 = .ok (.return_, 1) := by decide +kernel
theorem dX12_laysRings_0 : decode cX12_laysRings 0 = .ok (.aload_n 0, 1) := by decide +kernel
theorem dX12_laysRings_1 : decode cX12_laysRings 1 = .ok (.lconst 0, 1) := by decide +kernel
theorem dX12_laysRings_2 : decode cX12_laysRings 2 = .ok (.putfield 212, 3) := by decide +kernel
theorem dX12_laysRings_5 : decode cX12_laysRings 5 = .ok (.iconst 0, 1) := by decide +kernel
theorem dX12_laysRings_6 : decode cX12_laysRings 6 = .ok (.istore_n 1, 1) := by decide +kernel
theorem dX12_laysRings_7 : decode cX12_laysRings 7 = .ok (.iload_n 1, 1) := by decide +kernel
theorem dX12_laysRings_8 : decode cX12_laysRings 8 = .ok (.sipush 4096, 3) := by decide +kernel
theorem dX12_laysRings_11 : decode cX12_laysRings 11 = .ok (.if_icmp .ge 16, 3) := by decide +kernel
theorem dX12_laysRings_14 : decode cX12_laysRings 14 = .ok (.aload_n 0, 1) := by decide +kernel
theorem dX12_laysRings_15 : decode cX12_laysRings 15 = .ok (.getfield 105, 3) := by decide +kernel
theorem dX12_laysRings_18 : decode cX12_laysRings 18 = .ok (.iload_n 1, 1) := by decide +kernel
theorem dX12_laysRings_19 : decode cX12_laysRings 19 = .ok (.iconst 0, 1) := by decide +kernel
theorem dX12_laysRings_20 : decode cX12_laysRings 20 = .ok (.bastore, 1) := by decide +kernel
theorem dX12_laysRings_21 : decode cX12_laysRings 21 = .ok (.iinc 1 1, 3) := by decide +kernel
theorem dX12_laysRings_24 : decode cX12_laysRings 24 = .ok (.goto (-17), 3) := by decide +kernel
theorem dX12_laysRings_27 : decode cX12_laysRings 27 = .ok (.iconst 0, 1) := by decide +kernel
theorem dX12_laysRings_28 : decode cX12_laysRings 28 = .ok (.istore_n 1, 1) := by decide +kernel
theorem dX12_laysRings_29 : decode cX12_laysRings 29 = .ok (.iload_n 1, 1) := by decide +kernel
theorem dX12_laysRings_30 : decode cX12_laysRings 30 = .ok (.bipush 12, 2) := by decide +kernel
theorem dX12_laysRings_32 : decode cX12_laysRings 32 = .ok (.if_icmp .ge 19, 3) := by decide +kernel
theorem dX12_laysRings_35 : decode cX12_laysRings 35 = .ok (.aload_n 0, 1) := by decide +kernel
theorem dX12_laysRings_36 : decode cX12_laysRings 36 = .ok (.iload_n 1, 1) := by decide +kernel
theorem dX12_laysRings_37 : decode cX12_laysRings 37 = .ok (.iload_n 1, 1) := by decide +kernel
theorem dX12_laysRings_38 : decode cX12_laysRings 38 = .ok (.iconst 1, 1) := by decide +kernel
theorem dX12_laysRings_39 : decode cX12_laysRings 39 = .ok (.iload_n 1, 1) := by decide +kernel
theorem dX12_laysRings_40 : decode cX12_laysRings 40 = .ok (.ishl, 1) := by decide +kernel
theorem dX12_laysRings_41 : decode cX12_laysRings 41 = .ok (.lconst 1, 1) := by decide +kernel
theorem dX12_laysRings_42 : decode cX12_laysRings 42 = .ok (.invokevirtual 215, 3) := by decide +kernel
theorem dX12_laysRings_45 : decode cX12_laysRings 45 = .ok (.iinc 1 1, 3) := by decide +kernel
theorem dX12_laysRings_48 : decode cX12_laysRings 48 = .ok (.goto (-19), 3) := by decide +kernel
theorem dX12_laysRings_51 : decode cX12_laysRings 51 = .ok (.aload_n 0, 1) := by decide +kernel
theorem dX12_laysRings_52 : decode cX12_laysRings 52 = .ok (.dup, 1) := by decide +kernel
theorem dX12_laysRings_53 : decode cX12_laysRings 53 = .ok (.getfield 212, 3) := by decide +kernel
theorem dX12_laysRings_56 : decode cX12_laysRings 56 = .ok (.ldc2_w 219, 3) := by decide +kernel
theorem dX12_laysRings_59 : decode cX12_laysRings 59 = .ok (.ldiv, 1) := by decide +kernel
theorem dX12_laysRings_60 : decode cX12_laysRings 60 = .ok (.putfield 212, 3) := by decide +kernel
theorem dX12_laysRings_63 : decode cX12_laysRings 63 = .ok (.iconst 0, 1) := by decide +kernel
theorem dX12_laysRings_64 : decode cX12_laysRings 64 = .ok (.istore_n 1, 1) := by decide +kernel
theorem dX12_laysRings_65 : decode cX12_laysRings 65 = .ok (.iload_n 1, 1) := by decide +kernel
theorem dX12_laysRings_66 : decode cX12_laysRings 66 = .ok (.bipush 12, 2) := by decide +kernel
theorem dX12_laysRings_68 : decode cX12_laysRings 68 = .ok (.if_icmp .ge 110, 3) := by decide +kernel
theorem dX12_laysRings_71 : decode cX12_laysRings 71 = .ok (.aload_n 0, 1) := by decide +kernel
theorem dX12_laysRings_72 : decode cX12_laysRings 72 = .ok (.dup, 1) := by decide +kernel
theorem dX12_laysRings_73 : decode cX12_laysRings 73 = .ok (.getfield 212, 3) := by decide +kernel
theorem dX12_laysRings_76 : decode cX12_laysRings 76 = .ok (.aload_n 0, 1) := by decide +kernel
theorem dX12_laysRings_77 : decode cX12_laysRings 77 = .ok (.getfield 79, 3) := by decide +kernel
theorem dX12_laysRings_80 : decode cX12_laysRings 80 = .ok (.iload_n 1, 1) := by decide +kernel
theorem dX12_laysRings_81 : decode cX12_laysRings 81 = .ok (.iload_n 1, 1) := by decide +kernel
theorem dX12_laysRings_82 : decode cX12_laysRings 82 = .ok (.invokestatic 120, 3) := by decide +kernel
theorem dX12_laysRings_85 : decode cX12_laysRings 85 = .ok (.i2l, 1) := by decide +kernel
theorem dX12_laysRings_86 : decode cX12_laysRings 86 = .ok (.ladd, 1) := by decide +kernel
theorem dX12_laysRings_87 : decode cX12_laysRings 87 = .ok (.putfield 212, 3) := by decide +kernel
theorem dX12_laysRings_90 : decode cX12_laysRings 90 = .ok (.aload_n 0, 1) := by decide +kernel
theorem dX12_laysRings_91 : decode cX12_laysRings 91 = .ok (.getfield 79, 3) := by decide +kernel
theorem dX12_laysRings_94 : decode cX12_laysRings 94 = .ok (.iload_n 1, 1) := by decide +kernel
theorem dX12_laysRings_95 : decode cX12_laysRings 95 = .ok (.iload_n 1, 1) := by decide +kernel
theorem dX12_laysRings_96 : decode cX12_laysRings 96 = .ok (.invokestatic 120, 3) := by decide +kernel
theorem dX12_laysRings_99 : decode cX12_laysRings 99 = .ok (.ifCond .le 12, 3) := by decide +kernel
theorem dX12_laysRings_102 : decode cX12_laysRings 102 = .ok (.aload_n 0, 1) := by decide +kernel
theorem dX12_laysRings_103 : decode cX12_laysRings 103 = .ok (.getfield 105, 3) := by decide +kernel
theorem dX12_laysRings_106 : decode cX12_laysRings 106 = .ok (.iconst 1, 1) := by decide +kernel
theorem dX12_laysRings_107 : decode cX12_laysRings 107 = .ok (.iload_n 1, 1) := by decide +kernel
theorem dX12_laysRings_108 : decode cX12_laysRings 108 = .ok (.ishl, 1) := by decide +kernel
theorem dX12_laysRings_109 : decode cX12_laysRings 109 = .ok (.iconst 1, 1) := by decide +kernel
theorem dX12_laysRings_110 : decode cX12_laysRings 110 = .ok (.bastore, 1) := by decide +kernel
theorem dX12_laysRings_111 : decode cX12_laysRings 111 = .ok (.iload_n 1, 1) := by decide +kernel
theorem dX12_laysRings_112 : decode cX12_laysRings 112 = .ok (.iconst 1, 1) := by decide +kernel
theorem dX12_laysRings_113 : decode cX12_laysRings 113 = .ok (.iadd, 1) := by decide +kernel
theorem dX12_laysRings_114 : decode cX12_laysRings 114 = .ok (.istore_n 2, 1) := by decide +kernel
theorem dX12_laysRings_115 : decode cX12_laysRings 115 = .ok (.iload_n 2, 1) := by decide +kernel
theorem dX12_laysRings_116 : decode cX12_laysRings 116 = .ok (.bipush 12, 2) := by decide +kernel
theorem dX12_laysRings_118 : decode cX12_laysRings 118 = .ok (.if_icmp .ge 54, 3) := by decide +kernel
theorem dX12_laysRings_121 : decode cX12_laysRings 121 = .ok (.aload_n 0, 1) := by decide +kernel
theorem dX12_laysRings_122 : decode cX12_laysRings 122 = .ok (.getfield 79, 3) := by decide +kernel
theorem dX12_laysRings_125 : decode cX12_laysRings 125 = .ok (.iload_n 1, 1) := by decide +kernel
theorem dX12_laysRings_126 : decode cX12_laysRings 126 = .ok (.iload_n 2, 1) := by decide +kernel
theorem dX12_laysRings_127 : decode cX12_laysRings 127 = .ok (.invokestatic 120, 3) := by decide +kernel
theorem dX12_laysRings_130 : decode cX12_laysRings 130 = .ok (.istore_n 3, 1) := by decide +kernel
theorem dX12_laysRings_131 : decode cX12_laysRings 131 = .ok (.aload_n 0, 1) := by decide +kernel
theorem dX12_laysRings_132 : decode cX12_laysRings 132 = .ok (.dup, 1) := by decide +kernel
theorem dX12_laysRings_133 : decode cX12_laysRings 133 = .ok (.getfield 212, 3) := by decide +kernel
theorem dX12_laysRings_136 : decode cX12_laysRings 136 = .ok (.iload_n 3, 1) := by decide +kernel
theorem dX12_laysRings_137 : decode cX12_laysRings 137 = .ok (.iload_n 3, 1) := by decide +kernel
theorem dX12_laysRings_138 : decode cX12_laysRings 138 = .ok (.iconst 1, 1) := by decide +kernel
theorem dX12_laysRings_139 : decode cX12_laysRings 139 = .ok (.isub, 1) := by decide +kernel
theorem dX12_laysRings_140 : decode cX12_laysRings 140 = .ok (.imul, 1) := by decide +kernel
theorem dX12_laysRings_141 : decode cX12_laysRings 141 = .ok (.iconst 2, 1) := by decide +kernel
theorem dX12_laysRings_142 : decode cX12_laysRings 142 = .ok (.idiv, 1) := by decide +kernel
theorem dX12_laysRings_143 : decode cX12_laysRings 143 = .ok (.i2l, 1) := by decide +kernel
theorem dX12_laysRings_144 : decode cX12_laysRings 144 = .ok (.ladd, 1) := by decide +kernel
theorem dX12_laysRings_145 : decode cX12_laysRings 145 = .ok (.putfield 212, 3) := by decide +kernel
theorem dX12_laysRings_148 : decode cX12_laysRings 148 = .ok (.iload_n 3, 1) := by decide +kernel
theorem dX12_laysRings_149 : decode cX12_laysRings 149 = .ok (.iconst 1, 1) := by decide +kernel
theorem dX12_laysRings_150 : decode cX12_laysRings 150 = .ok (.if_icmp .le 16, 3) := by decide +kernel
theorem dX12_laysRings_153 : decode cX12_laysRings 153 = .ok (.aload_n 0, 1) := by decide +kernel
theorem dX12_laysRings_154 : decode cX12_laysRings 154 = .ok (.getfield 105, 3) := by decide +kernel
theorem dX12_laysRings_157 : decode cX12_laysRings 157 = .ok (.iconst 1, 1) := by decide +kernel
theorem dX12_laysRings_158 : decode cX12_laysRings 158 = .ok (.iload_n 1, 1) := by decide +kernel
theorem dX12_laysRings_159 : decode cX12_laysRings 159 = .ok (.ishl, 1) := by decide +kernel
theorem dX12_laysRings_160 : decode cX12_laysRings 160 = .ok (.iconst 1, 1) := by decide +kernel
theorem dX12_laysRings_161 : decode cX12_laysRings 161 = .ok (.iload_n 2, 1) := by decide +kernel
theorem dX12_laysRings_162 : decode cX12_laysRings 162 = .ok (.ishl, 1) := by decide +kernel
theorem dX12_laysRings_163 : decode cX12_laysRings 163 = .ok (.ior, 1) := by decide +kernel
theorem dX12_laysRings_164 : decode cX12_laysRings 164 = .ok (.iconst 1, 1) := by decide +kernel
theorem dX12_laysRings_165 : decode cX12_laysRings 165 = .ok (.bastore, 1) := by decide +kernel
theorem dX12_laysRings_166 : decode cX12_laysRings 166 = .ok (.iinc 2 1, 3) := by decide +kernel
theorem dX12_laysRings_169 : decode cX12_laysRings 169 = .ok (.goto (-54), 3) := by decide +kernel
theorem dX12_laysRings_172 : decode cX12_laysRings 172 = .ok (.iinc 1 1, 3) := by decide +kernel
theorem dX12_laysRings_175 : decode cX12_laysRings 175 = .ok (.goto (-110), 3) := by decide +kernel
theorem dX12_laysRings_178 : decode cX12_laysRings 178 = .ok (.return_, 1) := by decide +kernel
theorem dX12_rings_0 : decode cX12_rings 0 = .ok (.aload_n 0, 1) := by decide +kernel
theorem dX12_rings_1 : decode cX12_rings 1 = .ok (.iconst 0, 1) := by decide +kernel
theorem dX12_rings_2 : decode cX12_rings 2 = .ok (.putfield 1, 3) := by decide +kernel
theorem dX12_rings_5 : decode cX12_rings 5 = .ok (.aload_n 0, 1) := by decide +kernel
theorem dX12_rings_6 : decode cX12_rings 6 = .ok (.invokevirtual 221, 3) := by decide +kernel
theorem dX12_rings_9 : decode cX12_rings 9 = .ok (.aload_n 0, 1) := by decide +kernel
theorem dX12_rings_10 : decode cX12_rings 10 = .ok (.getfield 212, 3) := by decide +kernel
theorem dX12_rings_13 : decode cX12_rings 13 = .ok (.lreturn, 1) := by decide +kernel
theorem dX12_shortest_0 : decode cX12_shortest 0 = .ok (.aload_n 0, 1) := by decide +kernel
theorem dX12_shortest_1 : decode cX12_shortest 1 = .ok (.iconst 0, 1) := by decide +kernel
theorem dX12_shortest_2 : decode cX12_shortest 2 = .ok (.putfield 1, 3) := by decide +kernel
theorem dX12_shortest_5 : decode cX12_shortest 5 = .ok (.aload_n 0, 1) := by decide +kernel
theorem dX12_shortest_6 : decode cX12_shortest 6 = .ok (.invokevirtual 221, 3) := by decide +kernel
theorem dX12_shortest_9 : decode cX12_shortest 9 = .ok (.iconst 0, 1) := by decide +kernel
theorem dX12_shortest_10 : decode cX12_shortest 10 = .ok (.istore_n 1, 1) := by decide +kernel
theorem dX12_shortest_11 : decode cX12_shortest 11 = .ok (.iconst 1, 1) := by decide +kernel
theorem dX12_shortest_12 : decode cX12_shortest 12 = .ok (.istore_n 2, 1) := by decide +kernel
theorem dX12_shortest_13 : decode cX12_shortest 13 = .ok (.iload_n 2, 1) := by decide +kernel
theorem dX12_shortest_14 : decode cX12_shortest 14 = .ok (.sipush 4096, 3) := by decide +kernel
theorem dX12_shortest_17 : decode cX12_shortest 17 = .ok (.if_icmp .ge 35, 3) := by decide +kernel
theorem dX12_shortest_20 : decode cX12_shortest 20 = .ok (.aload_n 0, 1) := by decide +kernel
theorem dX12_shortest_21 : decode cX12_shortest 21 = .ok (.getfield 105, 3) := by decide +kernel
theorem dX12_shortest_24 : decode cX12_shortest 24 = .ok (.iload_n 2, 1) := by decide +kernel
theorem dX12_shortest_25 : decode cX12_shortest 25 = .ok (.baload, 1) := by decide +kernel
theorem dX12_shortest_26 : decode cX12_shortest 26 = .ok (.ifCond .eq 20, 3) := by decide +kernel
theorem dX12_shortest_29 : decode cX12_shortest 29 = .ok (.iload_n 1, 1) := by decide +kernel
theorem dX12_shortest_30 : decode cX12_shortest 30 = .ok (.ifCond .eq 14, 3) := by decide +kernel
theorem dX12_shortest_33 : decode cX12_shortest 33 = .ok (.iload_n 2, 1) := by decide +kernel
theorem dX12_shortest_34 : decode cX12_shortest 34 = .ok (.invokestatic 193, 3) := by decide +kernel
theorem dX12_shortest_37 : decode cX12_shortest 37 = .ok (.iload_n 1, 1) := by decide +kernel
theorem dX12_shortest_38 : decode cX12_shortest 38 = .ok (.invokestatic 193, 3) := by decide +kernel
theorem dX12_shortest_41 : decode cX12_shortest 41 = .ok (.if_icmp .ge 5, 3) := by decide +kernel
theorem dX12_shortest_44 : decode cX12_shortest 44 = .ok (.iload_n 2, 1) := by decide +kernel
theorem dX12_shortest_45 : decode cX12_shortest 45 = .ok (.istore_n 1, 1) := by decide +kernel
theorem dX12_shortest_46 : decode cX12_shortest 46 = .ok (.iinc 2 1, 3) := by decide +kernel
theorem dX12_shortest_49 : decode cX12_shortest 49 = .ok (.goto (-36), 3) := by decide +kernel
theorem dX12_shortest_52 : decode cX12_shortest 52 = .ok (.iload_n 1, 1) := by decide +kernel
theorem dX12_shortest_53 : decode cX12_shortest 53 = .ok (.ireturn, 1) := by decide +kernel
theorem dX12_laysApart_0 : decode cX12_laysApart 0 = .ok (.aload_n 0, 1) := by decide +kernel
theorem dX12_laysApart_1 : decode cX12_laysApart 1 = .ok (.invokevirtual 221, 3) := by decide +kernel
theorem dX12_laysApart_4 : decode cX12_laysApart 4 = .ok (.iconst 1, 1) := by decide +kernel
theorem dX12_laysApart_5 : decode cX12_laysApart 5 = .ok (.istore_n 1, 1) := by decide +kernel
theorem dX12_laysApart_6 : decode cX12_laysApart 6 = .ok (.iload_n 1, 1) := by decide +kernel
theorem dX12_laysApart_7 : decode cX12_laysApart 7 = .ok (.sipush 4096, 3) := by decide +kernel
theorem dX12_laysApart_10 : decode cX12_laysApart 10 = .ok (.if_icmp .ge 109, 3) := by decide +kernel
theorem dX12_laysApart_13 : decode cX12_laysApart 13 = .ok (.iconst 1, 1) := by decide +kernel
theorem dX12_laysApart_14 : decode cX12_laysApart 14 = .ok (.iload_n 1, 1) := by decide +kernel
theorem dX12_laysApart_15 : decode cX12_laysApart 15 = .ok (.invokestatic 174, 3) := by decide +kernel
theorem dX12_laysApart_18 : decode cX12_laysApart 18 = .ok (.ishl, 1) := by decide +kernel
theorem dX12_laysApart_19 : decode cX12_laysApart 19 = .ok (.istore_n 2, 1) := by decide +kernel
theorem dX12_laysApart_20 : decode cX12_laysApart 20 = .ok (.iload_n 1, 1) := by decide +kernel
theorem dX12_laysApart_21 : decode cX12_laysApart 21 = .ok (.iload_n 2, 1) := by decide +kernel
theorem dX12_laysApart_22 : decode cX12_laysApart 22 = .ok (.iconst (-1), 1) := by decide +kernel
theorem dX12_laysApart_23 : decode cX12_laysApart 23 = .ok (.ixor, 1) := by decide +kernel
theorem dX12_laysApart_24 : decode cX12_laysApart 24 = .ok (.iand, 1) := by decide +kernel
theorem dX12_laysApart_25 : decode cX12_laysApart 25 = .ok (.istore_n 3, 1) := by decide +kernel
theorem dX12_laysApart_26 : decode cX12_laysApart 26 = .ok (.aload_n 0, 1) := by decide +kernel
theorem dX12_laysApart_27 : decode cX12_laysApart 27 = .ok (.getfield 108, 3) := by decide +kernel
theorem dX12_laysApart_30 : decode cX12_laysApart 30 = .ok (.iload_n 1, 1) := by decide +kernel
theorem dX12_laysApart_31 : decode cX12_laysApart 31 = .ok (.aload_n 0, 1) := by decide +kernel
theorem dX12_laysApart_32 : decode cX12_laysApart 32 = .ok (.getfield 108, 3) := by decide +kernel
theorem dX12_laysApart_35 : decode cX12_laysApart 35 = .ok (.iload_n 3, 1) := by decide +kernel
theorem dX12_laysApart_36 : decode cX12_laysApart 36 = .ok (.iaload, 1) := by decide +kernel
theorem dX12_laysApart_37 : decode cX12_laysApart 37 = .ok (.iastore, 1) := by decide +kernel
theorem dX12_laysApart_38 : decode cX12_laysApart 38 = .ok (.iload_n 3, 1) := by decide +kernel
theorem dX12_laysApart_39 : decode cX12_laysApart 39 = .ok (.istore 4, 2) := by decide +kernel
theorem dX12_laysApart_41 : decode cX12_laysApart 41 = .ok (.aload_n 0, 1) := by decide +kernel
theorem dX12_laysApart_42 : decode cX12_laysApart 42 = .ok (.getfield 105, 3) := by decide +kernel
theorem dX12_laysApart_45 : decode cX12_laysApart 45 = .ok (.iload 4, 2) := by decide +kernel
theorem dX12_laysApart_47 : decode cX12_laysApart 47 = .ok (.iload_n 2, 1) := by decide +kernel
theorem dX12_laysApart_48 : decode cX12_laysApart 48 = .ok (.ior, 1) := by decide +kernel
theorem dX12_laysApart_49 : decode cX12_laysApart 49 = .ok (.baload, 1) := by decide +kernel
theorem dX12_laysApart_50 : decode cX12_laysApart 50 = .ok (.ifCond .eq 44, 3) := by decide +kernel
theorem dX12_laysApart_53 : decode cX12_laysApart 53 = .ok (.aload_n 0, 1) := by decide +kernel
theorem dX12_laysApart_54 : decode cX12_laysApart 54 = .ok (.getfield 108, 3) := by decide +kernel
theorem dX12_laysApart_57 : decode cX12_laysApart 57 = .ok (.iload_n 3, 1) := by decide +kernel
theorem dX12_laysApart_58 : decode cX12_laysApart 58 = .ok (.iload 4, 2) := by decide +kernel
theorem dX12_laysApart_60 : decode cX12_laysApart 60 = .ok (.iconst (-1), 1) := by decide +kernel
theorem dX12_laysApart_61 : decode cX12_laysApart 61 = .ok (.ixor, 1) := by decide +kernel
theorem dX12_laysApart_62 : decode cX12_laysApart 62 = .ok (.iand, 1) := by decide +kernel
theorem dX12_laysApart_63 : decode cX12_laysApart 63 = .ok (.iaload, 1) := by decide +kernel
theorem dX12_laysApart_64 : decode cX12_laysApart 64 = .ok (.iconst 1, 1) := by decide +kernel
theorem dX12_laysApart_65 : decode cX12_laysApart 65 = .ok (.iadd, 1) := by decide +kernel
theorem dX12_laysApart_66 : decode cX12_laysApart 66 = .ok (.aload_n 0, 1) := by decide +kernel
theorem dX12_laysApart_67 : decode cX12_laysApart 67 = .ok (.getfield 108, 3) := by decide +kernel
theorem dX12_laysApart_70 : decode cX12_laysApart 70 = .ok (.iload_n 1, 1) := by decide +kernel
theorem dX12_laysApart_71 : decode cX12_laysApart 71 = .ok (.iaload, 1) := by decide +kernel
theorem dX12_laysApart_72 : decode cX12_laysApart 72 = .ok (.if_icmp .le 22, 3) := by decide +kernel
theorem dX12_laysApart_75 : decode cX12_laysApart 75 = .ok (.aload_n 0, 1) := by decide +kernel
theorem dX12_laysApart_76 : decode cX12_laysApart 76 = .ok (.getfield 108, 3) := by decide +kernel
theorem dX12_laysApart_79 : decode cX12_laysApart 79 = .ok (.iload_n 1, 1) := by decide +kernel
theorem dX12_laysApart_80 : decode cX12_laysApart 80 = .ok (.aload_n 0, 1) := by decide +kernel
theorem dX12_laysApart_81 : decode cX12_laysApart 81 = .ok (.getfield 108, 3) := by decide +kernel
theorem dX12_laysApart_84 : decode cX12_laysApart 84 = .ok (.iload_n 3, 1) := by decide +kernel
theorem dX12_laysApart_85 : decode cX12_laysApart 85 = .ok (.iload 4, 2) := by decide +kernel
theorem dX12_laysApart_87 : decode cX12_laysApart 87 = .ok (.iconst (-1), 1) := by decide +kernel
theorem dX12_laysApart_88 : decode cX12_laysApart 88 = .ok (.ixor, 1) := by decide +kernel
theorem dX12_laysApart_89 : decode cX12_laysApart 89 = .ok (.iand, 1) := by decide +kernel
theorem dX12_laysApart_90 : decode cX12_laysApart 90 = .ok (.iaload, 1) := by decide +kernel
theorem dX12_laysApart_91 : decode cX12_laysApart 91 = .ok (.iconst 1, 1) := by decide +kernel
theorem dX12_laysApart_92 : decode cX12_laysApart 92 = .ok (.iadd, 1) := by decide +kernel
theorem dX12_laysApart_93 : decode cX12_laysApart 93 = .ok (.iastore, 1) := by decide +kernel
theorem dX12_laysApart_94 : decode cX12_laysApart 94 = .ok (.iload 4, 2) := by decide +kernel
theorem dX12_laysApart_96 : decode cX12_laysApart 96 = .ok (.ifCond .ne 6, 3) := by decide +kernel
theorem dX12_laysApart_99 : decode cX12_laysApart 99 = .ok (.goto 14, 3) := by decide +kernel
theorem dX12_laysApart_102 : decode cX12_laysApart 102 = .ok (.iload 4, 2) := by decide +kernel
theorem dX12_laysApart_104 : decode cX12_laysApart 104 = .ok (.iconst 1, 1) := by decide +kernel
theorem dX12_laysApart_105 : decode cX12_laysApart 105 = .ok (.isub, 1) := by decide +kernel
theorem dX12_laysApart_106 : decode cX12_laysApart 106 = .ok (.iload_n 3, 1) := by decide +kernel
theorem dX12_laysApart_107 : decode cX12_laysApart 107 = .ok (.iand, 1) := by decide +kernel
theorem dX12_laysApart_108 : decode cX12_laysApart 108 = .ok (.istore 4, 2) := by decide +kernel
theorem dX12_laysApart_110 : decode cX12_laysApart 110 = .ok (.goto (-69), 3) := by decide +kernel
theorem dX12_laysApart_113 : decode cX12_laysApart 113 = .ok (.iinc 1 1, 3) := by decide +kernel
theorem dX12_laysApart_116 : decode cX12_laysApart 116 = .ok (.goto (-110), 3) := by decide +kernel
theorem dX12_laysApart_119 : decode cX12_laysApart 119 = .ok (.return_, 1) := by decide +kernel
theorem dX12_packed_0 : decode cX12_packed 0 = .ok (.aload_n 0, 1) := by decide +kernel
theorem dX12_packed_1 : decode cX12_packed 1 = .ok (.iconst 0, 1) := by decide +kernel
theorem dX12_packed_2 : decode cX12_packed 2 = .ok (.putfield 1, 3) := by decide +kernel
theorem dX12_packed_5 : decode cX12_packed 5 = .ok (.aload_n 0, 1) := by decide +kernel
theorem dX12_packed_6 : decode cX12_packed 6 = .ok (.invokevirtual 224, 3) := by decide +kernel
theorem dX12_packed_9 : decode cX12_packed 9 = .ok (.aload_n 0, 1) := by decide +kernel
theorem dX12_packed_10 : decode cX12_packed 10 = .ok (.getfield 108, 3) := by decide +kernel
theorem dX12_packed_13 : decode cX12_packed 13 = .ok (.aload_n 0, 1) := by decide +kernel
theorem dX12_packed_14 : decode cX12_packed 14 = .ok (.invokevirtual 171, 3) := by decide +kernel
theorem dX12_packed_17 : decode cX12_packed 17 = .ok (.iaload, 1) := by decide +kernel
theorem dX12_packed_18 : decode cX12_packed 18 = .ok (.ireturn, 1) := by decide +kernel
theorem dX12_pack_0 : decode cX12_pack 0 = .ok (.aload_n 0, 1) := by decide +kernel
theorem dX12_pack_1 : decode cX12_pack 1 = .ok (.iconst 0, 1) := by decide +kernel
theorem dX12_pack_2 : decode cX12_pack 2 = .ok (.putfield 1, 3) := by decide +kernel
theorem dX12_pack_5 : decode cX12_pack 5 = .ok (.aload_n 0, 1) := by decide +kernel
theorem dX12_pack_6 : decode cX12_pack 6 = .ok (.invokevirtual 224, 3) := by decide +kernel
theorem dX12_pack_9 : decode cX12_pack 9 = .ok (.iload_n 1, 1) := by decide +kernel
theorem dX12_pack_10 : decode cX12_pack 10 = .ok (.iconst 0, 1) := by decide +kernel
theorem dX12_pack_11 : decode cX12_pack 11 = .ok (.aload_n 0, 1) := by decide +kernel
theorem dX12_pack_12 : decode cX12_pack 12 = .ok (.getfield 108, 3) := by decide +kernel
theorem dX12_pack_15 : decode cX12_pack 15 = .ok (.aload_n 0, 1) := by decide +kernel
theorem dX12_pack_16 : decode cX12_pack 16 = .ok (.invokevirtual 171, 3) := by decide +kernel
theorem dX12_pack_19 : decode cX12_pack 19 = .ok (.iaload, 1) := by decide +kernel
theorem dX12_pack_20 : decode cX12_pack 20 = .ok (.iconst 1, 1) := by decide +kernel
theorem dX12_pack_21 : decode cX12_pack 21 = .ok (.isub, 1) := by decide +kernel
theorem dX12_pack_22 : decode cX12_pack 22 = .ok (.invokestatic 140, 3) := by decide +kernel
theorem dX12_pack_25 : decode cX12_pack 25 = .ok (.ifCond .ne 5, 3) := by decide +kernel
theorem dX12_pack_28 : decode cX12_pack 28 = .ok (.iconst (-1), 1) := by decide +kernel
theorem dX12_pack_29 : decode cX12_pack 29 = .ok (.ireturn, 1) := by decide +kernel
theorem dX12_pack_30 : decode cX12_pack 30 = .ok (.aload_n 0, 1) := by decide +kernel
theorem dX12_pack_31 : decode cX12_pack 31 = .ok (.invokevirtual 171, 3) := by decide +kernel
theorem dX12_pack_34 : decode cX12_pack 34 = .ok (.istore_n 2, 1) := by decide +kernel
theorem dX12_pack_35 : decode cX12_pack 35 = .ok (.iconst 0, 1) := by decide +kernel
theorem dX12_pack_36 : decode cX12_pack 36 = .ok (.istore_n 3, 1) := by decide +kernel
theorem dX12_pack_37 : decode cX12_pack 37 = .ok (.iconst 0, 1) := by decide +kernel
theorem dX12_pack_38 : decode cX12_pack 38 = .ok (.istore 4, 2) := by decide +kernel
theorem dX12_pack_40 : decode cX12_pack 40 = .ok (.iload 4, 2) := by decide +kernel
theorem dX12_pack_42 : decode cX12_pack 42 = .ok (.iload_n 1, 1) := by decide +kernel
theorem dX12_pack_43 : decode cX12_pack 43 = .ok (.if_icmp .gt 61, 3) := by decide +kernel
theorem dX12_pack_46 : decode cX12_pack 46 = .ok (.iconst 1, 1) := by decide +kernel
theorem dX12_pack_47 : decode cX12_pack 47 = .ok (.istore_n 3, 1) := by decide +kernel
theorem dX12_pack_48 : decode cX12_pack 48 = .ok (.aload_n 0, 1) := by decide +kernel
theorem dX12_pack_49 : decode cX12_pack 49 = .ok (.getfield 105, 3) := by decide +kernel
theorem dX12_pack_52 : decode cX12_pack 52 = .ok (.iload_n 3, 1) := by decide +kernel
theorem dX12_pack_53 : decode cX12_pack 53 = .ok (.baload, 1) := by decide +kernel
theorem dX12_pack_54 : decode cX12_pack 54 = .ok (.ifCond .eq 32, 3) := by decide +kernel
theorem dX12_pack_57 : decode cX12_pack 57 = .ok (.iload_n 3, 1) := by decide +kernel
theorem dX12_pack_58 : decode cX12_pack 58 = .ok (.iload_n 2, 1) := by decide +kernel
theorem dX12_pack_59 : decode cX12_pack 59 = .ok (.iconst (-1), 1) := by decide +kernel
theorem dX12_pack_60 : decode cX12_pack 60 = .ok (.ixor, 1) := by decide +kernel
theorem dX12_pack_61 : decode cX12_pack 61 = .ok (.iand, 1) := by decide +kernel
theorem dX12_pack_62 : decode cX12_pack 62 = .ok (.ifCond .ne 24, 3) := by decide +kernel
theorem dX12_pack_65 : decode cX12_pack 65 = .ok (.aload_n 0, 1) := by decide +kernel
theorem dX12_pack_66 : decode cX12_pack 66 = .ok (.getfield 108, 3) := by decide +kernel
theorem dX12_pack_69 : decode cX12_pack 69 = .ok (.iload_n 2, 1) := by decide +kernel
theorem dX12_pack_70 : decode cX12_pack 70 = .ok (.iload_n 3, 1) := by decide +kernel
theorem dX12_pack_71 : decode cX12_pack 71 = .ok (.iconst (-1), 1) := by decide +kernel
theorem dX12_pack_72 : decode cX12_pack 72 = .ok (.ixor, 1) := by decide +kernel
theorem dX12_pack_73 : decode cX12_pack 73 = .ok (.iand, 1) := by decide +kernel
theorem dX12_pack_74 : decode cX12_pack 74 = .ok (.iaload, 1) := by decide +kernel
theorem dX12_pack_75 : decode cX12_pack 75 = .ok (.aload_n 0, 1) := by decide +kernel
theorem dX12_pack_76 : decode cX12_pack 76 = .ok (.getfield 108, 3) := by decide +kernel
theorem dX12_pack_79 : decode cX12_pack 79 = .ok (.iload_n 2, 1) := by decide +kernel
theorem dX12_pack_80 : decode cX12_pack 80 = .ok (.iaload, 1) := by decide +kernel
theorem dX12_pack_81 : decode cX12_pack 81 = .ok (.iconst 1, 1) := by decide +kernel
theorem dX12_pack_82 : decode cX12_pack 82 = .ok (.isub, 1) := by decide +kernel
theorem dX12_pack_83 : decode cX12_pack 83 = .ok (.if_icmp .eq 9, 3) := by decide +kernel
theorem dX12_pack_86 : decode cX12_pack 86 = .ok (.iinc 3 1, 3) := by decide +kernel
theorem dX12_pack_89 : decode cX12_pack 89 = .ok (.goto (-41), 3) := by decide +kernel
theorem dX12_pack_92 : decode cX12_pack 92 = .ok (.iload_n 2, 1) := by decide +kernel
theorem dX12_pack_93 : decode cX12_pack 93 = .ok (.iload_n 3, 1) := by decide +kernel
theorem dX12_pack_94 : decode cX12_pack 94 = .ok (.iconst (-1), 1) := by decide +kernel
theorem dX12_pack_95 : decode cX12_pack 95 = .ok (.ixor, 1) := by decide +kernel
theorem dX12_pack_96 : decode cX12_pack 96 = .ok (.iand, 1) := by decide +kernel
theorem dX12_pack_97 : decode cX12_pack 97 = .ok (.istore_n 2, 1) := by decide +kernel
theorem dX12_pack_98 : decode cX12_pack 98 = .ok (.iinc 4 1, 3) := by decide +kernel
theorem dX12_pack_101 : decode cX12_pack 101 = .ok (.goto (-61), 3) := by decide +kernel
theorem dX12_pack_104 : decode cX12_pack 104 = .ok (.iload_n 3, 1) := by decide +kernel
theorem dX12_pack_105 : decode cX12_pack 105 = .ok (.ireturn, 1) := by decide +kernel
theorem dX12_divisor_0 : decode cX12_divisor 0 = .ok (.lload_n 2, 1) := by decide +kernel
theorem dX12_divisor_1 : decode cX12_divisor 1 = .ok (.lconst 0, 1) := by decide +kernel
theorem dX12_divisor_2 : decode cX12_divisor 2 = .ok (.lcmp, 1) := by decide +kernel
theorem dX12_divisor_3 : decode cX12_divisor 3 = .ok (.ifCond .ne 18, 3) := by decide +kernel
theorem dX12_divisor_6 : decode cX12_divisor 6 = .ok (.lload_n 0, 1) := by decide +kernel
theorem dX12_divisor_7 : decode cX12_divisor 7 = .ok (.lconst 0, 1) := by decide +kernel
theorem dX12_divisor_8 : decode cX12_divisor 8 = .ok (.lcmp, 1) := by decide +kernel
theorem dX12_divisor_9 : decode cX12_divisor 9 = .ok (.ifCond .ge 8, 3) := by decide +kernel
theorem dX12_divisor_12 : decode cX12_divisor 12 = .ok (.lload_n 0, 1) := by decide +kernel
theorem dX12_divisor_13 : decode cX12_divisor 13 = .ok (.lneg, 1) := by decide +kernel
theorem dX12_divisor_14 : decode cX12_divisor 14 = .ok (.goto 14, 3) := by decide +kernel
theorem dX12_divisor_17 : decode cX12_divisor 17 = .ok (.lload_n 0, 1) := by decide +kernel
theorem dX12_divisor_18 : decode cX12_divisor 18 = .ok (.goto 10, 3) := by decide +kernel
theorem dX12_divisor_21 : decode cX12_divisor 21 = .ok (.lload_n 2, 1) := by decide +kernel
theorem dX12_divisor_22 : decode cX12_divisor 22 = .ok (.lload_n 0, 1) := by decide +kernel
theorem dX12_divisor_23 : decode cX12_divisor 23 = .ok (.lload_n 2, 1) := by decide +kernel
theorem dX12_divisor_24 : decode cX12_divisor 24 = .ok (.lrem, 1) := by decide +kernel
theorem dX12_divisor_25 : decode cX12_divisor 25 = .ok (.invokestatic 227, 3) := by decide +kernel
theorem dX12_divisor_28 : decode cX12_divisor 28 = .ok (.lreturn, 1) := by decide +kernel
theorem dX12_takes_0 : decode cX12_takes 0 = .ok (.aload_n 0, 1) := by decide +kernel
theorem dX12_takes_1 : decode cX12_takes 1 = .ok (.getfield 111, 3) := by decide +kernel
theorem dX12_takes_4 : decode cX12_takes 4 = .ok (.iload_n 1, 1) := by decide +kernel
theorem dX12_takes_5 : decode cX12_takes 5 = .ok (.laload, 1) := by decide +kernel
theorem dX12_takes_6 : decode cX12_takes 6 = .ok (.lload 4, 2) := by decide +kernel
theorem dX12_takes_8 : decode cX12_takes 8 = .ok (.lmul, 1) := by decide +kernel
theorem dX12_takes_9 : decode cX12_takes 9 = .ok (.lload_n 2, 1) := by decide +kernel
theorem dX12_takes_10 : decode cX12_takes 10 = .ok (.iload 6, 2) := by decide +kernel
theorem dX12_takes_12 : decode cX12_takes 12 = .ok (.i2l, 1) := by decide +kernel
theorem dX12_takes_13 : decode cX12_takes 13 = .ok (.lmul, 1) := by decide +kernel
theorem dX12_takes_14 : decode cX12_takes 14 = .ok (.aload_n 0, 1) := by decide +kernel
theorem dX12_takes_15 : decode cX12_takes 15 = .ok (.getfield 114, 3) := by decide +kernel
theorem dX12_takes_18 : decode cX12_takes 18 = .ok (.iload_n 1, 1) := by decide +kernel
theorem dX12_takes_19 : decode cX12_takes 19 = .ok (.laload, 1) := by decide +kernel
theorem dX12_takes_20 : decode cX12_takes 20 = .ok (.lmul, 1) := by decide +kernel
theorem dX12_takes_21 : decode cX12_takes 21 = .ok (.lsub, 1) := by decide +kernel
theorem dX12_takes_22 : decode cX12_takes 22 = .ok (.lstore 7, 2) := by decide +kernel
theorem dX12_takes_24 : decode cX12_takes 24 = .ok (.aload_n 0, 1) := by decide +kernel
theorem dX12_takes_25 : decode cX12_takes 25 = .ok (.getfield 114, 3) := by decide +kernel
theorem dX12_takes_28 : decode cX12_takes 28 = .ok (.iload_n 1, 1) := by decide +kernel
theorem dX12_takes_29 : decode cX12_takes 29 = .ok (.laload, 1) := by decide +kernel
theorem dX12_takes_30 : decode cX12_takes 30 = .ok (.lload 4, 2) := by decide +kernel
theorem dX12_takes_32 : decode cX12_takes 32 = .ok (.lmul, 1) := by decide +kernel
theorem dX12_takes_33 : decode cX12_takes 33 = .ok (.lstore 9, 2) := by decide +kernel
theorem dX12_takes_35 : decode cX12_takes 35 = .ok (.lload 7, 2) := by decide +kernel
theorem dX12_takes_37 : decode cX12_takes 37 = .ok (.lload 9, 2) := by decide +kernel
theorem dX12_takes_39 : decode cX12_takes 39 = .ok (.invokestatic 227, 3) := by decide +kernel
theorem dX12_takes_42 : decode cX12_takes 42 = .ok (.lstore 11, 2) := by decide +kernel
theorem dX12_takes_44 : decode cX12_takes 44 = .ok (.aload_n 0, 1) := by decide +kernel
theorem dX12_takes_45 : decode cX12_takes 45 = .ok (.getfield 111, 3) := by decide +kernel
theorem dX12_takes_48 : decode cX12_takes 48 = .ok (.iload_n 1, 1) := by decide +kernel
theorem dX12_takes_49 : decode cX12_takes 49 = .ok (.lload 7, 2) := by decide +kernel
theorem dX12_takes_51 : decode cX12_takes 51 = .ok (.lload 11, 2) := by decide +kernel
theorem dX12_takes_53 : decode cX12_takes 53 = .ok (.ldiv, 1) := by decide +kernel
theorem dX12_takes_54 : decode cX12_takes 54 = .ok (.lastore, 1) := by decide +kernel
theorem dX12_takes_55 : decode cX12_takes 55 = .ok (.aload_n 0, 1) := by decide +kernel
theorem dX12_takes_56 : decode cX12_takes 56 = .ok (.getfield 114, 3) := by decide +kernel
theorem dX12_takes_59 : decode cX12_takes 59 = .ok (.iload_n 1, 1) := by decide +kernel
theorem dX12_takes_60 : decode cX12_takes 60 = .ok (.lload 9, 2) := by decide +kernel
theorem dX12_takes_62 : decode cX12_takes 62 = .ok (.lload 11, 2) := by decide +kernel
theorem dX12_takes_64 : decode cX12_takes 64 = .ok (.ldiv, 1) := by decide +kernel
theorem dX12_takes_65 : decode cX12_takes 65 = .ok (.lastore, 1) := by decide +kernel
theorem dX12_takes_66 : decode cX12_takes 66 = .ok (.return_, 1) := by decide +kernel
theorem dX12_bounds_0 : decode cX12_bounds 0 = .ok (.aload_n 0, 1) := by decide +kernel
theorem dX12_bounds_1 : decode cX12_bounds 1 = .ok (.getfield 231, 3) := by decide +kernel
theorem dX12_bounds_4 : decode cX12_bounds 4 = .ok (.lload_n 3, 1) := by decide +kernel
theorem dX12_bounds_5 : decode cX12_bounds 5 = .ok (.lmul, 1) := by decide +kernel
theorem dX12_bounds_6 : decode cX12_bounds 6 = .ok (.lload_n 1, 1) := by decide +kernel
theorem dX12_bounds_7 : decode cX12_bounds 7 = .ok (.iload 5, 2) := by decide +kernel
theorem dX12_bounds_9 : decode cX12_bounds 9 = .ok (.i2l, 1) := by decide +kernel
theorem dX12_bounds_10 : decode cX12_bounds 10 = .ok (.lmul, 1) := by decide +kernel
theorem dX12_bounds_11 : decode cX12_bounds 11 = .ok (.aload_n 0, 1) := by decide +kernel
theorem dX12_bounds_12 : decode cX12_bounds 12 = .ok (.getfield 234, 3) := by decide +kernel
theorem dX12_bounds_15 : decode cX12_bounds 15 = .ok (.lmul, 1) := by decide +kernel
theorem dX12_bounds_16 : decode cX12_bounds 16 = .ok (.ladd, 1) := by decide +kernel
theorem dX12_bounds_17 : decode cX12_bounds 17 = .ok (.lstore 6, 2) := by decide +kernel
theorem dX12_bounds_19 : decode cX12_bounds 19 = .ok (.aload_n 0, 1) := by decide +kernel
theorem dX12_bounds_20 : decode cX12_bounds 20 = .ok (.getfield 234, 3) := by decide +kernel
theorem dX12_bounds_23 : decode cX12_bounds 23 = .ok (.lload_n 3, 1) := by decide +kernel
theorem dX12_bounds_24 : decode cX12_bounds 24 = .ok (.lmul, 1) := by decide +kernel
theorem dX12_bounds_25 : decode cX12_bounds 25 = .ok (.lstore 8, 2) := by decide +kernel
theorem dX12_bounds_27 : decode cX12_bounds 27 = .ok (.lload 6, 2) := by decide +kernel
theorem dX12_bounds_29 : decode cX12_bounds 29 = .ok (.lload 8, 2) := by decide +kernel
theorem dX12_bounds_31 : decode cX12_bounds 31 = .ok (.invokestatic 227, 3) := by decide +kernel
theorem dX12_bounds_34 : decode cX12_bounds 34 = .ok (.lstore 10, 2) := by decide +kernel
theorem dX12_bounds_36 : decode cX12_bounds 36 = .ok (.aload_n 0, 1) := by decide +kernel
theorem dX12_bounds_37 : decode cX12_bounds 37 = .ok (.lload 6, 2) := by decide +kernel
theorem dX12_bounds_39 : decode cX12_bounds 39 = .ok (.lload 10, 2) := by decide +kernel
theorem dX12_bounds_41 : decode cX12_bounds 41 = .ok (.ldiv, 1) := by decide +kernel
theorem dX12_bounds_42 : decode cX12_bounds 42 = .ok (.putfield 231, 3) := by decide +kernel
theorem dX12_bounds_45 : decode cX12_bounds 45 = .ok (.aload_n 0, 1) := by decide +kernel
theorem dX12_bounds_46 : decode cX12_bounds 46 = .ok (.lload 8, 2) := by decide +kernel
theorem dX12_bounds_48 : decode cX12_bounds 48 = .ok (.lload 10, 2) := by decide +kernel
theorem dX12_bounds_50 : decode cX12_bounds 50 = .ok (.ldiv, 1) := by decide +kernel
theorem dX12_bounds_51 : decode cX12_bounds 51 = .ok (.putfield 234, 3) := by decide +kernel
theorem dX12_bounds_54 : decode cX12_bounds 54 = .ok (.return_, 1) := by decide +kernel
theorem dX12_trimmed_0 : decode cX12_trimmed 0 = .ok (.iload_n 1, 1) := by decide +kernel
theorem dX12_trimmed_1 : decode cX12_trimmed 1 = .ok (.istore_n 2, 1) := by decide +kernel
theorem dX12_trimmed_2 : decode cX12_trimmed 2 = .ok (.iconst (-1), 1) := by decide +kernel
theorem dX12_trimmed_3 : decode cX12_trimmed 3 = .ok (.istore_n 3, 1) := by decide +kernel
theorem dX12_trimmed_4 : decode cX12_trimmed 4 = .ok (.iload_n 2, 1) := by decide +kernel
theorem dX12_trimmed_5 : decode cX12_trimmed 5 = .ok (.iload_n 3, 1) := by decide +kernel
theorem dX12_trimmed_6 : decode cX12_trimmed 6 = .ok (.if_icmp .eq 56, 3) := by decide +kernel
theorem dX12_trimmed_9 : decode cX12_trimmed 9 = .ok (.iload_n 2, 1) := by decide +kernel
theorem dX12_trimmed_10 : decode cX12_trimmed 10 = .ok (.istore_n 3, 1) := by decide +kernel
theorem dX12_trimmed_11 : decode cX12_trimmed 11 = .ok (.iconst 0, 1) := by decide +kernel
theorem dX12_trimmed_12 : decode cX12_trimmed 12 = .ok (.istore 4, 2) := by decide +kernel
theorem dX12_trimmed_14 : decode cX12_trimmed 14 = .ok (.iload 4, 2) := by decide +kernel
theorem dX12_trimmed_16 : decode cX12_trimmed 16 = .ok (.bipush 12, 2) := by decide +kernel
theorem dX12_trimmed_18 : decode cX12_trimmed 18 = .ok (.if_icmp .ge 41, 3) := by decide +kernel
theorem dX12_trimmed_21 : decode cX12_trimmed 21 = .ok (.iload_n 2, 1) := by decide +kernel
theorem dX12_trimmed_22 : decode cX12_trimmed 22 = .ok (.iload 4, 2) := by decide +kernel
theorem dX12_trimmed_24 : decode cX12_trimmed 24 = .ok (.invokestatic 7, 3) := by decide +kernel
theorem dX12_trimmed_27 : decode cX12_trimmed 27 = .ok (.ifCond .eq 26, 3) := by decide +kernel
theorem dX12_trimmed_30 : decode cX12_trimmed 30 = .ok (.aload_n 0, 1) := by decide +kernel
theorem dX12_trimmed_31 : decode cX12_trimmed 31 = .ok (.getfield 79, 3) := by decide +kernel
theorem dX12_trimmed_34 : decode cX12_trimmed 34 = .ok (.iload 4, 2) := by decide +kernel
theorem dX12_trimmed_36 : decode cX12_trimmed 36 = .ok (.iload_n 2, 1) := by decide +kernel
theorem dX12_trimmed_37 : decode cX12_trimmed 37 = .ok (.invokestatic 124, 3) := by decide +kernel
theorem dX12_trimmed_40 : decode cX12_trimmed 40 = .ok (.iconst 2, 1) := by decide +kernel
theorem dX12_trimmed_41 : decode cX12_trimmed 41 = .ok (.if_icmp .ge 12, 3) := by decide +kernel
theorem dX12_trimmed_44 : decode cX12_trimmed 44 = .ok (.iload_n 2, 1) := by decide +kernel
theorem dX12_trimmed_45 : decode cX12_trimmed 45 = .ok (.iconst 1, 1) := by decide +kernel
theorem dX12_trimmed_46 : decode cX12_trimmed 46 = .ok (.iload 4, 2) := by decide +kernel
theorem dX12_trimmed_48 : decode cX12_trimmed 48 = .ok (.ishl, 1) := by decide +kernel
theorem dX12_trimmed_49 : decode cX12_trimmed 49 = .ok (.iconst (-1), 1) := by decide +kernel
theorem dX12_trimmed_50 : decode cX12_trimmed 50 = .ok (.ixor, 1) := by decide +kernel
theorem dX12_trimmed_51 : decode cX12_trimmed 51 = .ok (.iand, 1) := by decide +kernel
theorem dX12_trimmed_52 : decode cX12_trimmed 52 = .ok (.istore_n 2, 1) := by decide +kernel
theorem dX12_trimmed_53 : decode cX12_trimmed 53 = .ok (.iinc 4 1, 3) := by decide +kernel
theorem dX12_trimmed_56 : decode cX12_trimmed 56 = .ok (.goto (-42), 3) := by decide +kernel
theorem dX12_trimmed_59 : decode cX12_trimmed 59 = .ok (.goto (-55), 3) := by decide +kernel
theorem dX12_trimmed_62 : decode cX12_trimmed 62 = .ok (.iload_n 2, 1) := by decide +kernel
theorem dX12_trimmed_63 : decode cX12_trimmed 63 = .ok (.ireturn, 1) := by decide +kernel
theorem dX12_thinRing_0 : decode cX12_thinRing 0 = .ok (.iconst 1, 1) := by decide +kernel
theorem dX12_thinRing_1 : decode cX12_thinRing 1 = .ok (.istore_n 2, 1) := by decide +kernel
theorem dX12_thinRing_2 : decode cX12_thinRing 2 = .ok (.iload_n 2, 1) := by decide +kernel
theorem dX12_thinRing_3 : decode cX12_thinRing 3 = .ok (.iload_n 1, 1) := by decide +kernel
theorem dX12_thinRing_4 : decode cX12_thinRing 4 = .ok (.if_icmp .gt 80, 3) := by decide +kernel
theorem dX12_thinRing_7 : decode cX12_thinRing 7 = .ok (.aload_n 0, 1) := by decide +kernel
theorem dX12_thinRing_8 : decode cX12_thinRing 8 = .ok (.getfield 105, 3) := by decide +kernel
theorem dX12_thinRing_11 : decode cX12_thinRing 11 = .ok (.iload_n 2, 1) := by decide +kernel
theorem dX12_thinRing_12 : decode cX12_thinRing 12 = .ok (.baload, 1) := by decide +kernel
theorem dX12_thinRing_13 : decode cX12_thinRing 13 = .ok (.ifCond .eq 65, 3) := by decide +kernel
theorem dX12_thinRing_16 : decode cX12_thinRing 16 = .ok (.iload_n 2, 1) := by decide +kernel
theorem dX12_thinRing_17 : decode cX12_thinRing 17 = .ok (.iload_n 1, 1) := by decide +kernel
theorem dX12_thinRing_18 : decode cX12_thinRing 18 = .ok (.iconst (-1), 1) := by decide +kernel
theorem dX12_thinRing_19 : decode cX12_thinRing 19 = .ok (.ixor, 1) := by decide +kernel
theorem dX12_thinRing_20 : decode cX12_thinRing 20 = .ok (.iand, 1) := by decide +kernel
theorem dX12_thinRing_21 : decode cX12_thinRing 21 = .ok (.ifCond .eq 6, 3) := by decide +kernel
theorem dX12_thinRing_24 : decode cX12_thinRing 24 = .ok (.goto 54, 3) := by decide +kernel
theorem dX12_thinRing_27 : decode cX12_thinRing 27 = .ok (.iconst 0, 1) := by decide +kernel
theorem dX12_thinRing_28 : decode cX12_thinRing 28 = .ok (.istore_n 3, 1) := by decide +kernel
theorem dX12_thinRing_29 : decode cX12_thinRing 29 = .ok (.iconst 0, 1) := by decide +kernel
theorem dX12_thinRing_30 : decode cX12_thinRing 30 = .ok (.istore 4, 2) := by decide +kernel
theorem dX12_thinRing_32 : decode cX12_thinRing 32 = .ok (.iload 4, 2) := by decide +kernel
theorem dX12_thinRing_34 : decode cX12_thinRing 34 = .ok (.bipush 12, 2) := by decide +kernel
theorem dX12_thinRing_36 : decode cX12_thinRing 36 = .ok (.if_icmp .ge 35, 3) := by decide +kernel
theorem dX12_thinRing_39 : decode cX12_thinRing 39 = .ok (.iload_n 2, 1) := by decide +kernel
theorem dX12_thinRing_40 : decode cX12_thinRing 40 = .ok (.iload 4, 2) := by decide +kernel
theorem dX12_thinRing_42 : decode cX12_thinRing 42 = .ok (.invokestatic 7, 3) := by decide +kernel
theorem dX12_thinRing_45 : decode cX12_thinRing 45 = .ok (.ifCond .eq 20, 3) := by decide +kernel
theorem dX12_thinRing_48 : decode cX12_thinRing 48 = .ok (.aload_n 0, 1) := by decide +kernel
theorem dX12_thinRing_49 : decode cX12_thinRing 49 = .ok (.getfield 79, 3) := by decide +kernel
theorem dX12_thinRing_52 : decode cX12_thinRing 52 = .ok (.iload 4, 2) := by decide +kernel
theorem dX12_thinRing_54 : decode cX12_thinRing 54 = .ok (.iload_n 1, 1) := by decide +kernel
theorem dX12_thinRing_55 : decode cX12_thinRing 55 = .ok (.invokestatic 124, 3) := by decide +kernel
theorem dX12_thinRing_58 : decode cX12_thinRing 58 = .ok (.iconst 2, 1) := by decide +kernel
theorem dX12_thinRing_59 : decode cX12_thinRing 59 = .ok (.if_icmp .le 6, 3) := by decide +kernel
theorem dX12_thinRing_62 : decode cX12_thinRing 62 = .ok (.iinc 3 1, 3) := by decide +kernel
theorem dX12_thinRing_65 : decode cX12_thinRing 65 = .ok (.iinc 4 1, 3) := by decide +kernel
theorem dX12_thinRing_68 : decode cX12_thinRing 68 = .ok (.goto (-36), 3) := by decide +kernel
theorem dX12_thinRing_71 : decode cX12_thinRing 71 = .ok (.iload_n 3, 1) := by decide +kernel
theorem dX12_thinRing_72 : decode cX12_thinRing 72 = .ok (.iconst 2, 1) := by decide +kernel
theorem dX12_thinRing_73 : decode cX12_thinRing 73 = .ok (.if_icmp .ge 5, 3) := by decide +kernel
theorem dX12_thinRing_76 : decode cX12_thinRing 76 = .ok (.iload_n 2, 1) := by decide +kernel
theorem dX12_thinRing_77 : decode cX12_thinRing 77 = .ok (.ireturn, 1) := by decide +kernel
theorem dX12_thinRing_78 : decode cX12_thinRing 78 = .ok (.iinc 2 1, 3) := by decide +kernel
theorem dX12_thinRing_81 : decode cX12_thinRing 81 = .ok (.goto (-79), 3) := by decide +kernel
theorem dX12_thinRing_84 : decode cX12_thinRing 84 = .ok (.iconst 0, 1) := by decide +kernel
theorem dX12_thinRing_85 : decode cX12_thinRing 85 = .ok (.ireturn, 1) := by decide +kernel
theorem dX12_sinks_0 : decode cX12_sinks 0 = .ok (.aload_n 0, 1) := by decide +kernel
theorem dX12_sinks_1 : decode cX12_sinks 1 = .ok (.iload_n 1, 1) := by decide +kernel
theorem dX12_sinks_2 : decode cX12_sinks 2 = .ok (.invokevirtual 237, 3) := by decide +kernel
theorem dX12_sinks_5 : decode cX12_sinks 5 = .ok (.istore_n 2, 1) := by decide +kernel
theorem dX12_sinks_6 : decode cX12_sinks 6 = .ok (.iload_n 2, 1) := by decide +kernel
theorem dX12_sinks_7 : decode cX12_sinks 7 = .ok (.ifCond .eq 7, 3) := by decide +kernel
theorem dX12_sinks_10 : decode cX12_sinks 10 = .ok (.iload_n 2, 1) := by decide +kernel
theorem dX12_sinks_11 : decode cX12_sinks 11 = .ok (.goto 4, 3) := by decide +kernel
theorem dX12_sinks_14 : decode cX12_sinks 14 = .ok (.iload_n 1, 1) := by decide +kernel
theorem dX12_sinks_15 : decode cX12_sinks 15 = .ok (.istore_n 3, 1) := by decide +kernel
theorem dX12_sinks_16 : decode cX12_sinks 16 = .ok (.lconst 0, 1) := by decide +kernel
theorem dX12_sinks_17 : decode cX12_sinks 17 = .ok (.lstore 4, 2) := by decide +kernel
theorem dX12_sinks_19 : decode cX12_sinks 19 = .ok (.lconst 0, 1) := by decide +kernel
theorem dX12_sinks_20 : decode cX12_sinks 20 = .ok (.lstore 6, 2) := by decide +kernel
theorem dX12_sinks_22 : decode cX12_sinks 22 = .ok (.iconst 0, 1) := by decide +kernel
theorem dX12_sinks_23 : decode cX12_sinks 23 = .ok (.istore 8, 2) := by decide +kernel
theorem dX12_sinks_25 : decode cX12_sinks 25 = .ok (.iload 8, 2) := by decide +kernel
theorem dX12_sinks_27 : decode cX12_sinks 27 = .ok (.bipush 12, 2) := by decide +kernel
theorem dX12_sinks_29 : decode cX12_sinks 29 = .ok (.if_icmp .ge 103, 3) := by decide +kernel
theorem dX12_sinks_32 : decode cX12_sinks 32 = .ok (.iload_n 3, 1) := by decide +kernel
theorem dX12_sinks_33 : decode cX12_sinks 33 = .ok (.iload 8, 2) := by decide +kernel
theorem dX12_sinks_35 : decode cX12_sinks 35 = .ok (.invokestatic 7, 3) := by decide +kernel
theorem dX12_sinks_38 : decode cX12_sinks 38 = .ok (.ifCond .ne 6, 3) := by decide +kernel
theorem dX12_sinks_41 : decode cX12_sinks 41 = .ok (.goto 85, 3) := by decide +kernel
theorem dX12_sinks_44 : decode cX12_sinks 44 = .ok (.iload_n 2, 1) := by decide +kernel
theorem dX12_sinks_45 : decode cX12_sinks 45 = .ok (.ifCond .eq 7, 3) := by decide +kernel
theorem dX12_sinks_48 : decode cX12_sinks 48 = .ok (.iconst 1, 1) := by decide +kernel
theorem dX12_sinks_49 : decode cX12_sinks 49 = .ok (.goto 15, 3) := by decide +kernel
theorem dX12_sinks_52 : decode cX12_sinks 52 = .ok (.aload_n 0, 1) := by decide +kernel
theorem dX12_sinks_53 : decode cX12_sinks 53 = .ok (.getfield 79, 3) := by decide +kernel
theorem dX12_sinks_56 : decode cX12_sinks 56 = .ok (.iload 8, 2) := by decide +kernel
theorem dX12_sinks_58 : decode cX12_sinks 58 = .ok (.iload_n 1, 1) := by decide +kernel
theorem dX12_sinks_59 : decode cX12_sinks 59 = .ok (.invokestatic 124, 3) := by decide +kernel
theorem dX12_sinks_62 : decode cX12_sinks 62 = .ok (.iconst 1, 1) := by decide +kernel
theorem dX12_sinks_63 : decode cX12_sinks 63 = .ok (.isub, 1) := by decide +kernel
theorem dX12_sinks_64 : decode cX12_sinks 64 = .ok (.istore 9, 2) := by decide +kernel
theorem dX12_sinks_66 : decode cX12_sinks 66 = .ok (.lload 6, 2) := by decide +kernel
theorem dX12_sinks_68 : decode cX12_sinks 68 = .ok (.lconst 0, 1) := by decide +kernel
theorem dX12_sinks_69 : decode cX12_sinks 69 = .ok (.lcmp, 1) := by decide +kernel
theorem dX12_sinks_70 : decode cX12_sinks 70 = .ok (.ifCond .eq 34, 3) := by decide +kernel
theorem dX12_sinks_73 : decode cX12_sinks 73 = .ok (.aload_n 0, 1) := by decide +kernel
theorem dX12_sinks_74 : decode cX12_sinks 74 = .ok (.getfield 111, 3) := by decide +kernel
theorem dX12_sinks_77 : decode cX12_sinks 77 = .ok (.iload 8, 2) := by decide +kernel
theorem dX12_sinks_79 : decode cX12_sinks 79 = .ok (.laload, 1) := by decide +kernel
theorem dX12_sinks_80 : decode cX12_sinks 80 = .ok (.lload 6, 2) := by decide +kernel
theorem dX12_sinks_82 : decode cX12_sinks 82 = .ok (.lmul, 1) := by decide +kernel
theorem dX12_sinks_83 : decode cX12_sinks 83 = .ok (.lload 4, 2) := by decide +kernel
theorem dX12_sinks_85 : decode cX12_sinks 85 = .ok (.aload_n 0, 1) := by decide +kernel
theorem dX12_sinks_86 : decode cX12_sinks 86 = .ok (.getfield 114, 3) := by decide +kernel
theorem dX12_sinks_89 : decode cX12_sinks 89 = .ok (.iload 8, 2) := by decide +kernel
theorem dX12_sinks_91 : decode cX12_sinks 91 = .ok (.laload, 1) := by decide +kernel
theorem dX12_sinks_92 : decode cX12_sinks 92 = .ok (.lmul, 1) := by decide +kernel
theorem dX12_sinks_93 : decode cX12_sinks 93 = .ok (.iload 9, 2) := by decide +kernel
theorem dX12_sinks_95 : decode cX12_sinks 95 = .ok (.i2l, 1) := by decide +kernel
theorem dX12_sinks_96 : decode cX12_sinks 96 = .ok (.lmul, 1) := by decide +kernel
theorem dX12_sinks_97 : decode cX12_sinks 97 = .ok (.lcmp, 1) := by decide +kernel
theorem dX12_sinks_98 : decode cX12_sinks 98 = .ok (.ifCond .lt 6, 3) := by decide +kernel
theorem dX12_sinks_101 : decode cX12_sinks 101 = .ok (.goto 25, 3) := by decide +kernel
theorem dX12_sinks_104 : decode cX12_sinks 104 = .ok (.aload_n 0, 1) := by decide +kernel
theorem dX12_sinks_105 : decode cX12_sinks 105 = .ok (.getfield 111, 3) := by decide +kernel
theorem dX12_sinks_108 : decode cX12_sinks 108 = .ok (.iload 8, 2) := by decide +kernel
theorem dX12_sinks_110 : decode cX12_sinks 110 = .ok (.laload, 1) := by decide +kernel
theorem dX12_sinks_111 : decode cX12_sinks 111 = .ok (.lstore 4, 2) := by decide +kernel
theorem dX12_sinks_113 : decode cX12_sinks 113 = .ok (.aload_n 0, 1) := by decide +kernel
theorem dX12_sinks_114 : decode cX12_sinks 114 = .ok (.getfield 114, 3) := by decide +kernel
theorem dX12_sinks_117 : decode cX12_sinks 117 = .ok (.iload 8, 2) := by decide +kernel
theorem dX12_sinks_119 : decode cX12_sinks 119 = .ok (.laload, 1) := by decide +kernel
theorem dX12_sinks_120 : decode cX12_sinks 120 = .ok (.iload 9, 2) := by decide +kernel
theorem dX12_sinks_122 : decode cX12_sinks 122 = .ok (.i2l, 1) := by decide +kernel
theorem dX12_sinks_123 : decode cX12_sinks 123 = .ok (.lmul, 1) := by decide +kernel
theorem dX12_sinks_124 : decode cX12_sinks 124 = .ok (.lstore 6, 2) := by decide +kernel
theorem dX12_sinks_126 : decode cX12_sinks 126 = .ok (.iinc 8 1, 3) := by decide +kernel
theorem dX12_sinks_129 : decode cX12_sinks 129 = .ok (.goto (-104), 3) := by decide +kernel
theorem dX12_sinks_132 : decode cX12_sinks 132 = .ok (.lload 4, 2) := by decide +kernel
theorem dX12_sinks_134 : decode cX12_sinks 134 = .ok (.lload 6, 2) := by decide +kernel
theorem dX12_sinks_136 : decode cX12_sinks 136 = .ok (.invokestatic 227, 3) := by decide +kernel
theorem dX12_sinks_139 : decode cX12_sinks 139 = .ok (.lstore 8, 2) := by decide +kernel
theorem dX12_sinks_141 : decode cX12_sinks 141 = .ok (.lload 4, 2) := by decide +kernel
theorem dX12_sinks_143 : decode cX12_sinks 143 = .ok (.lload 8, 2) := by decide +kernel
theorem dX12_sinks_145 : decode cX12_sinks 145 = .ok (.ldiv, 1) := by decide +kernel
theorem dX12_sinks_146 : decode cX12_sinks 146 = .ok (.lstore 4, 2) := by decide +kernel
theorem dX12_sinks_148 : decode cX12_sinks 148 = .ok (.lload 6, 2) := by decide +kernel
theorem dX12_sinks_150 : decode cX12_sinks 150 = .ok (.lload 8, 2) := by decide +kernel
theorem dX12_sinks_152 : decode cX12_sinks 152 = .ok (.ldiv, 1) := by decide +kernel
theorem dX12_sinks_153 : decode cX12_sinks 153 = .ok (.lstore 6, 2) := by decide +kernel
theorem dX12_sinks_155 : decode cX12_sinks 155 = .ok (.iconst 0, 1) := by decide +kernel
theorem dX12_sinks_156 : decode cX12_sinks 156 = .ok (.istore 10, 2) := by decide +kernel
theorem dX12_sinks_158 : decode cX12_sinks 158 = .ok (.iload 10, 2) := by decide +kernel
theorem dX12_sinks_160 : decode cX12_sinks 160 = .ok (.bipush 12, 2) := by decide +kernel
theorem dX12_sinks_162 : decode cX12_sinks 162 = .ok (.if_icmp .ge 48, 3) := by decide +kernel
theorem dX12_sinks_165 : decode cX12_sinks 165 = .ok (.iload_n 3, 1) := by decide +kernel
theorem dX12_sinks_166 : decode cX12_sinks 166 = .ok (.iload 10, 2) := by decide +kernel
theorem dX12_sinks_168 : decode cX12_sinks 168 = .ok (.invokestatic 7, 3) := by decide +kernel
theorem dX12_sinks_171 : decode cX12_sinks 171 = .ok (.ifCond .eq 33, 3) := by decide +kernel
theorem dX12_sinks_174 : decode cX12_sinks 174 = .ok (.aload_n 0, 1) := by decide +kernel
theorem dX12_sinks_175 : decode cX12_sinks 175 = .ok (.iload 10, 2) := by decide +kernel
theorem dX12_sinks_177 : decode cX12_sinks 177 = .ok (.lload 4, 2) := by decide +kernel
theorem dX12_sinks_179 : decode cX12_sinks 179 = .ok (.lload 6, 2) := by decide +kernel
theorem dX12_sinks_181 : decode cX12_sinks 181 = .ok (.iload_n 2, 1) := by decide +kernel
theorem dX12_sinks_182 : decode cX12_sinks 182 = .ok (.ifCond .eq 7, 3) := by decide +kernel
theorem dX12_sinks_185 : decode cX12_sinks 185 = .ok (.iconst 1, 1) := by decide +kernel
theorem dX12_sinks_186 : decode cX12_sinks 186 = .ok (.goto 15, 3) := by decide +kernel
theorem dX12_sinks_189 : decode cX12_sinks 189 = .ok (.aload_n 0, 1) := by decide +kernel
theorem dX12_sinks_190 : decode cX12_sinks 190 = .ok (.getfield 79, 3) := by decide +kernel
theorem dX12_sinks_193 : decode cX12_sinks 193 = .ok (.iload 10, 2) := by decide +kernel
theorem dX12_sinks_195 : decode cX12_sinks 195 = .ok (.iload_n 1, 1) := by decide +kernel
theorem dX12_sinks_196 : decode cX12_sinks 196 = .ok (.invokestatic 124, 3) := by decide +kernel
theorem dX12_sinks_199 : decode cX12_sinks 199 = .ok (.iconst 1, 1) := by decide +kernel
theorem dX12_sinks_200 : decode cX12_sinks 200 = .ok (.isub, 1) := by decide +kernel
theorem dX12_sinks_201 : decode cX12_sinks 201 = .ok (.invokevirtual 240, 3) := by decide +kernel
theorem dX12_sinks_204 : decode cX12_sinks 204 = .ok (.iinc 10 1, 3) := by decide +kernel
theorem dX12_sinks_207 : decode cX12_sinks 207 = .ok (.goto (-49), 3) := by decide +kernel
theorem dX12_sinks_210 : decode cX12_sinks 210 = .ok (.aload_n 0, 1) := by decide +kernel
theorem dX12_sinks_211 : decode cX12_sinks 211 = .ok (.lload 4, 2) := by decide +kernel
theorem dX12_sinks_213 : decode cX12_sinks 213 = .ok (.lload 6, 2) := by decide +kernel
theorem dX12_sinks_215 : decode cX12_sinks 215 = .ok (.iload_n 2, 1) := by decide +kernel
theorem dX12_sinks_216 : decode cX12_sinks 216 = .ok (.ifCond .eq 7, 3) := by decide +kernel
theorem dX12_sinks_219 : decode cX12_sinks 219 = .ok (.iconst 1, 1) := by decide +kernel
theorem dX12_sinks_220 : decode cX12_sinks 220 = .ok (.goto 22, 3) := by decide +kernel
theorem dX12_sinks_223 : decode cX12_sinks 223 = .ok (.aload_n 0, 1) := by decide +kernel
theorem dX12_sinks_224 : decode cX12_sinks 224 = .ok (.getfield 79, 3) := by decide +kernel
theorem dX12_sinks_227 : decode cX12_sinks 227 = .ok (.iload_n 1, 1) := by decide +kernel
theorem dX12_sinks_228 : decode cX12_sinks 228 = .ok (.invokestatic 144, 3) := by decide +kernel
theorem dX12_sinks_231 : decode cX12_sinks 231 = .ok (.iload_n 1, 1) := by decide +kernel
theorem dX12_sinks_232 : decode cX12_sinks 232 = .ok (.invokestatic 193, 3) := by decide +kernel
theorem dX12_sinks_235 : decode cX12_sinks 235 = .ok (.isub, 1) := by decide +kernel
theorem dX12_sinks_236 : decode cX12_sinks 236 = .ok (.aload_n 0, 1) := by decide +kernel
theorem dX12_sinks_237 : decode cX12_sinks 237 = .ok (.iload_n 1, 1) := by decide +kernel
theorem dX12_sinks_238 : decode cX12_sinks 238 = .ok (.invokevirtual 181, 3) := by decide +kernel
theorem dX12_sinks_241 : decode cX12_sinks 241 = .ok (.iadd, 1) := by decide +kernel
theorem dX12_sinks_242 : decode cX12_sinks 242 = .ok (.invokevirtual 244, 3) := by decide +kernel
theorem dX12_sinks_245 : decode cX12_sinks 245 = .ok (.return_, 1) := by decide +kernel
theorem dX12_laysNear_0 : decode cX12_laysNear 0 = .ok (.aload_n 0, 1) := by decide +kernel
theorem dX12_laysNear_1 : decode cX12_laysNear 1 = .ok (.invokevirtual 221, 3) := by decide +kernel
theorem dX12_laysNear_4 : decode cX12_laysNear 4 = .ok (.iconst 0, 1) := by decide +kernel
theorem dX12_laysNear_5 : decode cX12_laysNear 5 = .ok (.istore_n 1, 1) := by decide +kernel
theorem dX12_laysNear_6 : decode cX12_laysNear 6 = .ok (.iload_n 1, 1) := by decide +kernel
theorem dX12_laysNear_7 : decode cX12_laysNear 7 = .ok (.bipush 12, 2) := by decide +kernel
theorem dX12_laysNear_9 : decode cX12_laysNear 9 = .ok (.if_icmp .ge 31, 3) := by decide +kernel
theorem dX12_laysNear_12 : decode cX12_laysNear 12 = .ok (.aload_n 0, 1) := by decide +kernel
theorem dX12_laysNear_13 : decode cX12_laysNear 13 = .ok (.getfield 111, 3) := by decide +kernel
theorem dX12_laysNear_16 : decode cX12_laysNear 16 = .ok (.iload_n 1, 1) := by decide +kernel
theorem dX12_laysNear_17 : decode cX12_laysNear 17 = .ok (.aload_n 0, 1) := by decide +kernel
theorem dX12_laysNear_18 : decode cX12_laysNear 18 = .ok (.getfield 79, 3) := by decide +kernel
theorem dX12_laysNear_21 : decode cX12_laysNear 21 = .ok (.iconst 3, 1) := by decide +kernel
theorem dX12_laysNear_22 : decode cX12_laysNear 22 = .ok (.iload_n 1, 1) := by decide +kernel
theorem dX12_laysNear_23 : decode cX12_laysNear 23 = .ok (.iadd, 1) := by decide +kernel
theorem dX12_laysNear_24 : decode cX12_laysNear 24 = .ok (.iaload, 1) := by decide +kernel
theorem dX12_laysNear_25 : decode cX12_laysNear 25 = .ok (.i2l, 1) := by decide +kernel
theorem dX12_laysNear_26 : decode cX12_laysNear 26 = .ok (.lastore, 1) := by decide +kernel
theorem dX12_laysNear_27 : decode cX12_laysNear 27 = .ok (.aload_n 0, 1) := by decide +kernel
theorem dX12_laysNear_28 : decode cX12_laysNear 28 = .ok (.getfield 114, 3) := by decide +kernel
theorem dX12_laysNear_31 : decode cX12_laysNear 31 = .ok (.iload_n 1, 1) := by decide +kernel
theorem dX12_laysNear_32 : decode cX12_laysNear 32 = .ok (.lconst 1, 1) := by decide +kernel
theorem dX12_laysNear_33 : decode cX12_laysNear 33 = .ok (.lastore, 1) := by decide +kernel
theorem dX12_laysNear_34 : decode cX12_laysNear 34 = .ok (.iinc 1 1, 3) := by decide +kernel
theorem dX12_laysNear_37 : decode cX12_laysNear 37 = .ok (.goto (-31), 3) := by decide +kernel
theorem dX12_laysNear_40 : decode cX12_laysNear 40 = .ok (.aload_n 0, 1) := by decide +kernel
theorem dX12_laysNear_41 : decode cX12_laysNear 41 = .ok (.lconst 0, 1) := by decide +kernel
theorem dX12_laysNear_42 : decode cX12_laysNear 42 = .ok (.putfield 231, 3) := by decide +kernel
theorem dX12_laysNear_45 : decode cX12_laysNear 45 = .ok (.aload_n 0, 1) := by decide +kernel
theorem dX12_laysNear_46 : decode cX12_laysNear 46 = .ok (.lconst 1, 1) := by decide +kernel
theorem dX12_laysNear_47 : decode cX12_laysNear 47 = .ok (.putfield 234, 3) := by decide +kernel
theorem dX12_laysNear_50 : decode cX12_laysNear 50 = .ok (.aload_n 0, 1) := by decide +kernel
theorem dX12_laysNear_51 : decode cX12_laysNear 51 = .ok (.iconst 0, 1) := by decide +kernel
theorem dX12_laysNear_52 : decode cX12_laysNear 52 = .ok (.putfield 248, 3) := by decide +kernel
theorem dX12_laysNear_55 : decode cX12_laysNear 55 = .ok (.aload_n 0, 1) := by decide +kernel
theorem dX12_laysNear_56 : decode cX12_laysNear 56 = .ok (.aload_n 0, 1) := by decide +kernel
theorem dX12_laysNear_57 : decode cX12_laysNear 57 = .ok (.invokevirtual 171, 3) := by decide +kernel
theorem dX12_laysNear_60 : decode cX12_laysNear 60 = .ok (.invokevirtual 251, 3) := by decide +kernel
theorem dX12_laysNear_63 : decode cX12_laysNear 63 = .ok (.istore_n 1, 1) := by decide +kernel
theorem dX12_laysNear_64 : decode cX12_laysNear 64 = .ok (.iload_n 1, 1) := by decide +kernel
theorem dX12_laysNear_65 : decode cX12_laysNear 65 = .ok (.ifCond .eq 80, 3) := by decide +kernel
theorem dX12_laysNear_68 : decode cX12_laysNear 68 = .ok (.aload_n 0, 1) := by decide +kernel
theorem dX12_laysNear_69 : decode cX12_laysNear 69 = .ok (.iload_n 1, 1) := by decide +kernel
theorem dX12_laysNear_70 : decode cX12_laysNear 70 = .ok (.invokevirtual 254, 3) := by decide +kernel
theorem dX12_laysNear_73 : decode cX12_laysNear 73 = .ok (.bipush 11, 2) := by decide +kernel
theorem dX12_laysNear_75 : decode cX12_laysNear 75 = .ok (.istore_n 2, 1) := by decide +kernel
theorem dX12_laysNear_76 : decode cX12_laysNear 76 = .ok (.iload_n 2, 1) := by decide +kernel
theorem dX12_laysNear_77 : decode cX12_laysNear 77 = .ok (.ifCond .lt 59, 3) := by decide +kernel
theorem dX12_laysNear_80 : decode cX12_laysNear 80 = .ok (.iload_n 1, 1) := by decide +kernel
theorem dX12_laysNear_81 : decode cX12_laysNear 81 = .ok (.iload_n 2, 1) := by decide +kernel
theorem dX12_laysNear_82 : decode cX12_laysNear 82 = .ok (.invokestatic 7, 3) := by decide +kernel
theorem dX12_laysNear_85 : decode cX12_laysNear 85 = .ok (.ifCond .eq 45, 3) := by decide +kernel
theorem dX12_laysNear_88 : decode cX12_laysNear 88 = .ok (.aload_n 0, 1) := by decide +kernel
theorem dX12_laysNear_89 : decode cX12_laysNear 89 = .ok (.getfield 111, 3) := by decide +kernel
theorem dX12_laysNear_92 : decode cX12_laysNear 92 = .ok (.iload_n 2, 1) := by decide +kernel
theorem dX12_laysNear_93 : decode cX12_laysNear 93 = .ok (.laload, 1) := by decide +kernel
theorem dX12_laysNear_94 : decode cX12_laysNear 94 = .ok (.lconst 0, 1) := by decide +kernel
theorem dX12_laysNear_95 : decode cX12_laysNear 95 = .ok (.lcmp, 1) := by decide +kernel
theorem dX12_laysNear_96 : decode cX12_laysNear 96 = .ok (.ifCond .eq 6, 3) := by decide +kernel
theorem dX12_laysNear_99 : decode cX12_laysNear 99 = .ok (.goto 31, 3) := by decide +kernel
theorem dX12_laysNear_102 : decode cX12_laysNear 102 = .ok (.aload_n 0, 1) := by decide +kernel
theorem dX12_laysNear_103 : decode cX12_laysNear 103 = .ok (.getfield 117, 3) := by decide +kernel
theorem dX12_laysNear_106 : decode cX12_laysNear 106 = .ok (.aload_n 0, 1) := by decide +kernel
theorem dX12_laysNear_107 : decode cX12_laysNear 107 = .ok (.getfield 248, 3) := by decide +kernel
theorem dX12_laysNear_110 : decode cX12_laysNear 110 = .ok (.iload_n 2, 1) := by decide +kernel
theorem dX12_laysNear_111 : decode cX12_laysNear 111 = .ok (.iastore, 1) := by decide +kernel
theorem dX12_laysNear_112 : decode cX12_laysNear 112 = .ok (.aload_n 0, 1) := by decide +kernel
theorem dX12_laysNear_113 : decode cX12_laysNear 113 = .ok (.dup, 1) := by decide +kernel
theorem dX12_laysNear_114 : decode cX12_laysNear 114 = .ok (.getfield 248, 3) := by decide +kernel
theorem dX12_laysNear_117 : decode cX12_laysNear 117 = .ok (.iconst 1, 1) := by decide +kernel
theorem dX12_laysNear_118 : decode cX12_laysNear 118 = .ok (.iadd, 1) := by decide +kernel
theorem dX12_laysNear_119 : decode cX12_laysNear 119 = .ok (.putfield 248, 3) := by decide +kernel
theorem dX12_laysNear_122 : decode cX12_laysNear 122 = .ok (.iload_n 1, 1) := by decide +kernel
theorem dX12_laysNear_123 : decode cX12_laysNear 123 = .ok (.iconst 1, 1) := by decide +kernel
theorem dX12_laysNear_124 : decode cX12_laysNear 124 = .ok (.iload_n 2, 1) := by decide +kernel
theorem dX12_laysNear_125 : decode cX12_laysNear 125 = .ok (.ishl, 1) := by decide +kernel
theorem dX12_laysNear_126 : decode cX12_laysNear 126 = .ok (.iconst (-1), 1) := by decide +kernel
theorem dX12_laysNear_127 : decode cX12_laysNear 127 = .ok (.ixor, 1) := by decide +kernel
theorem dX12_laysNear_128 : decode cX12_laysNear 128 = .ok (.iand, 1) := by decide +kernel
theorem dX12_laysNear_129 : decode cX12_laysNear 129 = .ok (.istore_n 1, 1) := by decide +kernel
theorem dX12_laysNear_130 : decode cX12_laysNear 130 = .ok (.iinc 2 (-1), 3) := by decide +kernel
theorem dX12_laysNear_133 : decode cX12_laysNear 133 = .ok (.goto (-57), 3) := by decide +kernel
theorem dX12_laysNear_136 : decode cX12_laysNear 136 = .ok (.aload_n 0, 1) := by decide +kernel
theorem dX12_laysNear_137 : decode cX12_laysNear 137 = .ok (.iload_n 1, 1) := by decide +kernel
theorem dX12_laysNear_138 : decode cX12_laysNear 138 = .ok (.invokevirtual 251, 3) := by decide +kernel
theorem dX12_laysNear_141 : decode cX12_laysNear 141 = .ok (.istore_n 1, 1) := by decide +kernel
theorem dX12_laysNear_142 : decode cX12_laysNear 142 = .ok (.goto (-78), 3) := by decide +kernel
theorem dX12_laysNear_145 : decode cX12_laysNear 145 = .ok (.iconst 0, 1) := by decide +kernel
theorem dX12_laysNear_146 : decode cX12_laysNear 146 = .ok (.istore_n 2, 1) := by decide +kernel
theorem dX12_laysNear_147 : decode cX12_laysNear 147 = .ok (.iconst 0, 1) := by decide +kernel
theorem dX12_laysNear_148 : decode cX12_laysNear 148 = .ok (.istore_n 3, 1) := by decide +kernel
theorem dX12_laysNear_149 : decode cX12_laysNear 149 = .ok (.iload_n 3, 1) := by decide +kernel
theorem dX12_laysNear_150 : decode cX12_laysNear 150 = .ok (.aload_n 0, 1) := by decide +kernel
theorem dX12_laysNear_151 : decode cX12_laysNear 151 = .ok (.getfield 248, 3) := by decide +kernel
theorem dX12_laysNear_154 : decode cX12_laysNear 154 = .ok (.if_icmp .ge 20, 3) := by decide +kernel
theorem dX12_laysNear_157 : decode cX12_laysNear 157 = .ok (.iload_n 2, 1) := by decide +kernel
theorem dX12_laysNear_158 : decode cX12_laysNear 158 = .ok (.iconst 1, 1) := by decide +kernel
theorem dX12_laysNear_159 : decode cX12_laysNear 159 = .ok (.aload_n 0, 1) := by decide +kernel
theorem dX12_laysNear_160 : decode cX12_laysNear 160 = .ok (.getfield 117, 3) := by decide +kernel
theorem dX12_laysNear_163 : decode cX12_laysNear 163 = .ok (.iload_n 3, 1) := by decide +kernel
theorem dX12_laysNear_164 : decode cX12_laysNear 164 = .ok (.iaload, 1) := by decide +kernel
theorem dX12_laysNear_165 : decode cX12_laysNear 165 = .ok (.ishl, 1) := by decide +kernel
theorem dX12_laysNear_166 : decode cX12_laysNear 166 = .ok (.ior, 1) := by decide +kernel
theorem dX12_laysNear_167 : decode cX12_laysNear 167 = .ok (.istore_n 2, 1) := by decide +kernel
theorem dX12_laysNear_168 : decode cX12_laysNear 168 = .ok (.iinc 3 1, 3) := by decide +kernel
theorem dX12_laysNear_171 : decode cX12_laysNear 171 = .ok (.goto (-22), 3) := by decide +kernel
theorem dX12_laysNear_174 : decode cX12_laysNear 174 = .ok (.aload_n 0, 1) := by decide +kernel
theorem dX12_laysNear_175 : decode cX12_laysNear 175 = .ok (.getfield 248, 3) := by decide +kernel
theorem dX12_laysNear_178 : decode cX12_laysNear 178 = .ok (.iconst 1, 1) := by decide +kernel
theorem dX12_laysNear_179 : decode cX12_laysNear 179 = .ok (.isub, 1) := by decide +kernel
theorem dX12_laysNear_180 : decode cX12_laysNear 180 = .ok (.istore_n 3, 1) := by decide +kernel
theorem dX12_laysNear_181 : decode cX12_laysNear 181 = .ok (.iload_n 3, 1) := by decide +kernel
theorem dX12_laysNear_182 : decode cX12_laysNear 182 = .ok (.ifCond .lt 45, 3) := by decide +kernel
theorem dX12_laysNear_185 : decode cX12_laysNear 185 = .ok (.aload_n 0, 1) := by decide +kernel
theorem dX12_laysNear_186 : decode cX12_laysNear 186 = .ok (.iload_n 2, 1) := by decide +kernel
theorem dX12_laysNear_187 : decode cX12_laysNear 187 = .ok (.iconst 1, 1) := by decide +kernel
theorem dX12_laysNear_188 : decode cX12_laysNear 188 = .ok (.aload_n 0, 1) := by decide +kernel
theorem dX12_laysNear_189 : decode cX12_laysNear 189 = .ok (.getfield 117, 3) := by decide +kernel
theorem dX12_laysNear_192 : decode cX12_laysNear 192 = .ok (.iload_n 3, 1) := by decide +kernel
theorem dX12_laysNear_193 : decode cX12_laysNear 193 = .ok (.iaload, 1) := by decide +kernel
theorem dX12_laysNear_194 : decode cX12_laysNear 194 = .ok (.ishl, 1) := by decide +kernel
theorem dX12_laysNear_195 : decode cX12_laysNear 195 = .ok (.iconst (-1), 1) := by decide +kernel
theorem dX12_laysNear_196 : decode cX12_laysNear 196 = .ok (.ixor, 1) := by decide +kernel
theorem dX12_laysNear_197 : decode cX12_laysNear 197 = .ok (.iand, 1) := by decide +kernel
theorem dX12_laysNear_198 : decode cX12_laysNear 198 = .ok (.aload_n 0, 1) := by decide +kernel
theorem dX12_laysNear_199 : decode cX12_laysNear 199 = .ok (.invokevirtual 171, 3) := by decide +kernel
theorem dX12_laysNear_202 : decode cX12_laysNear 202 = .ok (.invokevirtual 202, 3) := by decide +kernel
theorem dX12_laysNear_205 : decode cX12_laysNear 205 = .ok (.ifCond .eq 16, 3) := by decide +kernel
theorem dX12_laysNear_208 : decode cX12_laysNear 208 = .ok (.iload_n 2, 1) := by decide +kernel
theorem dX12_laysNear_209 : decode cX12_laysNear 209 = .ok (.iconst 1, 1) := by decide +kernel
theorem dX12_laysNear_210 : decode cX12_laysNear 210 = .ok (.aload_n 0, 1) := by decide +kernel
theorem dX12_laysNear_211 : decode cX12_laysNear 211 = .ok (.getfield 117, 3) := by decide +kernel
theorem dX12_laysNear_214 : decode cX12_laysNear 214 = .ok (.iload_n 3, 1) := by decide +kernel
theorem dX12_laysNear_215 : decode cX12_laysNear 215 = .ok (.iaload, 1) := by decide +kernel
theorem dX12_laysNear_216 : decode cX12_laysNear 216 = .ok (.ishl, 1) := by decide +kernel
theorem dX12_laysNear_217 : decode cX12_laysNear 217 = .ok (.iconst (-1), 1) := by decide +kernel
theorem dX12_laysNear_218 : decode cX12_laysNear 218 = .ok (.ixor, 1) := by decide +kernel
theorem dX12_laysNear_219 : decode cX12_laysNear 219 = .ok (.iand, 1) := by decide +kernel
theorem dX12_laysNear_220 : decode cX12_laysNear 220 = .ok (.istore_n 2, 1) := by decide +kernel
theorem dX12_laysNear_221 : decode cX12_laysNear 221 = .ok (.iinc 3 (-1), 3) := by decide +kernel
theorem dX12_laysNear_224 : decode cX12_laysNear 224 = .ok (.goto (-43), 3) := by decide +kernel
theorem dX12_laysNear_227 : decode cX12_laysNear 227 = .ok (.iload_n 2, 1) := by decide +kernel
theorem dX12_laysNear_228 : decode cX12_laysNear 228 = .ok (.ireturn, 1) := by decide +kernel
theorem dX12_near_0 : decode cX12_near 0 = .ok (.aload_n 0, 1) := by decide +kernel
theorem dX12_near_1 : decode cX12_near 1 = .ok (.iconst 0, 1) := by decide +kernel
theorem dX12_near_2 : decode cX12_near 2 = .ok (.putfield 1, 3) := by decide +kernel
theorem dX12_near_5 : decode cX12_near 5 = .ok (.aload_n 0, 1) := by decide +kernel
theorem dX12_near_6 : decode cX12_near 6 = .ok (.invokevirtual 257, 3) := by decide +kernel
theorem dX12_near_9 : decode cX12_near 9 = .ok (.ireturn, 1) := by decide +kernel
theorem dX12_bound_0 : decode cX12_bound 0 = .ok (.aload_n 0, 1) := by decide +kernel
theorem dX12_bound_1 : decode cX12_bound 1 = .ok (.iconst 0, 1) := by decide +kernel
theorem dX12_bound_2 : decode cX12_bound 2 = .ok (.putfield 1, 3) := by decide +kernel
theorem dX12_bound_5 : decode cX12_bound 5 = .ok (.iload_n 1, 1) := by decide +kernel
theorem dX12_bound_6 : decode cX12_bound 6 = .ok (.iconst 0, 1) := by decide +kernel
theorem dX12_bound_7 : decode cX12_bound 7 = .ok (.iconst 1, 1) := by decide +kernel
theorem dX12_bound_8 : decode cX12_bound 8 = .ok (.invokestatic 140, 3) := by decide +kernel
theorem dX12_bound_11 : decode cX12_bound 11 = .ok (.ifCond .ne 9, 3) := by decide +kernel
theorem dX12_bound_14 : decode cX12_bound 14 = .ok (.aload_n 0, 1) := by decide +kernel
theorem dX12_bound_15 : decode cX12_bound 15 = .ok (.invokevirtual 190, 3) := by decide +kernel
theorem dX12_bound_18 : decode cX12_bound 18 = .ok (.i2l, 1) := by decide +kernel
theorem dX12_bound_19 : decode cX12_bound 19 = .ok (.lreturn, 1) := by decide +kernel
theorem dX12_bound_20 : decode cX12_bound 20 = .ok (.aload_n 0, 1) := by decide +kernel
theorem dX12_bound_21 : decode cX12_bound 21 = .ok (.invokevirtual 257, 3) := by decide +kernel
theorem dX12_bound_24 : decode cX12_bound 24 = .ok (.pop, 1) := by decide +kernel
theorem dX12_bound_25 : decode cX12_bound 25 = .ok (.iload_n 1, 1) := by decide +kernel
theorem dX12_bound_26 : decode cX12_bound 26 = .ok (.ifCond .ne 10, 3) := by decide +kernel
theorem dX12_bound_29 : decode cX12_bound 29 = .ok (.aload_n 0, 1) := by decide +kernel
theorem dX12_bound_30 : decode cX12_bound 30 = .ok (.getfield 231, 3) := by decide +kernel
theorem dX12_bound_33 : decode cX12_bound 33 = .ok (.goto 7, 3) := by decide +kernel
theorem dX12_bound_36 : decode cX12_bound 36 = .ok (.aload_n 0, 1) := by decide +kernel
theorem dX12_bound_37 : decode cX12_bound 37 = .ok (.getfield 234, 3) := by decide +kernel
theorem dX12_bound_40 : decode cX12_bound 40 = .ok (.lreturn, 1) := by decide +kernel
theorem dX12_snap_0 : decode cX12_snap 0 = .ok (.aload_n 0, 1) := by decide +kernel
theorem dX12_snap_1 : decode cX12_snap 1 = .ok (.getfield 168, 3) := by decide +kernel
theorem dX12_snap_4 : decode cX12_snap 4 = .ok (.bipush 8, 2) := by decide +kernel
theorem dX12_snap_6 : decode cX12_snap 6 = .ok (.if_icmp .ne 44, 3) := by decide +kernel
theorem dX12_snap_9 : decode cX12_snap 9 = .ok (.iconst 0, 1) := by decide +kernel
theorem dX12_snap_10 : decode cX12_snap 10 = .ok (.istore_n 1, 1) := by decide +kernel
theorem dX12_snap_11 : decode cX12_snap 11 = .ok (.iload_n 1, 1) := by decide +kernel
theorem dX12_snap_12 : decode cX12_snap 12 = .ok (.sipush 1113, 3) := by decide +kernel
theorem dX12_snap_15 : decode cX12_snap 15 = .ok (.if_icmp .ge 25, 3) := by decide +kernel
theorem dX12_snap_18 : decode cX12_snap 18 = .ok (.aload_n 0, 1) := by decide +kernel
theorem dX12_snap_19 : decode cX12_snap 19 = .ok (.getfield 88, 3) := by decide +kernel
theorem dX12_snap_22 : decode cX12_snap 22 = .ok (.iload_n 1, 1) := by decide +kernel
theorem dX12_snap_23 : decode cX12_snap 23 = .ok (.aload_n 0, 1) := by decide +kernel
theorem dX12_snap_24 : decode cX12_snap 24 = .ok (.getfield 88, 3) := by decide +kernel
theorem dX12_snap_27 : decode cX12_snap 27 = .ok (.iload_n 1, 1) := by decide +kernel
theorem dX12_snap_28 : decode cX12_snap 28 = .ok (.sipush 159, 3) := by decide +kernel
theorem dX12_snap_31 : decode cX12_snap 31 = .ok (.iadd, 1) := by decide +kernel
theorem dX12_snap_32 : decode cX12_snap 32 = .ok (.iaload, 1) := by decide +kernel
theorem dX12_snap_33 : decode cX12_snap 33 = .ok (.iastore, 1) := by decide +kernel
theorem dX12_snap_34 : decode cX12_snap 34 = .ok (.iinc 1 1, 3) := by decide +kernel
theorem dX12_snap_37 : decode cX12_snap 37 = .ok (.goto (-26), 3) := by decide +kernel
theorem dX12_snap_40 : decode cX12_snap 40 = .ok (.aload_n 0, 1) := by decide +kernel
theorem dX12_snap_41 : decode cX12_snap 41 = .ok (.dup, 1) := by decide +kernel
theorem dX12_snap_42 : decode cX12_snap 42 = .ok (.getfield 168, 3) := by decide +kernel
theorem dX12_snap_45 : decode cX12_snap 45 = .ok (.iconst 1, 1) := by decide +kernel
theorem dX12_snap_46 : decode cX12_snap 46 = .ok (.isub, 1) := by decide +kernel
theorem dX12_snap_47 : decode cX12_snap 47 = .ok (.putfield 168, 3) := by decide +kernel
theorem dX12_snap_50 : decode cX12_snap 50 = .ok (.aload_n 0, 1) := by decide +kernel
theorem dX12_snap_51 : decode cX12_snap 51 = .ok (.getfield 79, 3) := by decide +kernel
theorem dX12_snap_54 : decode cX12_snap 54 = .ok (.iconst 0, 1) := by decide +kernel
theorem dX12_snap_55 : decode cX12_snap 55 = .ok (.aload_n 0, 1) := by decide +kernel
theorem dX12_snap_56 : decode cX12_snap 56 = .ok (.getfield 88, 3) := by decide +kernel
theorem dX12_snap_59 : decode cX12_snap 59 = .ok (.sipush 159, 3) := by decide +kernel
theorem dX12_snap_62 : decode cX12_snap 62 = .ok (.aload_n 0, 1) := by decide +kernel
theorem dX12_snap_63 : decode cX12_snap 63 = .ok (.getfield 168, 3) := by decide +kernel
theorem dX12_snap_66 : decode cX12_snap 66 = .ok (.imul, 1) := by decide +kernel
theorem dX12_snap_67 : decode cX12_snap 67 = .ok (.invokestatic 164, 3) := by decide +kernel
theorem dX12_snap_70 : decode cX12_snap 70 = .ok (.aload_n 0, 1) := by decide +kernel
theorem dX12_snap_71 : decode cX12_snap 71 = .ok (.dup, 1) := by decide +kernel
theorem dX12_snap_72 : decode cX12_snap 72 = .ok (.getfield 168, 3) := by decide +kernel
theorem dX12_snap_75 : decode cX12_snap 75 = .ok (.iconst 1, 1) := by decide +kernel
theorem dX12_snap_76 : decode cX12_snap 76 = .ok (.iadd, 1) := by decide +kernel
theorem dX12_snap_77 : decode cX12_snap 77 = .ok (.putfield 168, 3) := by decide +kernel
theorem dX12_snap_80 : decode cX12_snap 80 = .ok (.return_, 1) := by decide +kernel
theorem dX12_stay_0 : decode cX12_stay 0 = .ok (.aload_n 0, 1) := by decide +kernel
theorem dX12_stay_1 : decode cX12_stay 1 = .ok (.getfield 79, 3) := by decide +kernel
theorem dX12_stay_4 : decode cX12_stay 4 = .ok (.iconst 0, 1) := by decide +kernel
theorem dX12_stay_5 : decode cX12_stay 5 = .ok (.aload_n 0, 1) := by decide +kernel
theorem dX12_stay_6 : decode cX12_stay 6 = .ok (.getfield 94, 3) := by decide +kernel
theorem dX12_stay_9 : decode cX12_stay 9 = .ok (.iconst 0, 1) := by decide +kernel
theorem dX12_stay_10 : decode cX12_stay 10 = .ok (.invokestatic 164, 3) := by decide +kernel
theorem dX12_stay_13 : decode cX12_stay 13 = .ok (.aload_n 0, 1) := by decide +kernel
theorem dX12_stay_14 : decode cX12_stay 14 = .ok (.getfield 91, 3) := by decide +kernel
theorem dX12_stay_17 : decode cX12_stay 17 = .ok (.iconst 0, 1) := by decide +kernel
theorem dX12_stay_18 : decode cX12_stay 18 = .ok (.aload_n 0, 1) := by decide +kernel
theorem dX12_stay_19 : decode cX12_stay 19 = .ok (.getfield 79, 3) := by decide +kernel
theorem dX12_stay_22 : decode cX12_stay 22 = .ok (.iconst 0, 1) := by decide +kernel
theorem dX12_stay_23 : decode cX12_stay 23 = .ok (.invokestatic 164, 3) := by decide +kernel
theorem dX12_stay_26 : decode cX12_stay 26 = .ok (.aload_n 0, 1) := by decide +kernel
theorem dX12_stay_27 : decode cX12_stay 27 = .ok (.invokevirtual 260, 3) := by decide +kernel
theorem dX12_stay_30 : decode cX12_stay 30 = .ok (.aload_n 0, 1) := by decide +kernel
theorem dX12_stay_31 : decode cX12_stay 31 = .ok (.getfield 94, 3) := by decide +kernel
theorem dX12_stay_34 : decode cX12_stay 34 = .ok (.iconst 0, 1) := by decide +kernel
theorem dX12_stay_35 : decode cX12_stay 35 = .ok (.aload_n 0, 1) := by decide +kernel
theorem dX12_stay_36 : decode cX12_stay 36 = .ok (.getfield 79, 3) := by decide +kernel
theorem dX12_stay_39 : decode cX12_stay 39 = .ok (.iconst 0, 1) := by decide +kernel
theorem dX12_stay_40 : decode cX12_stay 40 = .ok (.invokestatic 164, 3) := by decide +kernel
theorem dX12_stay_43 : decode cX12_stay 43 = .ok (.return_, 1) := by decide +kernel
theorem dX12_leaves_0 : decode cX12_leaves 0 = .ok (.aload_n 0, 1) := by decide +kernel
theorem dX12_leaves_1 : decode cX12_leaves 1 = .ok (.iconst 1, 1) := by decide +kernel
theorem dX12_leaves_2 : decode cX12_leaves 2 = .ok (.dup2, 1) := by decide +kernel
theorem dX12_leaves_3 : decode cX12_leaves 3 = .ok (.iaload, 1) := by decide +kernel
theorem dX12_leaves_4 : decode cX12_leaves 4 = .ok (.iconst 1, 1) := by decide +kernel
theorem dX12_leaves_5 : decode cX12_leaves 5 = .ok (.iload_n 1, 1) := by decide +kernel
theorem dX12_leaves_6 : decode cX12_leaves 6 = .ok (.ishl, 1) := by decide +kernel
theorem dX12_leaves_7 : decode cX12_leaves 7 = .ok (.iconst (-1), 1) := by decide +kernel
theorem dX12_leaves_8 : decode cX12_leaves 8 = .ok (.ixor, 1) := by decide +kernel
theorem dX12_leaves_9 : decode cX12_leaves 9 = .ok (.iand, 1) := by decide +kernel
theorem dX12_leaves_10 : decode cX12_leaves 10 = .ok (.iastore, 1) := by decide +kernel
theorem dX12_leaves_11 : decode cX12_leaves 11 = .ok (.iconst 0, 1) := by decide +kernel
theorem dX12_leaves_12 : decode cX12_leaves 12 = .ok (.istore_n 2, 1) := by decide +kernel
theorem dX12_leaves_13 : decode cX12_leaves 13 = .ok (.iload_n 2, 1) := by decide +kernel
theorem dX12_leaves_14 : decode cX12_leaves 14 = .ok (.bipush 12, 2) := by decide +kernel
theorem dX12_leaves_16 : decode cX12_leaves 16 = .ok (.if_icmp .ge 22, 3) := by decide +kernel
theorem dX12_leaves_19 : decode cX12_leaves 19 = .ok (.aload_n 0, 1) := by decide +kernel
theorem dX12_leaves_20 : decode cX12_leaves 20 = .ok (.iload_n 1, 1) := by decide +kernel
theorem dX12_leaves_21 : decode cX12_leaves 21 = .ok (.iload_n 2, 1) := by decide +kernel
theorem dX12_leaves_22 : decode cX12_leaves 22 = .ok (.aload_n 0, 1) := by decide +kernel
theorem dX12_leaves_23 : decode cX12_leaves 23 = .ok (.iload_n 1, 1) := by decide +kernel
theorem dX12_leaves_24 : decode cX12_leaves 24 = .ok (.iload_n 2, 1) := by decide +kernel
theorem dX12_leaves_25 : decode cX12_leaves 25 = .ok (.invokestatic 120, 3) := by decide +kernel
theorem dX12_leaves_28 : decode cX12_leaves 28 = .ok (.ineg, 1) := by decide +kernel
theorem dX12_leaves_29 : decode cX12_leaves 29 = .ok (.invokestatic 151, 3) := by decide +kernel
theorem dX12_leaves_32 : decode cX12_leaves 32 = .ok (.iinc 2 1, 3) := by decide +kernel
theorem dX12_leaves_35 : decode cX12_leaves 35 = .ok (.goto (-22), 3) := by decide +kernel
theorem dX12_leaves_38 : decode cX12_leaves 38 = .ok (.return_, 1) := by decide +kernel
theorem dX12_first_0 : decode cX12_first 0 = .ok (.iconst 0, 1) := by decide +kernel
theorem dX12_first_1 : decode cX12_first 1 = .ok (.istore_n 2, 1) := by decide +kernel
theorem dX12_first_2 : decode cX12_first 2 = .ok (.iload_n 2, 1) := by decide +kernel
theorem dX12_first_3 : decode cX12_first 3 = .ok (.bipush 12, 2) := by decide +kernel
theorem dX12_first_5 : decode cX12_first 5 = .ok (.if_icmp .ge 28, 3) := by decide +kernel
theorem dX12_first_8 : decode cX12_first 8 = .ok (.aload_n 0, 1) := by decide +kernel
theorem dX12_first_9 : decode cX12_first 9 = .ok (.iload_n 2, 1) := by decide +kernel
theorem dX12_first_10 : decode cX12_first 10 = .ok (.invokevirtual 187, 3) := by decide +kernel
theorem dX12_first_13 : decode cX12_first 13 = .ok (.ifCond .eq 14, 3) := by decide +kernel
theorem dX12_first_16 : decode cX12_first 16 = .ok (.aload_n 0, 1) := by decide +kernel
theorem dX12_first_17 : decode cX12_first 17 = .ok (.iload_n 1, 1) := by decide +kernel
theorem dX12_first_18 : decode cX12_first 18 = .ok (.iload_n 2, 1) := by decide +kernel
theorem dX12_first_19 : decode cX12_first 19 = .ok (.invokevirtual 263, 3) := by decide +kernel
theorem dX12_first_22 : decode cX12_first 22 = .ok (.ifCond .eq 5, 3) := by decide +kernel
theorem dX12_first_25 : decode cX12_first 25 = .ok (.iload_n 2, 1) := by decide +kernel
theorem dX12_first_26 : decode cX12_first 26 = .ok (.ireturn, 1) := by decide +kernel
theorem dX12_first_27 : decode cX12_first 27 = .ok (.iinc 2 1, 3) := by decide +kernel
theorem dX12_first_30 : decode cX12_first 30 = .ok (.goto (-28), 3) := by decide +kernel
theorem dX12_first_33 : decode cX12_first 33 = .ok (.iconst (-1), 1) := by decide +kernel
theorem dX12_first_34 : decode cX12_first 34 = .ok (.ireturn, 1) := by decide +kernel
theorem dX12_mayStep_0 : decode cX12_mayStep 0 = .ok (.iload_n 1, 1) := by decide +kernel
theorem dX12_mayStep_1 : decode cX12_mayStep 1 = .ok (.ifCond .ne 21, 3) := by decide +kernel
theorem dX12_mayStep_4 : decode cX12_mayStep 4 = .ok (.aload_n 0, 1) := by decide +kernel
theorem dX12_mayStep_5 : decode cX12_mayStep 5 = .ok (.getfield 79, 3) := by decide +kernel
theorem dX12_mayStep_8 : decode cX12_mayStep 8 = .ok (.iload_n 2, 1) := by decide +kernel
theorem dX12_mayStep_9 : decode cX12_mayStep 9 = .ok (.iload_n 2, 1) := by decide +kernel
theorem dX12_mayStep_10 : decode cX12_mayStep 10 = .ok (.invokestatic 120, 3) := by decide +kernel
theorem dX12_mayStep_13 : decode cX12_mayStep 13 = .ok (.ifCond .le 7, 3) := by decide +kernel
theorem dX12_mayStep_16 : decode cX12_mayStep 16 = .ok (.iconst 1, 1) := by decide +kernel
theorem dX12_mayStep_17 : decode cX12_mayStep 17 = .ok (.goto 4, 3) := by decide +kernel
theorem dX12_mayStep_20 : decode cX12_mayStep 20 = .ok (.iconst 0, 1) := by decide +kernel
theorem dX12_mayStep_21 : decode cX12_mayStep 21 = .ok (.ireturn, 1) := by decide +kernel
theorem dX12_mayStep_22 : decode cX12_mayStep 22 = .ok (.iload_n 1, 1) := by decide +kernel
theorem dX12_mayStep_23 : decode cX12_mayStep 23 = .ok (.iconst 1, 1) := by decide +kernel
theorem dX12_mayStep_24 : decode cX12_mayStep 24 = .ok (.if_icmp .ne 21, 3) := by decide +kernel
theorem dX12_mayStep_27 : decode cX12_mayStep 27 = .ok (.aload_n 0, 1) := by decide +kernel
theorem dX12_mayStep_28 : decode cX12_mayStep 28 = .ok (.getfield 79, 3) := by decide +kernel
theorem dX12_mayStep_31 : decode cX12_mayStep 31 = .ok (.iload_n 2, 1) := by decide +kernel
theorem dX12_mayStep_32 : decode cX12_mayStep 32 = .ok (.invokestatic 148, 3) := by decide +kernel
theorem dX12_mayStep_35 : decode cX12_mayStep 35 = .ok (.iconst 2, 1) := by decide +kernel
theorem dX12_mayStep_36 : decode cX12_mayStep 36 = .ok (.if_icmp .ge 7, 3) := by decide +kernel
theorem dX12_mayStep_39 : decode cX12_mayStep 39 = .ok (.iconst 1, 1) := by decide +kernel
theorem dX12_mayStep_40 : decode cX12_mayStep 40 = .ok (.goto 4, 3) := by decide +kernel
theorem dX12_mayStep_43 : decode cX12_mayStep 43 = .ok (.iconst 0, 1) := by decide +kernel
theorem dX12_mayStep_44 : decode cX12_mayStep 44 = .ok (.ireturn, 1) := by decide +kernel
theorem dX12_mayStep_45 : decode cX12_mayStep 45 = .ok (.iload_n 1, 1) := by decide +kernel
theorem dX12_mayStep_46 : decode cX12_mayStep 46 = .ok (.iconst 2, 1) := by decide +kernel
theorem dX12_mayStep_47 : decode cX12_mayStep 47 = .ok (.if_icmp .ne 18, 3) := by decide +kernel
theorem dX12_mayStep_50 : decode cX12_mayStep 50 = .ok (.aload_n 0, 1) := by decide +kernel
theorem dX12_mayStep_51 : decode cX12_mayStep 51 = .ok (.iload_n 2, 1) := by decide +kernel
theorem dX12_mayStep_52 : decode cX12_mayStep 52 = .ok (.invokevirtual 266, 3) := by decide +kernel
theorem dX12_mayStep_55 : decode cX12_mayStep 55 = .ok (.iconst (-1), 1) := by decide +kernel
theorem dX12_mayStep_56 : decode cX12_mayStep 56 = .ok (.if_icmp .eq 7, 3) := by decide +kernel
theorem dX12_mayStep_59 : decode cX12_mayStep 59 = .ok (.iconst 1, 1) := by decide +kernel
theorem dX12_mayStep_60 : decode cX12_mayStep 60 = .ok (.goto 4, 3) := by decide +kernel
theorem dX12_mayStep_63 : decode cX12_mayStep 63 = .ok (.iconst 0, 1) := by decide +kernel
theorem dX12_mayStep_64 : decode cX12_mayStep 64 = .ok (.ireturn, 1) := by decide +kernel
theorem dX12_mayStep_65 : decode cX12_mayStep 65 = .ok (.aload_n 0, 1) := by decide +kernel
theorem dX12_mayStep_66 : decode cX12_mayStep 66 = .ok (.getfield 79, 3) := by decide +kernel
theorem dX12_mayStep_69 : decode cX12_mayStep 69 = .ok (.iload_n 2, 1) := by decide +kernel
theorem dX12_mayStep_70 : decode cX12_mayStep 70 = .ok (.invokestatic 148, 3) := by decide +kernel
theorem dX12_mayStep_73 : decode cX12_mayStep 73 = .ok (.iconst 2, 1) := by decide +kernel
theorem dX12_mayStep_74 : decode cX12_mayStep 74 = .ok (.if_icmp .ne 53, 3) := by decide +kernel
theorem dX12_mayStep_77 : decode cX12_mayStep 77 = .ok (.aload_n 0, 1) := by decide +kernel
theorem dX12_mayStep_78 : decode cX12_mayStep 78 = .ok (.getfield 79, 3) := by decide +kernel
theorem dX12_mayStep_81 : decode cX12_mayStep 81 = .ok (.iconst 3, 1) := by decide +kernel
theorem dX12_mayStep_82 : decode cX12_mayStep 82 = .ok (.iload_n 2, 1) := by decide +kernel
theorem dX12_mayStep_83 : decode cX12_mayStep 83 = .ok (.iadd, 1) := by decide +kernel
theorem dX12_mayStep_84 : decode cX12_mayStep 84 = .ok (.iaload, 1) := by decide +kernel
theorem dX12_mayStep_85 : decode cX12_mayStep 85 = .ok (.aload_n 0, 1) := by decide +kernel
theorem dX12_mayStep_86 : decode cX12_mayStep 86 = .ok (.getfield 79, 3) := by decide +kernel
theorem dX12_mayStep_89 : decode cX12_mayStep 89 = .ok (.iconst 3, 1) := by decide +kernel
theorem dX12_mayStep_90 : decode cX12_mayStep 90 = .ok (.aload_n 0, 1) := by decide +kernel
theorem dX12_mayStep_91 : decode cX12_mayStep 91 = .ok (.iload_n 2, 1) := by decide +kernel
theorem dX12_mayStep_92 : decode cX12_mayStep 92 = .ok (.invokevirtual 269, 3) := by decide +kernel
theorem dX12_mayStep_95 : decode cX12_mayStep 95 = .ok (.iadd, 1) := by decide +kernel
theorem dX12_mayStep_96 : decode cX12_mayStep 96 = .ok (.iaload, 1) := by decide +kernel
theorem dX12_mayStep_97 : decode cX12_mayStep 97 = .ok (.if_icmp .ge 26, 3) := by decide +kernel
theorem dX12_mayStep_100 : decode cX12_mayStep 100 = .ok (.aload_n 0, 1) := by decide +kernel
theorem dX12_mayStep_101 : decode cX12_mayStep 101 = .ok (.getfield 79, 3) := by decide +kernel
theorem dX12_mayStep_104 : decode cX12_mayStep 104 = .ok (.iconst 3, 1) := by decide +kernel
theorem dX12_mayStep_105 : decode cX12_mayStep 105 = .ok (.iload_n 2, 1) := by decide +kernel
theorem dX12_mayStep_106 : decode cX12_mayStep 106 = .ok (.iadd, 1) := by decide +kernel
theorem dX12_mayStep_107 : decode cX12_mayStep 107 = .ok (.iaload, 1) := by decide +kernel
theorem dX12_mayStep_108 : decode cX12_mayStep 108 = .ok (.aload_n 0, 1) := by decide +kernel
theorem dX12_mayStep_109 : decode cX12_mayStep 109 = .ok (.getfield 79, 3) := by decide +kernel
theorem dX12_mayStep_112 : decode cX12_mayStep 112 = .ok (.iconst 3, 1) := by decide +kernel
theorem dX12_mayStep_113 : decode cX12_mayStep 113 = .ok (.aload_n 0, 1) := by decide +kernel
theorem dX12_mayStep_114 : decode cX12_mayStep 114 = .ok (.iload_n 2, 1) := by decide +kernel
theorem dX12_mayStep_115 : decode cX12_mayStep 115 = .ok (.invokevirtual 272, 3) := by decide +kernel
theorem dX12_mayStep_118 : decode cX12_mayStep 118 = .ok (.iadd, 1) := by decide +kernel
theorem dX12_mayStep_119 : decode cX12_mayStep 119 = .ok (.iaload, 1) := by decide +kernel
theorem dX12_mayStep_120 : decode cX12_mayStep 120 = .ok (.if_icmp .lt 7, 3) := by decide +kernel
theorem dX12_mayStep_123 : decode cX12_mayStep 123 = .ok (.iconst 1, 1) := by decide +kernel
theorem dX12_mayStep_124 : decode cX12_mayStep 124 = .ok (.goto 4, 3) := by decide +kernel
theorem dX12_mayStep_127 : decode cX12_mayStep 127 = .ok (.iconst 0, 1) := by decide +kernel
theorem dX12_mayStep_128 : decode cX12_mayStep 128 = .ok (.ireturn, 1) := by decide +kernel
theorem dX12_thick_0 : decode cX12_thick 0 = .ok (.iload_n 1, 1) := by decide +kernel
theorem dX12_thick_1 : decode cX12_thick 1 = .ok (.iconst 1, 1) := by decide +kernel
theorem dX12_thick_2 : decode cX12_thick 2 = .ok (.iadd, 1) := by decide +kernel
theorem dX12_thick_3 : decode cX12_thick 3 = .ok (.istore_n 2, 1) := by decide +kernel
theorem dX12_thick_4 : decode cX12_thick 4 = .ok (.iload_n 2, 1) := by decide +kernel
theorem dX12_thick_5 : decode cX12_thick 5 = .ok (.bipush 12, 2) := by decide +kernel
theorem dX12_thick_7 : decode cX12_thick 7 = .ok (.if_icmp .ge 24, 3) := by decide +kernel
theorem dX12_thick_10 : decode cX12_thick 10 = .ok (.aload_n 0, 1) := by decide +kernel
theorem dX12_thick_11 : decode cX12_thick 11 = .ok (.getfield 79, 3) := by decide +kernel
theorem dX12_thick_14 : decode cX12_thick 14 = .ok (.iload_n 1, 1) := by decide +kernel
theorem dX12_thick_15 : decode cX12_thick 15 = .ok (.iload_n 2, 1) := by decide +kernel
theorem dX12_thick_16 : decode cX12_thick 16 = .ok (.invokestatic 120, 3) := by decide +kernel
theorem dX12_thick_19 : decode cX12_thick 19 = .ok (.iconst 2, 1) := by decide +kernel
theorem dX12_thick_20 : decode cX12_thick 20 = .ok (.if_icmp .le 5, 3) := by decide +kernel
theorem dX12_thick_23 : decode cX12_thick 23 = .ok (.iload_n 2, 1) := by decide +kernel
theorem dX12_thick_24 : decode cX12_thick 24 = .ok (.ireturn, 1) := by decide +kernel
theorem dX12_thick_25 : decode cX12_thick 25 = .ok (.iinc 2 1, 3) := by decide +kernel
theorem dX12_thick_28 : decode cX12_thick 28 = .ok (.goto (-24), 3) := by decide +kernel
theorem dX12_thick_31 : decode cX12_thick 31 = .ok (.iconst (-1), 1) := by decide +kernel
theorem dX12_thick_32 : decode cX12_thick 32 = .ok (.ireturn, 1) := by decide +kernel
theorem dX12_one_0 : decode cX12_one 0 = .ok (.iconst 0, 1) := by decide +kernel
theorem dX12_one_1 : decode cX12_one 1 = .ok (.istore_n 2, 1) := by decide +kernel
theorem dX12_one_2 : decode cX12_one 2 = .ok (.aload_n 0, 1) := by decide +kernel
theorem dX12_one_3 : decode cX12_one 3 = .ok (.getfield 79, 3) := by decide +kernel
theorem dX12_one_6 : decode cX12_one 6 = .ok (.iload_n 1, 1) := by decide +kernel
theorem dX12_one_7 : decode cX12_one 7 = .ok (.iload_n 2, 1) := by decide +kernel
theorem dX12_one_8 : decode cX12_one 8 = .ok (.invokestatic 120, 3) := by decide +kernel
theorem dX12_one_11 : decode cX12_one 11 = .ok (.ifCond .ne 9, 3) := by decide +kernel
theorem dX12_one_14 : decode cX12_one 14 = .ok (.iinc 2 1, 3) := by decide +kernel
theorem dX12_one_17 : decode cX12_one 17 = .ok (.goto (-15), 3) := by decide +kernel
theorem dX12_one_20 : decode cX12_one 20 = .ok (.iload_n 2, 1) := by decide +kernel
theorem dX12_one_21 : decode cX12_one 21 = .ok (.ireturn, 1) := by decide +kernel
theorem dX12_other_0 : decode cX12_other 0 = .ok (.bipush 11, 2) := by decide +kernel
theorem dX12_other_2 : decode cX12_other 2 = .ok (.istore_n 2, 1) := by decide +kernel
theorem dX12_other_3 : decode cX12_other 3 = .ok (.aload_n 0, 1) := by decide +kernel
theorem dX12_other_4 : decode cX12_other 4 = .ok (.getfield 79, 3) := by decide +kernel
theorem dX12_other_7 : decode cX12_other 7 = .ok (.iload_n 1, 1) := by decide +kernel
theorem dX12_other_8 : decode cX12_other 8 = .ok (.iload_n 2, 1) := by decide +kernel
theorem dX12_other_9 : decode cX12_other 9 = .ok (.invokestatic 120, 3) := by decide +kernel
theorem dX12_other_12 : decode cX12_other 12 = .ok (.ifCond .ne 9, 3) := by decide +kernel
theorem dX12_other_15 : decode cX12_other 15 = .ok (.iinc 2 (-1), 3) := by decide +kernel
theorem dX12_other_18 : decode cX12_other 18 = .ok (.goto (-15), 3) := by decide +kernel
theorem dX12_other_21 : decode cX12_other 21 = .ok (.iload_n 2, 1) := by decide +kernel
theorem dX12_other_22 : decode cX12_other 22 = .ok (.ireturn, 1) := by decide +kernel
theorem dX12_steps_0 : decode cX12_steps 0 = .ok (.iconst 0, 1) := by decide +kernel
theorem dX12_steps_1 : decode cX12_steps 1 = .ok (.istore_n 1, 1) := by decide +kernel
theorem dX12_steps_2 : decode cX12_steps 2 = .ok (.iload_n 1, 1) := by decide +kernel
theorem dX12_steps_3 : decode cX12_steps 3 = .ok (.iconst 4, 1) := by decide +kernel
theorem dX12_steps_4 : decode cX12_steps 4 = .ok (.if_icmp .ge 137, 3) := by decide +kernel
theorem dX12_steps_7 : decode cX12_steps 7 = .ok (.aload_n 0, 1) := by decide +kernel
theorem dX12_steps_8 : decode cX12_steps 8 = .ok (.iload_n 1, 1) := by decide +kernel
theorem dX12_steps_9 : decode cX12_steps 9 = .ok (.invokevirtual 275, 3) := by decide +kernel
theorem dX12_steps_12 : decode cX12_steps 12 = .ok (.istore_n 2, 1) := by decide +kernel
theorem dX12_steps_13 : decode cX12_steps 13 = .ok (.iload_n 2, 1) := by decide +kernel
theorem dX12_steps_14 : decode cX12_steps 14 = .ok (.iconst (-1), 1) := by decide +kernel
theorem dX12_steps_15 : decode cX12_steps 15 = .ok (.if_icmp .ne 6, 3) := by decide +kernel
theorem dX12_steps_18 : decode cX12_steps 18 = .ok (.goto 117, 3) := by decide +kernel
theorem dX12_steps_21 : decode cX12_steps 21 = .ok (.iload_n 1, 1) := by decide +kernel
theorem dX12_steps_22 : decode cX12_steps 22 = .ok (.ifCond .ne 15, 3) := by decide +kernel
theorem dX12_steps_25 : decode cX12_steps 25 = .ok (.aload_n 0, 1) := by decide +kernel
theorem dX12_steps_26 : decode cX12_steps 26 = .ok (.getfield 79, 3) := by decide +kernel
theorem dX12_steps_29 : decode cX12_steps 29 = .ok (.iconst 2, 1) := by decide +kernel
theorem dX12_steps_30 : decode cX12_steps 30 = .ok (.dup2, 1) := by decide +kernel
theorem dX12_steps_31 : decode cX12_steps 31 = .ok (.iaload, 1) := by decide +kernel
theorem dX12_steps_32 : decode cX12_steps 32 = .ok (.iconst 1, 1) := by decide +kernel
theorem dX12_steps_33 : decode cX12_steps 33 = .ok (.iload_n 2, 1) := by decide +kernel
theorem dX12_steps_34 : decode cX12_steps 34 = .ok (.ishl, 1) := by decide +kernel
theorem dX12_steps_35 : decode cX12_steps 35 = .ok (.ior, 1) := by decide +kernel
theorem dX12_steps_36 : decode cX12_steps 36 = .ok (.iastore, 1) := by decide +kernel
theorem dX12_steps_37 : decode cX12_steps 37 = .ok (.iload_n 1, 1) := by decide +kernel
theorem dX12_steps_38 : decode cX12_steps 38 = .ok (.iconst 2, 1) := by decide +kernel
theorem dX12_steps_39 : decode cX12_steps 39 = .ok (.if_icmp .ne 34, 3) := by decide +kernel
theorem dX12_steps_42 : decode cX12_steps 42 = .ok (.aload_n 0, 1) := by decide +kernel
theorem dX12_steps_43 : decode cX12_steps 43 = .ok (.iload_n 2, 1) := by decide +kernel
theorem dX12_steps_44 : decode cX12_steps 44 = .ok (.invokevirtual 266, 3) := by decide +kernel
theorem dX12_steps_47 : decode cX12_steps 47 = .ok (.istore_n 3, 1) := by decide +kernel
theorem dX12_steps_48 : decode cX12_steps 48 = .ok (.aload_n 0, 1) := by decide +kernel
theorem dX12_steps_49 : decode cX12_steps 49 = .ok (.getfield 79, 3) := by decide +kernel
theorem dX12_steps_52 : decode cX12_steps 52 = .ok (.iload_n 2, 1) := by decide +kernel
theorem dX12_steps_53 : decode cX12_steps 53 = .ok (.iload_n 3, 1) := by decide +kernel
theorem dX12_steps_54 : decode cX12_steps 54 = .ok (.iconst 2, 1) := by decide +kernel
theorem dX12_steps_55 : decode cX12_steps 55 = .ok (.aload_n 0, 1) := by decide +kernel
theorem dX12_steps_56 : decode cX12_steps 56 = .ok (.getfield 79, 3) := by decide +kernel
theorem dX12_steps_59 : decode cX12_steps 59 = .ok (.iload_n 2, 1) := by decide +kernel
theorem dX12_steps_60 : decode cX12_steps 60 = .ok (.iload_n 3, 1) := by decide +kernel
theorem dX12_steps_61 : decode cX12_steps 61 = .ok (.invokestatic 120, 3) := by decide +kernel
theorem dX12_steps_64 : decode cX12_steps 64 = .ok (.isub, 1) := by decide +kernel
theorem dX12_steps_65 : decode cX12_steps 65 = .ok (.invokestatic 151, 3) := by decide +kernel
theorem dX12_steps_68 : decode cX12_steps 68 = .ok (.bipush 32, 2) := by decide +kernel
theorem dX12_steps_70 : decode cX12_steps 70 = .ok (.iload_n 2, 1) := by decide +kernel
theorem dX12_steps_71 : decode cX12_steps 71 = .ok (.iadd, 1) := by decide +kernel
theorem dX12_steps_72 : decode cX12_steps 72 = .ok (.ireturn, 1) := by decide +kernel
theorem dX12_steps_73 : decode cX12_steps 73 = .ok (.iload_n 1, 1) := by decide +kernel
theorem dX12_steps_74 : decode cX12_steps 74 = .ok (.iconst 3, 1) := by decide +kernel
theorem dX12_steps_75 : decode cX12_steps 75 = .ok (.if_icmp .ne 11, 3) := by decide +kernel
theorem dX12_steps_78 : decode cX12_steps 78 = .ok (.aload_n 0, 1) := by decide +kernel
theorem dX12_steps_79 : decode cX12_steps 79 = .ok (.iload_n 2, 1) := by decide +kernel
theorem dX12_steps_80 : decode cX12_steps 80 = .ok (.invokevirtual 269, 3) := by decide +kernel
theorem dX12_steps_83 : decode cX12_steps 83 = .ok (.goto 4, 3) := by decide +kernel
theorem dX12_steps_86 : decode cX12_steps 86 = .ok (.iconst 0, 1) := by decide +kernel
theorem dX12_steps_87 : decode cX12_steps 87 = .ok (.istore_n 3, 1) := by decide +kernel
theorem dX12_steps_88 : decode cX12_steps 88 = .ok (.iload_n 1, 1) := by decide +kernel
theorem dX12_steps_89 : decode cX12_steps 89 = .ok (.iconst 3, 1) := by decide +kernel
theorem dX12_steps_90 : decode cX12_steps 90 = .ok (.if_icmp .ne 11, 3) := by decide +kernel
theorem dX12_steps_93 : decode cX12_steps 93 = .ok (.aload_n 0, 1) := by decide +kernel
theorem dX12_steps_94 : decode cX12_steps 94 = .ok (.iload_n 2, 1) := by decide +kernel
theorem dX12_steps_95 : decode cX12_steps 95 = .ok (.invokevirtual 272, 3) := by decide +kernel
theorem dX12_steps_98 : decode cX12_steps 98 = .ok (.goto 4, 3) := by decide +kernel
theorem dX12_steps_101 : decode cX12_steps 101 = .ok (.iconst 0, 1) := by decide +kernel
theorem dX12_steps_102 : decode cX12_steps 102 = .ok (.istore 4, 2) := by decide +kernel
theorem dX12_steps_104 : decode cX12_steps 104 = .ok (.aload_n 0, 1) := by decide +kernel
theorem dX12_steps_105 : decode cX12_steps 105 = .ok (.getfield 79, 3) := by decide +kernel
theorem dX12_steps_108 : decode cX12_steps 108 = .ok (.iload_n 2, 1) := by decide +kernel
theorem dX12_steps_109 : decode cX12_steps 109 = .ok (.invokestatic 278, 3) := by decide +kernel
theorem dX12_steps_112 : decode cX12_steps 112 = .ok (.iload_n 1, 1) := by decide +kernel
theorem dX12_steps_113 : decode cX12_steps 113 = .ok (.iconst 3, 1) := by decide +kernel
theorem dX12_steps_114 : decode cX12_steps 114 = .ok (.if_icmp .ne 14, 3) := by decide +kernel
theorem dX12_steps_117 : decode cX12_steps 117 = .ok (.aload_n 0, 1) := by decide +kernel
theorem dX12_steps_118 : decode cX12_steps 118 = .ok (.getfield 79, 3) := by decide +kernel
theorem dX12_steps_121 : decode cX12_steps 121 = .ok (.iload_n 3, 1) := by decide +kernel
theorem dX12_steps_122 : decode cX12_steps 122 = .ok (.iload 4, 2) := by decide +kernel
theorem dX12_steps_124 : decode cX12_steps 124 = .ok (.iconst 1, 1) := by decide +kernel
theorem dX12_steps_125 : decode cX12_steps 125 = .ok (.invokestatic 151, 3) := by decide +kernel
theorem dX12_steps_128 : decode cX12_steps 128 = .ok (.bipush 16, 2) := by decide +kernel
theorem dX12_steps_130 : decode cX12_steps 130 = .ok (.iload_n 1, 1) := by decide +kernel
theorem dX12_steps_131 : decode cX12_steps 131 = .ok (.imul, 1) := by decide +kernel
theorem dX12_steps_132 : decode cX12_steps 132 = .ok (.iload_n 2, 1) := by decide +kernel
theorem dX12_steps_133 : decode cX12_steps 133 = .ok (.iadd, 1) := by decide +kernel
theorem dX12_steps_134 : decode cX12_steps 134 = .ok (.ireturn, 1) := by decide +kernel
theorem dX12_steps_135 : decode cX12_steps 135 = .ok (.iinc 1 1, 3) := by decide +kernel
theorem dX12_steps_138 : decode cX12_steps 138 = .ok (.goto (-136), 3) := by decide +kernel
theorem dX12_steps_141 : decode cX12_steps 141 = .ok (.iconst (-1), 1) := by decide +kernel
theorem dX12_steps_142 : decode cX12_steps 142 = .ok (.ireturn, 1) := by decide +kernel
theorem dX12_shrink_0 : decode cX12_shrink 0 = .ok (.aload_n 0, 1) := by decide +kernel
theorem dX12_shrink_1 : decode cX12_shrink 1 = .ok (.iconst 0, 1) := by decide +kernel
theorem dX12_shrink_2 : decode cX12_shrink 2 = .ok (.putfield 1, 3) := by decide +kernel
theorem dX12_shrink_5 : decode cX12_shrink 5 = .ok (.aload_n 0, 1) := by decide +kernel
theorem dX12_shrink_6 : decode cX12_shrink 6 = .ok (.getfield 79, 3) := by decide +kernel
theorem dX12_shrink_9 : decode cX12_shrink 9 = .ok (.iconst 0, 1) := by decide +kernel
theorem dX12_shrink_10 : decode cX12_shrink 10 = .ok (.aload_n 0, 1) := by decide +kernel
theorem dX12_shrink_11 : decode cX12_shrink 11 = .ok (.getfield 91, 3) := by decide +kernel
theorem dX12_shrink_14 : decode cX12_shrink 14 = .ok (.iconst 0, 1) := by decide +kernel
theorem dX12_shrink_15 : decode cX12_shrink 15 = .ok (.invokestatic 164, 3) := by decide +kernel
theorem dX12_shrink_18 : decode cX12_shrink 18 = .ok (.aload_n 0, 1) := by decide +kernel
theorem dX12_shrink_19 : decode cX12_shrink 19 = .ok (.invokevirtual 282, 3) := by decide +kernel
theorem dX12_shrink_22 : decode cX12_shrink 22 = .ok (.istore_n 1, 1) := by decide +kernel
theorem dX12_shrink_23 : decode cX12_shrink 23 = .ok (.iload_n 1, 1) := by decide +kernel
theorem dX12_shrink_24 : decode cX12_shrink 24 = .ok (.iconst (-1), 1) := by decide +kernel
theorem dX12_shrink_25 : decode cX12_shrink 25 = .ok (.if_icmp .eq 7, 3) := by decide +kernel
theorem dX12_shrink_28 : decode cX12_shrink 28 = .ok (.aload_n 0, 1) := by decide +kernel
theorem dX12_shrink_29 : decode cX12_shrink 29 = .ok (.invokevirtual 285, 3) := by decide +kernel
theorem dX12_shrink_32 : decode cX12_shrink 32 = .ok (.iload_n 1, 1) := by decide +kernel
theorem dX12_shrink_33 : decode cX12_shrink 33 = .ok (.ireturn, 1) := by decide +kernel
theorem dX12_shrinkAll_0 : decode cX12_shrinkAll 0 = .ok (.aload_n 0, 1) := by decide +kernel
theorem dX12_shrinkAll_1 : decode cX12_shrinkAll 1 = .ok (.iconst 0, 1) := by decide +kernel
theorem dX12_shrinkAll_2 : decode cX12_shrinkAll 2 = .ok (.putfield 1, 3) := by decide +kernel
theorem dX12_shrinkAll_5 : decode cX12_shrinkAll 5 = .ok (.aload_n 0, 1) := by decide +kernel
theorem dX12_shrinkAll_6 : decode cX12_shrinkAll 6 = .ok (.getfield 79, 3) := by decide +kernel
theorem dX12_shrinkAll_9 : decode cX12_shrinkAll 9 = .ok (.iconst 0, 1) := by decide +kernel
theorem dX12_shrinkAll_10 : decode cX12_shrinkAll 10 = .ok (.aload_n 0, 1) := by decide +kernel
theorem dX12_shrinkAll_11 : decode cX12_shrinkAll 11 = .ok (.getfield 91, 3) := by decide +kernel
theorem dX12_shrinkAll_14 : decode cX12_shrinkAll 14 = .ok (.iconst 0, 1) := by decide +kernel
theorem dX12_shrinkAll_15 : decode cX12_shrinkAll 15 = .ok (.invokestatic 164, 3) := by decide +kernel
theorem dX12_shrinkAll_18 : decode cX12_shrinkAll 18 = .ok (.iconst 0, 1) := by decide +kernel
theorem dX12_shrinkAll_19 : decode cX12_shrinkAll 19 = .ok (.istore_n 1, 1) := by decide +kernel
theorem dX12_shrinkAll_20 : decode cX12_shrinkAll 20 = .ok (.aload_n 0, 1) := by decide +kernel
theorem dX12_shrinkAll_21 : decode cX12_shrinkAll 21 = .ok (.invokevirtual 282, 3) := by decide +kernel
theorem dX12_shrinkAll_24 : decode cX12_shrinkAll 24 = .ok (.iconst (-1), 1) := by decide +kernel
theorem dX12_shrinkAll_25 : decode cX12_shrinkAll 25 = .ok (.if_icmp .eq 9, 3) := by decide +kernel
theorem dX12_shrinkAll_28 : decode cX12_shrinkAll 28 = .ok (.iinc 1 1, 3) := by decide +kernel
theorem dX12_shrinkAll_31 : decode cX12_shrinkAll 31 = .ok (.goto (-11), 3) := by decide +kernel
theorem dX12_shrinkAll_34 : decode cX12_shrinkAll 34 = .ok (.iload_n 1, 1) := by decide +kernel
theorem dX12_shrinkAll_35 : decode cX12_shrinkAll 35 = .ok (.ifCond .le 7, 3) := by decide +kernel
theorem dX12_shrinkAll_38 : decode cX12_shrinkAll 38 = .ok (.aload_n 0, 1) := by decide +kernel
theorem dX12_shrinkAll_39 : decode cX12_shrinkAll 39 = .ok (.invokevirtual 285, 3) := by decide +kernel
theorem dX12_shrinkAll_42 : decode cX12_shrinkAll 42 = .ok (.iload_n 1, 1) := by decide +kernel
theorem dX12_shrinkAll_43 : decode cX12_shrinkAll 43 = .ok (.ireturn, 1) := by decide +kernel
theorem dX12_drop_0 : decode cX12_drop 0 = .ok (.aload_n 0, 1) := by decide +kernel
theorem dX12_drop_1 : decode cX12_drop 1 = .ok (.iconst 0, 1) := by decide +kernel
theorem dX12_drop_2 : decode cX12_drop 2 = .ok (.putfield 1, 3) := by decide +kernel
theorem dX12_drop_5 : decode cX12_drop 5 = .ok (.aload_n 0, 1) := by decide +kernel
theorem dX12_drop_6 : decode cX12_drop 6 = .ok (.iload_n 1, 1) := by decide +kernel
theorem dX12_drop_7 : decode cX12_drop 7 = .ok (.invokevirtual 187, 3) := by decide +kernel
theorem dX12_drop_10 : decode cX12_drop 10 = .ok (.ifCond .ne 5, 3) := by decide +kernel
theorem dX12_drop_13 : decode cX12_drop 13 = .ok (.iconst (-1), 1) := by decide +kernel
theorem dX12_drop_14 : decode cX12_drop 14 = .ok (.ireturn, 1) := by decide +kernel
theorem dX12_drop_15 : decode cX12_drop 15 = .ok (.aload_n 0, 1) := by decide +kernel
theorem dX12_drop_16 : decode cX12_drop 16 = .ok (.invokevirtual 260, 3) := by decide +kernel
theorem dX12_drop_19 : decode cX12_drop 19 = .ok (.aload_n 0, 1) := by decide +kernel
theorem dX12_drop_20 : decode cX12_drop 20 = .ok (.getfield 79, 3) := by decide +kernel
theorem dX12_drop_23 : decode cX12_drop 23 = .ok (.iload_n 1, 1) := by decide +kernel
theorem dX12_drop_24 : decode cX12_drop 24 = .ok (.invokestatic 278, 3) := by decide +kernel
theorem dX12_drop_27 : decode cX12_drop 27 = .ok (.aload_n 0, 1) := by decide +kernel
theorem dX12_drop_28 : decode cX12_drop 28 = .ok (.invokevirtual 171, 3) := by decide +kernel
theorem dX12_drop_31 : decode cX12_drop 31 = .ok (.invokestatic 193, 3) := by decide +kernel
theorem dX12_drop_34 : decode cX12_drop 34 = .ok (.ireturn, 1) := by decide +kernel
theorem dX12_mayJoin_0 : decode cX12_mayJoin 0 = .ok (.aload_n 0, 1) := by decide +kernel
theorem dX12_mayJoin_1 : decode cX12_mayJoin 1 = .ok (.getfield 79, 3) := by decide +kernel
theorem dX12_mayJoin_4 : decode cX12_mayJoin 4 = .ok (.sipush 4095, 3) := by decide +kernel
theorem dX12_mayJoin_7 : decode cX12_mayJoin 7 = .ok (.invokestatic 144, 3) := by decide +kernel
theorem dX12_mayJoin_10 : decode cX12_mayJoin 10 = .ok (.bipush 20, 2) := by decide +kernel
theorem dX12_mayJoin_12 : decode cX12_mayJoin 12 = .ok (.if_icmp .ge 55, 3) := by decide +kernel
theorem dX12_mayJoin_15 : decode cX12_mayJoin 15 = .ok (.aload_n 0, 1) := by decide +kernel
theorem dX12_mayJoin_16 : decode cX12_mayJoin 16 = .ok (.getfield 79, 3) := by decide +kernel
theorem dX12_mayJoin_19 : decode cX12_mayJoin 19 = .ok (.iload_n 1, 1) := by decide +kernel
theorem dX12_mayJoin_20 : decode cX12_mayJoin 20 = .ok (.invokestatic 148, 3) := by decide +kernel
theorem dX12_mayJoin_23 : decode cX12_mayJoin 23 = .ok (.iload_n 1, 1) := by decide +kernel
theorem dX12_mayJoin_24 : decode cX12_mayJoin 24 = .ok (.iload_n 2, 1) := by decide +kernel
theorem dX12_mayJoin_25 : decode cX12_mayJoin 25 = .ok (.if_icmp .ne 7, 3) := by decide +kernel
theorem dX12_mayJoin_28 : decode cX12_mayJoin 28 = .ok (.iconst 2, 1) := by decide +kernel
theorem dX12_mayJoin_29 : decode cX12_mayJoin 29 = .ok (.goto 4, 3) := by decide +kernel
theorem dX12_mayJoin_32 : decode cX12_mayJoin 32 = .ok (.iconst 1, 1) := by decide +kernel
theorem dX12_mayJoin_33 : decode cX12_mayJoin 33 = .ok (.iadd, 1) := by decide +kernel
theorem dX12_mayJoin_34 : decode cX12_mayJoin 34 = .ok (.bipush 6, 2) := by decide +kernel
theorem dX12_mayJoin_36 : decode cX12_mayJoin 36 = .ok (.if_icmp .gt 31, 3) := by decide +kernel
theorem dX12_mayJoin_39 : decode cX12_mayJoin 39 = .ok (.aload_n 0, 1) := by decide +kernel
theorem dX12_mayJoin_40 : decode cX12_mayJoin 40 = .ok (.getfield 79, 3) := by decide +kernel
theorem dX12_mayJoin_43 : decode cX12_mayJoin 43 = .ok (.iload_n 2, 1) := by decide +kernel
theorem dX12_mayJoin_44 : decode cX12_mayJoin 44 = .ok (.invokestatic 148, 3) := by decide +kernel
theorem dX12_mayJoin_47 : decode cX12_mayJoin 47 = .ok (.iload_n 1, 1) := by decide +kernel
theorem dX12_mayJoin_48 : decode cX12_mayJoin 48 = .ok (.iload_n 2, 1) := by decide +kernel
theorem dX12_mayJoin_49 : decode cX12_mayJoin 49 = .ok (.if_icmp .ne 7, 3) := by decide +kernel
theorem dX12_mayJoin_52 : decode cX12_mayJoin 52 = .ok (.iconst 2, 1) := by decide +kernel
theorem dX12_mayJoin_53 : decode cX12_mayJoin 53 = .ok (.goto 4, 3) := by decide +kernel
theorem dX12_mayJoin_56 : decode cX12_mayJoin 56 = .ok (.iconst 1, 1) := by decide +kernel
theorem dX12_mayJoin_57 : decode cX12_mayJoin 57 = .ok (.iadd, 1) := by decide +kernel
theorem dX12_mayJoin_58 : decode cX12_mayJoin 58 = .ok (.bipush 6, 2) := by decide +kernel
theorem dX12_mayJoin_60 : decode cX12_mayJoin 60 = .ok (.if_icmp .gt 7, 3) := by decide +kernel
theorem dX12_mayJoin_63 : decode cX12_mayJoin 63 = .ok (.iconst 1, 1) := by decide +kernel
theorem dX12_mayJoin_64 : decode cX12_mayJoin 64 = .ok (.goto 4, 3) := by decide +kernel
theorem dX12_mayJoin_67 : decode cX12_mayJoin 67 = .ok (.iconst 0, 1) := by decide +kernel
theorem dX12_mayJoin_68 : decode cX12_mayJoin 68 = .ok (.ireturn, 1) := by decide +kernel
theorem dX12_join_0 : decode cX12_join 0 = .ok (.aload_n 0, 1) := by decide +kernel
theorem dX12_join_1 : decode cX12_join 1 = .ok (.iconst 0, 1) := by decide +kernel
theorem dX12_join_2 : decode cX12_join 2 = .ok (.putfield 1, 3) := by decide +kernel
theorem dX12_join_5 : decode cX12_join 5 = .ok (.aload_n 0, 1) := by decide +kernel
theorem dX12_join_6 : decode cX12_join 6 = .ok (.iload_n 1, 1) := by decide +kernel
theorem dX12_join_7 : decode cX12_join 7 = .ok (.invokevirtual 187, 3) := by decide +kernel
theorem dX12_join_10 : decode cX12_join 10 = .ok (.ifCond .eq 11, 3) := by decide +kernel
theorem dX12_join_13 : decode cX12_join 13 = .ok (.aload_n 0, 1) := by decide +kernel
theorem dX12_join_14 : decode cX12_join 14 = .ok (.iload_n 2, 1) := by decide +kernel
theorem dX12_join_15 : decode cX12_join 15 = .ok (.invokevirtual 187, 3) := by decide +kernel
theorem dX12_join_18 : decode cX12_join 18 = .ok (.ifCond .ne 5, 3) := by decide +kernel
theorem dX12_join_21 : decode cX12_join 21 = .ok (.iconst (-1), 1) := by decide +kernel
theorem dX12_join_22 : decode cX12_join 22 = .ok (.ireturn, 1) := by decide +kernel
theorem dX12_join_23 : decode cX12_join 23 = .ok (.aload_n 0, 1) := by decide +kernel
theorem dX12_join_24 : decode cX12_join 24 = .ok (.iload_n 1, 1) := by decide +kernel
theorem dX12_join_25 : decode cX12_join 25 = .ok (.iload_n 2, 1) := by decide +kernel
theorem dX12_join_26 : decode cX12_join 26 = .ok (.invokevirtual 288, 3) := by decide +kernel
theorem dX12_join_29 : decode cX12_join 29 = .ok (.ifCond .ne 6, 3) := by decide +kernel
theorem dX12_join_32 : decode cX12_join 32 = .ok (.bipush (-2), 2) := by decide +kernel
theorem dX12_join_34 : decode cX12_join 34 = .ok (.ireturn, 1) := by decide +kernel
theorem dX12_join_35 : decode cX12_join 35 = .ok (.aload_n 0, 1) := by decide +kernel
theorem dX12_join_36 : decode cX12_join 36 = .ok (.invokevirtual 260, 3) := by decide +kernel
theorem dX12_join_39 : decode cX12_join 39 = .ok (.aload_n 0, 1) := by decide +kernel
theorem dX12_join_40 : decode cX12_join 40 = .ok (.getfield 79, 3) := by decide +kernel
theorem dX12_join_43 : decode cX12_join 43 = .ok (.iload_n 1, 1) := by decide +kernel
theorem dX12_join_44 : decode cX12_join 44 = .ok (.iload_n 2, 1) := by decide +kernel
theorem dX12_join_45 : decode cX12_join 45 = .ok (.iconst 1, 1) := by decide +kernel
theorem dX12_join_46 : decode cX12_join 46 = .ok (.invokestatic 151, 3) := by decide +kernel
theorem dX12_join_49 : decode cX12_join 49 = .ok (.aload_n 0, 1) := by decide +kernel
theorem dX12_join_50 : decode cX12_join 50 = .ok (.getfield 79, 3) := by decide +kernel
theorem dX12_join_53 : decode cX12_join 53 = .ok (.iload_n 1, 1) := by decide +kernel
theorem dX12_join_54 : decode cX12_join 54 = .ok (.iload_n 2, 1) := by decide +kernel
theorem dX12_join_55 : decode cX12_join 55 = .ok (.invokestatic 120, 3) := by decide +kernel
theorem dX12_join_58 : decode cX12_join 58 = .ok (.ireturn, 1) := by decide +kernel
theorem dX12_part_0 : decode cX12_part 0 = .ok (.aload_n 0, 1) := by decide +kernel
theorem dX12_part_1 : decode cX12_part 1 = .ok (.iconst 0, 1) := by decide +kernel
theorem dX12_part_2 : decode cX12_part 2 = .ok (.putfield 1, 3) := by decide +kernel
theorem dX12_part_5 : decode cX12_part 5 = .ok (.aload_n 0, 1) := by decide +kernel
theorem dX12_part_6 : decode cX12_part 6 = .ok (.iload_n 1, 1) := by decide +kernel
theorem dX12_part_7 : decode cX12_part 7 = .ok (.invokevirtual 187, 3) := by decide +kernel
theorem dX12_part_10 : decode cX12_part 10 = .ok (.ifCond .eq 23, 3) := by decide +kernel
theorem dX12_part_13 : decode cX12_part 13 = .ok (.aload_n 0, 1) := by decide +kernel
theorem dX12_part_14 : decode cX12_part 14 = .ok (.iload_n 2, 1) := by decide +kernel
theorem dX12_part_15 : decode cX12_part 15 = .ok (.invokevirtual 187, 3) := by decide +kernel
theorem dX12_part_18 : decode cX12_part 18 = .ok (.ifCond .eq 15, 3) := by decide +kernel
theorem dX12_part_21 : decode cX12_part 21 = .ok (.aload_n 0, 1) := by decide +kernel
theorem dX12_part_22 : decode cX12_part 22 = .ok (.getfield 79, 3) := by decide +kernel
theorem dX12_part_25 : decode cX12_part 25 = .ok (.iload_n 1, 1) := by decide +kernel
theorem dX12_part_26 : decode cX12_part 26 = .ok (.iload_n 2, 1) := by decide +kernel
theorem dX12_part_27 : decode cX12_part 27 = .ok (.invokestatic 120, 3) := by decide +kernel
theorem dX12_part_30 : decode cX12_part 30 = .ok (.ifCond .ne 5, 3) := by decide +kernel
theorem dX12_part_33 : decode cX12_part 33 = .ok (.iconst (-1), 1) := by decide +kernel
theorem dX12_part_34 : decode cX12_part 34 = .ok (.ireturn, 1) := by decide +kernel
theorem dX12_part_35 : decode cX12_part 35 = .ok (.aload_n 0, 1) := by decide +kernel
theorem dX12_part_36 : decode cX12_part 36 = .ok (.invokevirtual 260, 3) := by decide +kernel
theorem dX12_part_39 : decode cX12_part 39 = .ok (.aload_n 0, 1) := by decide +kernel
theorem dX12_part_40 : decode cX12_part 40 = .ok (.getfield 79, 3) := by decide +kernel
theorem dX12_part_43 : decode cX12_part 43 = .ok (.iload_n 1, 1) := by decide +kernel
theorem dX12_part_44 : decode cX12_part 44 = .ok (.iload_n 2, 1) := by decide +kernel
theorem dX12_part_45 : decode cX12_part 45 = .ok (.iconst (-1), 1) := by decide +kernel
theorem dX12_part_46 : decode cX12_part 46 = .ok (.invokestatic 151, 3) := by decide +kernel
theorem dX12_part_49 : decode cX12_part 49 = .ok (.aload_n 0, 1) := by decide +kernel
theorem dX12_part_50 : decode cX12_part 50 = .ok (.getfield 79, 3) := by decide +kernel
theorem dX12_part_53 : decode cX12_part 53 = .ok (.iload_n 1, 1) := by decide +kernel
theorem dX12_part_54 : decode cX12_part 54 = .ok (.iload_n 2, 1) := by decide +kernel
theorem dX12_part_55 : decode cX12_part 55 = .ok (.invokestatic 120, 3) := by decide +kernel
theorem dX12_part_58 : decode cX12_part 58 = .ok (.ireturn, 1) := by decide +kernel
theorem dX12_weigh_0 : decode cX12_weigh 0 = .ok (.aload_n 0, 1) := by decide +kernel
theorem dX12_weigh_1 : decode cX12_weigh 1 = .ok (.iconst 0, 1) := by decide +kernel
theorem dX12_weigh_2 : decode cX12_weigh 2 = .ok (.putfield 1, 3) := by decide +kernel
theorem dX12_weigh_5 : decode cX12_weigh 5 = .ok (.aload_n 0, 1) := by decide +kernel
theorem dX12_weigh_6 : decode cX12_weigh 6 = .ok (.iload_n 1, 1) := by decide +kernel
theorem dX12_weigh_7 : decode cX12_weigh 7 = .ok (.invokevirtual 187, 3) := by decide +kernel
theorem dX12_weigh_10 : decode cX12_weigh 10 = .ok (.ifCond .eq 13, 3) := by decide +kernel
theorem dX12_weigh_13 : decode cX12_weigh 13 = .ok (.iload_n 2, 1) := by decide +kernel
theorem dX12_weigh_14 : decode cX12_weigh 14 = .ok (.iconst 1, 1) := by decide +kernel
theorem dX12_weigh_15 : decode cX12_weigh 15 = .ok (.bipush 9, 2) := by decide +kernel
theorem dX12_weigh_17 : decode cX12_weigh 17 = .ok (.invokestatic 140, 3) := by decide +kernel
theorem dX12_weigh_20 : decode cX12_weigh 20 = .ok (.ifCond .ne 5, 3) := by decide +kernel
theorem dX12_weigh_23 : decode cX12_weigh 23 = .ok (.iconst (-1), 1) := by decide +kernel
theorem dX12_weigh_24 : decode cX12_weigh 24 = .ok (.ireturn, 1) := by decide +kernel
theorem dX12_weigh_25 : decode cX12_weigh 25 = .ok (.aload_n 0, 1) := by decide +kernel
theorem dX12_weigh_26 : decode cX12_weigh 26 = .ok (.getfield 79, 3) := by decide +kernel
theorem dX12_weigh_29 : decode cX12_weigh 29 = .ok (.iconst 3, 1) := by decide +kernel
theorem dX12_weigh_30 : decode cX12_weigh 30 = .ok (.iload_n 1, 1) := by decide +kernel
theorem dX12_weigh_31 : decode cX12_weigh 31 = .ok (.iadd, 1) := by decide +kernel
theorem dX12_weigh_32 : decode cX12_weigh 32 = .ok (.iaload, 1) := by decide +kernel
theorem dX12_weigh_33 : decode cX12_weigh 33 = .ok (.iload_n 2, 1) := by decide +kernel
theorem dX12_weigh_34 : decode cX12_weigh 34 = .ok (.if_icmp .ne 5, 3) := by decide +kernel
theorem dX12_weigh_37 : decode cX12_weigh 37 = .ok (.iconst 1, 1) := by decide +kernel
theorem dX12_weigh_38 : decode cX12_weigh 38 = .ok (.ireturn, 1) := by decide +kernel
theorem dX12_weigh_39 : decode cX12_weigh 39 = .ok (.aload_n 0, 1) := by decide +kernel
theorem dX12_weigh_40 : decode cX12_weigh 40 = .ok (.invokevirtual 260, 3) := by decide +kernel
theorem dX12_weigh_43 : decode cX12_weigh 43 = .ok (.aload_n 0, 1) := by decide +kernel
theorem dX12_weigh_44 : decode cX12_weigh 44 = .ok (.getfield 79, 3) := by decide +kernel
theorem dX12_weigh_47 : decode cX12_weigh 47 = .ok (.iconst 3, 1) := by decide +kernel
theorem dX12_weigh_48 : decode cX12_weigh 48 = .ok (.iload_n 1, 1) := by decide +kernel
theorem dX12_weigh_49 : decode cX12_weigh 49 = .ok (.iadd, 1) := by decide +kernel
theorem dX12_weigh_50 : decode cX12_weigh 50 = .ok (.iload_n 2, 1) := by decide +kernel
theorem dX12_weigh_51 : decode cX12_weigh 51 = .ok (.iastore, 1) := by decide +kernel
theorem dX12_weigh_52 : decode cX12_weigh 52 = .ok (.iconst 0, 1) := by decide +kernel
theorem dX12_weigh_53 : decode cX12_weigh 53 = .ok (.ireturn, 1) := by decide +kernel
theorem dX12_draw_0 : decode cX12_draw 0 = .ok (.aload_n 0, 1) := by decide +kernel
theorem dX12_draw_1 : decode cX12_draw 1 = .ok (.aload_n 0, 1) := by decide +kernel
theorem dX12_draw_2 : decode cX12_draw 2 = .ok (.getfield 291, 3) := by decide +kernel
theorem dX12_draw_5 : decode cX12_draw 5 = .ok (.ldc_w 294, 3) := by decide +kernel
theorem dX12_draw_8 : decode cX12_draw 8 = .ok (.imul, 1) := by decide +kernel
theorem dX12_draw_9 : decode cX12_draw 9 = .ok (.sipush 12345, 3) := by decide +kernel
theorem dX12_draw_12 : decode cX12_draw 12 = .ok (.iadd, 1) := by decide +kernel
theorem dX12_draw_13 : decode cX12_draw 13 = .ok (.putfield 291, 3) := by decide +kernel
theorem dX12_draw_16 : decode cX12_draw 16 = .ok (.aload_n 0, 1) := by decide +kernel
theorem dX12_draw_17 : decode cX12_draw 17 = .ok (.getfield 291, 3) := by decide +kernel
theorem dX12_draw_20 : decode cX12_draw 20 = .ok (.bipush 8, 2) := by decide +kernel
theorem dX12_draw_22 : decode cX12_draw 22 = .ok (.iushr, 1) := by decide +kernel
theorem dX12_draw_23 : decode cX12_draw 23 = .ok (.iload_n 1, 1) := by decide +kernel
theorem dX12_draw_24 : decode cX12_draw 24 = .ok (.irem, 1) := by decide +kernel
theorem dX12_draw_25 : decode cX12_draw 25 = .ok (.ireturn, 1) := by decide +kernel
theorem dX12_does_0 : decode cX12_does 0 = .ok (.aload_n 0, 1) := by decide +kernel
theorem dX12_does_1 : decode cX12_does 1 = .ok (.bipush 8, 2) := by decide +kernel
theorem dX12_does_3 : decode cX12_does 3 = .ok (.invokevirtual 295, 3) := by decide +kernel
theorem dX12_does_6 : decode cX12_does 6 = .ok (.istore_n 1, 1) := by decide +kernel
theorem dX12_does_7 : decode cX12_does 7 = .ok (.aload_n 0, 1) := by decide +kernel
theorem dX12_does_8 : decode cX12_does 8 = .ok (.getfield 79, 3) := by decide +kernel
theorem dX12_does_11 : decode cX12_does 11 = .ok (.iconst 0, 1) := by decide +kernel
theorem dX12_does_12 : decode cX12_does 12 = .ok (.iaload, 1) := by decide +kernel
theorem dX12_does_13 : decode cX12_does 13 = .ok (.istore_n 2, 1) := by decide +kernel
theorem dX12_does_14 : decode cX12_does 14 = .ok (.iload_n 2, 1) := by decide +kernel
theorem dX12_does_15 : decode cX12_does 15 = .ok (.ifCond .ne 5, 3) := by decide +kernel
theorem dX12_does_18 : decode cX12_does 18 = .ok (.iconst 0, 1) := by decide +kernel
theorem dX12_does_19 : decode cX12_does 19 = .ok (.ireturn, 1) := by decide +kernel
theorem dX12_does_20 : decode cX12_does 20 = .ok (.aload_n 0, 1) := by decide +kernel
theorem dX12_does_21 : decode cX12_does 21 = .ok (.iload_n 2, 1) := by decide +kernel
theorem dX12_does_22 : decode cX12_does 22 = .ok (.invokevirtual 295, 3) := by decide +kernel
theorem dX12_does_25 : decode cX12_does 25 = .ok (.istore_n 3, 1) := by decide +kernel
theorem dX12_does_26 : decode cX12_does 26 = .ok (.iload_n 1, 1) := by decide +kernel
theorem dX12_does_27 : decode cX12_does 27 = .ok (.ifCond .ne 23, 3) := by decide +kernel
theorem dX12_does_30 : decode cX12_does 30 = .ok (.aload_n 0, 1) := by decide +kernel
theorem dX12_does_31 : decode cX12_does 31 = .ok (.iload_n 3, 1) := by decide +kernel
theorem dX12_does_32 : decode cX12_does 32 = .ok (.invokevirtual 187, 3) := by decide +kernel
theorem dX12_does_35 : decode cX12_does 35 = .ok (.ifCond .ne 5, 3) := by decide +kernel
theorem dX12_does_38 : decode cX12_does 38 = .ok (.iconst 0, 1) := by decide +kernel
theorem dX12_does_39 : decode cX12_does 39 = .ok (.ireturn, 1) := by decide +kernel
theorem dX12_does_40 : decode cX12_does 40 = .ok (.aload_n 0, 1) := by decide +kernel
theorem dX12_does_41 : decode cX12_does 41 = .ok (.getfield 79, 3) := by decide +kernel
theorem dX12_does_44 : decode cX12_does 44 = .ok (.iload_n 3, 1) := by decide +kernel
theorem dX12_does_45 : decode cX12_does 45 = .ok (.invokestatic 278, 3) := by decide +kernel
theorem dX12_does_48 : decode cX12_does 48 = .ok (.iconst 1, 1) := by decide +kernel
theorem dX12_does_49 : decode cX12_does 49 = .ok (.ireturn, 1) := by decide +kernel
theorem dX12_does_50 : decode cX12_does 50 = .ok (.iload_n 1, 1) := by decide +kernel
theorem dX12_does_51 : decode cX12_does 51 = .ok (.iconst 1, 1) := by decide +kernel
theorem dX12_does_52 : decode cX12_does 52 = .ok (.if_icmp .ne 48, 3) := by decide +kernel
theorem dX12_does_55 : decode cX12_does 55 = .ok (.aload_n 0, 1) := by decide +kernel
theorem dX12_does_56 : decode cX12_does 56 = .ok (.bipush 9, 2) := by decide +kernel
theorem dX12_does_58 : decode cX12_does 58 = .ok (.invokevirtual 295, 3) := by decide +kernel
theorem dX12_does_61 : decode cX12_does 61 = .ok (.iconst 1, 1) := by decide +kernel
theorem dX12_does_62 : decode cX12_does 62 = .ok (.iadd, 1) := by decide +kernel
theorem dX12_does_63 : decode cX12_does 63 = .ok (.istore 4, 2) := by decide +kernel
theorem dX12_does_65 : decode cX12_does 65 = .ok (.aload_n 0, 1) := by decide +kernel
theorem dX12_does_66 : decode cX12_does 66 = .ok (.iload_n 3, 1) := by decide +kernel
theorem dX12_does_67 : decode cX12_does 67 = .ok (.invokevirtual 187, 3) := by decide +kernel
theorem dX12_does_70 : decode cX12_does 70 = .ok (.ifCond .eq 16, 3) := by decide +kernel
theorem dX12_does_73 : decode cX12_does 73 = .ok (.aload_n 0, 1) := by decide +kernel
theorem dX12_does_74 : decode cX12_does 74 = .ok (.getfield 79, 3) := by decide +kernel
theorem dX12_does_77 : decode cX12_does 77 = .ok (.iconst 3, 1) := by decide +kernel
theorem dX12_does_78 : decode cX12_does 78 = .ok (.iload_n 3, 1) := by decide +kernel
theorem dX12_does_79 : decode cX12_does 79 = .ok (.iadd, 1) := by decide +kernel
theorem dX12_does_80 : decode cX12_does 80 = .ok (.iaload, 1) := by decide +kernel
theorem dX12_does_81 : decode cX12_does 81 = .ok (.iload 4, 2) := by decide +kernel
theorem dX12_does_83 : decode cX12_does 83 = .ok (.if_icmp .ne 5, 3) := by decide +kernel
theorem dX12_does_86 : decode cX12_does 86 = .ok (.iconst 0, 1) := by decide +kernel
theorem dX12_does_87 : decode cX12_does 87 = .ok (.ireturn, 1) := by decide +kernel
theorem dX12_does_88 : decode cX12_does 88 = .ok (.aload_n 0, 1) := by decide +kernel
theorem dX12_does_89 : decode cX12_does 89 = .ok (.getfield 79, 3) := by decide +kernel
theorem dX12_does_92 : decode cX12_does 92 = .ok (.iconst 3, 1) := by decide +kernel
theorem dX12_does_93 : decode cX12_does 93 = .ok (.iload_n 3, 1) := by decide +kernel
theorem dX12_does_94 : decode cX12_does 94 = .ok (.iadd, 1) := by decide +kernel
theorem dX12_does_95 : decode cX12_does 95 = .ok (.iload 4, 2) := by decide +kernel
theorem dX12_does_97 : decode cX12_does 97 = .ok (.iastore, 1) := by decide +kernel
theorem dX12_does_98 : decode cX12_does 98 = .ok (.iconst 1, 1) := by decide +kernel
theorem dX12_does_99 : decode cX12_does 99 = .ok (.ireturn, 1) := by decide +kernel
theorem dX12_does_100 : decode cX12_does 100 = .ok (.aload_n 0, 1) := by decide +kernel
theorem dX12_does_101 : decode cX12_does 101 = .ok (.iload_n 2, 1) := by decide +kernel
theorem dX12_does_102 : decode cX12_does 102 = .ok (.invokevirtual 295, 3) := by decide +kernel
theorem dX12_does_105 : decode cX12_does 105 = .ok (.istore 4, 2) := by decide +kernel
theorem dX12_does_107 : decode cX12_does 107 = .ok (.aload_n 0, 1) := by decide +kernel
theorem dX12_does_108 : decode cX12_does 108 = .ok (.iload_n 3, 1) := by decide +kernel
theorem dX12_does_109 : decode cX12_does 109 = .ok (.invokevirtual 187, 3) := by decide +kernel
theorem dX12_does_112 : decode cX12_does 112 = .ok (.ifCond .eq 43, 3) := by decide +kernel
theorem dX12_does_115 : decode cX12_does 115 = .ok (.aload_n 0, 1) := by decide +kernel
theorem dX12_does_116 : decode cX12_does 116 = .ok (.iload 4, 2) := by decide +kernel
theorem dX12_does_118 : decode cX12_does 118 = .ok (.invokevirtual 187, 3) := by decide +kernel
theorem dX12_does_121 : decode cX12_does 121 = .ok (.ifCond .eq 34, 3) := by decide +kernel
theorem dX12_does_124 : decode cX12_does 124 = .ok (.iload_n 1, 1) := by decide +kernel
theorem dX12_does_125 : decode cX12_does 125 = .ok (.iconst 2, 1) := by decide +kernel
theorem dX12_does_126 : decode cX12_does 126 = .ok (.if_icmp .ne 19, 3) := by decide +kernel
theorem dX12_does_129 : decode cX12_does 129 = .ok (.aload_n 0, 1) := by decide +kernel
theorem dX12_does_130 : decode cX12_does 130 = .ok (.getfield 79, 3) := by decide +kernel
theorem dX12_does_133 : decode cX12_does 133 = .ok (.iload_n 3, 1) := by decide +kernel
theorem dX12_does_134 : decode cX12_does 134 = .ok (.iload 4, 2) := by decide +kernel
theorem dX12_does_136 : decode cX12_does 136 = .ok (.invokestatic 120, 3) := by decide +kernel
theorem dX12_does_139 : decode cX12_does 139 = .ok (.ifCond .ne 18, 3) := by decide +kernel
theorem dX12_does_142 : decode cX12_does 142 = .ok (.goto 13, 3) := by decide +kernel
theorem dX12_does_145 : decode cX12_does 145 = .ok (.aload_n 0, 1) := by decide +kernel
theorem dX12_does_146 : decode cX12_does 146 = .ok (.iload_n 3, 1) := by decide +kernel
theorem dX12_does_147 : decode cX12_does 147 = .ok (.iload 4, 2) := by decide +kernel
theorem dX12_does_149 : decode cX12_does 149 = .ok (.invokevirtual 288, 3) := by decide +kernel
theorem dX12_does_152 : decode cX12_does 152 = .ok (.ifCond .ne 5, 3) := by decide +kernel
theorem dX12_does_155 : decode cX12_does 155 = .ok (.iconst 0, 1) := by decide +kernel
theorem dX12_does_156 : decode cX12_does 156 = .ok (.ireturn, 1) := by decide +kernel
theorem dX12_does_157 : decode cX12_does 157 = .ok (.aload_n 0, 1) := by decide +kernel
theorem dX12_does_158 : decode cX12_does 158 = .ok (.getfield 79, 3) := by decide +kernel
theorem dX12_does_161 : decode cX12_does 161 = .ok (.iload_n 3, 1) := by decide +kernel
theorem dX12_does_162 : decode cX12_does 162 = .ok (.iload 4, 2) := by decide +kernel
theorem dX12_does_164 : decode cX12_does 164 = .ok (.iload_n 1, 1) := by decide +kernel
theorem dX12_does_165 : decode cX12_does 165 = .ok (.iconst 2, 1) := by decide +kernel
theorem dX12_does_166 : decode cX12_does 166 = .ok (.if_icmp .ne 7, 3) := by decide +kernel
theorem dX12_does_169 : decode cX12_does 169 = .ok (.iconst (-1), 1) := by decide +kernel
theorem dX12_does_170 : decode cX12_does 170 = .ok (.goto 4, 3) := by decide +kernel
theorem dX12_does_173 : decode cX12_does 173 = .ok (.iconst 1, 1) := by decide +kernel
theorem dX12_does_174 : decode cX12_does 174 = .ok (.invokestatic 151, 3) := by decide +kernel
theorem dX12_does_177 : decode cX12_does 177 = .ok (.iconst 1, 1) := by decide +kernel
theorem dX12_does_178 : decode cX12_does 178 = .ok (.ireturn, 1) := by decide +kernel
theorem dX12_drawn_0 : decode cX12_drawn 0 = .ok (.aload_n 0, 1) := by decide +kernel
theorem dX12_drawn_1 : decode cX12_drawn 1 = .ok (.iconst 0, 1) := by decide +kernel
theorem dX12_drawn_2 : decode cX12_drawn 2 = .ok (.putfield 1, 3) := by decide +kernel
theorem dX12_drawn_5 : decode cX12_drawn 5 = .ok (.iload_n 1, 1) := by decide +kernel
theorem dX12_drawn_6 : decode cX12_drawn 6 = .ok (.iconst 1, 1) := by decide +kernel
theorem dX12_drawn_7 : decode cX12_drawn 7 = .ok (.bipush 60, 2) := by decide +kernel
theorem dX12_drawn_9 : decode cX12_drawn 9 = .ok (.invokestatic 140, 3) := by decide +kernel
theorem dX12_drawn_12 : decode cX12_drawn 12 = .ok (.ifCond .ne 5, 3) := by decide +kernel
theorem dX12_drawn_15 : decode cX12_drawn 15 = .ok (.iconst (-1), 1) := by decide +kernel
theorem dX12_drawn_16 : decode cX12_drawn 16 = .ok (.ireturn, 1) := by decide +kernel
theorem dX12_drawn_17 : decode cX12_drawn 17 = .ok (.aload_n 0, 1) := by decide +kernel
theorem dX12_drawn_18 : decode cX12_drawn 18 = .ok (.getfield 79, 3) := by decide +kernel
theorem dX12_drawn_21 : decode cX12_drawn 21 = .ok (.iconst 0, 1) := by decide +kernel
theorem dX12_drawn_22 : decode cX12_drawn 22 = .ok (.aload_n 0, 1) := by decide +kernel
theorem dX12_drawn_23 : decode cX12_drawn 23 = .ok (.getfield 91, 3) := by decide +kernel
theorem dX12_drawn_26 : decode cX12_drawn 26 = .ok (.iconst 0, 1) := by decide +kernel
theorem dX12_drawn_27 : decode cX12_drawn 27 = .ok (.invokestatic 164, 3) := by decide +kernel
theorem dX12_drawn_30 : decode cX12_drawn 30 = .ok (.aload_n 0, 1) := by decide +kernel
theorem dX12_drawn_31 : decode cX12_drawn 31 = .ok (.iload_n 2, 1) := by decide +kernel
theorem dX12_drawn_32 : decode cX12_drawn 32 = .ok (.putfield 291, 3) := by decide +kernel
theorem dX12_drawn_35 : decode cX12_drawn 35 = .ok (.iconst 0, 1) := by decide +kernel
theorem dX12_drawn_36 : decode cX12_drawn 36 = .ok (.istore_n 3, 1) := by decide +kernel
theorem dX12_drawn_37 : decode cX12_drawn 37 = .ok (.iconst 0, 1) := by decide +kernel
theorem dX12_drawn_38 : decode cX12_drawn 38 = .ok (.istore 4, 2) := by decide +kernel
theorem dX12_drawn_40 : decode cX12_drawn 40 = .ok (.iload 4, 2) := by decide +kernel
theorem dX12_drawn_42 : decode cX12_drawn 42 = .ok (.iload_n 1, 1) := by decide +kernel
theorem dX12_drawn_43 : decode cX12_drawn 43 = .ok (.if_icmp .ge 19, 3) := by decide +kernel
theorem dX12_drawn_46 : decode cX12_drawn 46 = .ok (.aload_n 0, 1) := by decide +kernel
theorem dX12_drawn_47 : decode cX12_drawn 47 = .ok (.invokevirtual 298, 3) := by decide +kernel
theorem dX12_drawn_50 : decode cX12_drawn 50 = .ok (.ifCond .eq 6, 3) := by decide +kernel
theorem dX12_drawn_53 : decode cX12_drawn 53 = .ok (.iinc 3 1, 3) := by decide +kernel
theorem dX12_drawn_56 : decode cX12_drawn 56 = .ok (.iinc 4 1, 3) := by decide +kernel
theorem dX12_drawn_59 : decode cX12_drawn 59 = .ok (.goto (-19), 3) := by decide +kernel
theorem dX12_drawn_62 : decode cX12_drawn 62 = .ok (.iload_n 3, 1) := by decide +kernel
theorem dX12_drawn_63 : decode cX12_drawn 63 = .ok (.ifCond .le 7, 3) := by decide +kernel
theorem dX12_drawn_66 : decode cX12_drawn 66 = .ok (.aload_n 0, 1) := by decide +kernel
theorem dX12_drawn_67 : decode cX12_drawn 67 = .ok (.invokevirtual 285, 3) := by decide +kernel
theorem dX12_drawn_70 : decode cX12_drawn 70 = .ok (.iload_n 3, 1) := by decide +kernel
theorem dX12_drawn_71 : decode cX12_drawn 71 = .ok (.ireturn, 1) := by decide +kernel
theorem dX12_undo_0 : decode cX12_undo 0 = .ok (.aload_n 0, 1) := by decide +kernel
theorem dX12_undo_1 : decode cX12_undo 1 = .ok (.iconst 0, 1) := by decide +kernel
theorem dX12_undo_2 : decode cX12_undo 2 = .ok (.putfield 1, 3) := by decide +kernel
theorem dX12_undo_5 : decode cX12_undo 5 = .ok (.aload_n 0, 1) := by decide +kernel
theorem dX12_undo_6 : decode cX12_undo 6 = .ok (.getfield 168, 3) := by decide +kernel
theorem dX12_undo_9 : decode cX12_undo 9 = .ok (.ifCond .ne 5, 3) := by decide +kernel
theorem dX12_undo_12 : decode cX12_undo 12 = .ok (.iconst (-1), 1) := by decide +kernel
theorem dX12_undo_13 : decode cX12_undo 13 = .ok (.ireturn, 1) := by decide +kernel
theorem dX12_undo_14 : decode cX12_undo 14 = .ok (.aload_n 0, 1) := by decide +kernel
theorem dX12_undo_15 : decode cX12_undo 15 = .ok (.dup, 1) := by decide +kernel
theorem dX12_undo_16 : decode cX12_undo 16 = .ok (.getfield 168, 3) := by decide +kernel
theorem dX12_undo_19 : decode cX12_undo 19 = .ok (.iconst 1, 1) := by decide +kernel
theorem dX12_undo_20 : decode cX12_undo 20 = .ok (.isub, 1) := by decide +kernel
theorem dX12_undo_21 : decode cX12_undo 21 = .ok (.putfield 168, 3) := by decide +kernel
theorem dX12_undo_24 : decode cX12_undo 24 = .ok (.aload_n 0, 1) := by decide +kernel
theorem dX12_undo_25 : decode cX12_undo 25 = .ok (.getfield 88, 3) := by decide +kernel
theorem dX12_undo_28 : decode cX12_undo 28 = .ok (.sipush 159, 3) := by decide +kernel
theorem dX12_undo_31 : decode cX12_undo 31 = .ok (.aload_n 0, 1) := by decide +kernel
theorem dX12_undo_32 : decode cX12_undo 32 = .ok (.getfield 168, 3) := by decide +kernel
theorem dX12_undo_35 : decode cX12_undo 35 = .ok (.imul, 1) := by decide +kernel
theorem dX12_undo_36 : decode cX12_undo 36 = .ok (.aload_n 0, 1) := by decide +kernel
theorem dX12_undo_37 : decode cX12_undo 37 = .ok (.getfield 79, 3) := by decide +kernel
theorem dX12_undo_40 : decode cX12_undo 40 = .ok (.iconst 0, 1) := by decide +kernel
theorem dX12_undo_41 : decode cX12_undo 41 = .ok (.invokestatic 164, 3) := by decide +kernel
theorem dX12_undo_44 : decode cX12_undo 44 = .ok (.aload_n 0, 1) := by decide +kernel
theorem dX12_undo_45 : decode cX12_undo 45 = .ok (.getfield 168, 3) := by decide +kernel
theorem dX12_undo_48 : decode cX12_undo 48 = .ok (.ireturn, 1) := by decide +kernel
theorem dX12_image_0 : decode cX12_image 0 = .ok (.aload_n 0, 1) := by decide +kernel
theorem dX12_image_1 : decode cX12_image 1 = .ok (.iconst 0, 1) := by decide +kernel
theorem dX12_image_2 : decode cX12_image 2 = .ok (.putfield 1, 3) := by decide +kernel
theorem dX12_image_5 : decode cX12_image 5 = .ok (.iload_n 1, 1) := by decide +kernel
theorem dX12_image_6 : decode cX12_image 6 = .ok (.iconst 0, 1) := by decide +kernel
theorem dX12_image_7 : decode cX12_image 7 = .ok (.iconst 1, 1) := by decide +kernel
theorem dX12_image_8 : decode cX12_image 8 = .ok (.invokestatic 140, 3) := by decide +kernel
theorem dX12_image_11 : decode cX12_image 11 = .ok (.ifCond .ne 5, 3) := by decide +kernel
theorem dX12_image_14 : decode cX12_image 14 = .ok (.iconst 0, 1) := by decide +kernel
theorem dX12_image_15 : decode cX12_image 15 = .ok (.ireturn, 1) := by decide +kernel
theorem dX12_image_16 : decode cX12_image 16 = .ok (.aload_n 0, 1) := by decide +kernel
theorem dX12_image_17 : decode cX12_image 17 = .ok (.getfield 79, 3) := by decide +kernel
theorem dX12_image_20 : decode cX12_image 20 = .ok (.iconst 0, 1) := by decide +kernel
theorem dX12_image_21 : decode cX12_image 21 = .ok (.aload_n 0, 1) := by decide +kernel
theorem dX12_image_22 : decode cX12_image 22 = .ok (.getfield 85, 3) := by decide +kernel
theorem dX12_image_25 : decode cX12_image 25 = .ok (.sipush 159, 3) := by decide +kernel
theorem dX12_image_28 : decode cX12_image 28 = .ok (.iload_n 1, 1) := by decide +kernel
theorem dX12_image_29 : decode cX12_image 29 = .ok (.imul, 1) := by decide +kernel
theorem dX12_image_30 : decode cX12_image 30 = .ok (.invokestatic 164, 3) := by decide +kernel
theorem dX12_image_33 : decode cX12_image 33 = .ok (.aload_n 0, 1) := by decide +kernel
theorem dX12_image_34 : decode cX12_image 34 = .ok (.getfield 101, 3) := by decide +kernel
theorem dX12_image_37 : decode cX12_image 37 = .ok (.iload_n 1, 1) := by decide +kernel
theorem dX12_image_38 : decode cX12_image 38 = .ok (.iconst 1, 1) := by decide +kernel
theorem dX12_image_39 : decode cX12_image 39 = .ok (.bastore, 1) := by decide +kernel
theorem dX12_image_40 : decode cX12_image 40 = .ok (.iconst 1, 1) := by decide +kernel
theorem dX12_image_41 : decode cX12_image 41 = .ok (.ireturn, 1) := by decide +kernel
theorem dX12_restore_0 : decode cX12_restore 0 = .ok (.aload_n 0, 1) := by decide +kernel
theorem dX12_restore_1 : decode cX12_restore 1 = .ok (.iconst 0, 1) := by decide +kernel
theorem dX12_restore_2 : decode cX12_restore 2 = .ok (.putfield 1, 3) := by decide +kernel
theorem dX12_restore_5 : decode cX12_restore 5 = .ok (.iload_n 1, 1) := by decide +kernel
theorem dX12_restore_6 : decode cX12_restore 6 = .ok (.iconst 0, 1) := by decide +kernel
theorem dX12_restore_7 : decode cX12_restore 7 = .ok (.iconst 1, 1) := by decide +kernel
theorem dX12_restore_8 : decode cX12_restore 8 = .ok (.invokestatic 140, 3) := by decide +kernel
theorem dX12_restore_11 : decode cX12_restore 11 = .ok (.ifCond .eq 12, 3) := by decide +kernel
theorem dX12_restore_14 : decode cX12_restore 14 = .ok (.aload_n 0, 1) := by decide +kernel
theorem dX12_restore_15 : decode cX12_restore 15 = .ok (.getfield 101, 3) := by decide +kernel
theorem dX12_restore_18 : decode cX12_restore 18 = .ok (.iload_n 1, 1) := by decide +kernel
theorem dX12_restore_19 : decode cX12_restore 19 = .ok (.baload, 1) := by decide +kernel
theorem dX12_restore_20 : decode cX12_restore 20 = .ok (.ifCond .ne 5, 3) := by decide +kernel
theorem dX12_restore_23 : decode cX12_restore 23 = .ok (.iconst 0, 1) := by decide +kernel
theorem dX12_restore_24 : decode cX12_restore 24 = .ok (.ireturn, 1) := by decide +kernel
theorem dX12_restore_25 : decode cX12_restore 25 = .ok (.aload_n 0, 1) := by decide +kernel
theorem dX12_restore_26 : decode cX12_restore 26 = .ok (.getfield 85, 3) := by decide +kernel
theorem dX12_restore_29 : decode cX12_restore 29 = .ok (.sipush 159, 3) := by decide +kernel
theorem dX12_restore_32 : decode cX12_restore 32 = .ok (.iload_n 1, 1) := by decide +kernel
theorem dX12_restore_33 : decode cX12_restore 33 = .ok (.imul, 1) := by decide +kernel
theorem dX12_restore_34 : decode cX12_restore 34 = .ok (.aload_n 0, 1) := by decide +kernel
theorem dX12_restore_35 : decode cX12_restore 35 = .ok (.getfield 79, 3) := by decide +kernel
theorem dX12_restore_38 : decode cX12_restore 38 = .ok (.iconst 0, 1) := by decide +kernel
theorem dX12_restore_39 : decode cX12_restore 39 = .ok (.invokestatic 164, 3) := by decide +kernel
theorem dX12_restore_42 : decode cX12_restore 42 = .ok (.aload_n 0, 1) := by decide +kernel
theorem dX12_restore_43 : decode cX12_restore 43 = .ok (.iconst 0, 1) := by decide +kernel
theorem dX12_restore_44 : decode cX12_restore 44 = .ok (.putfield 168, 3) := by decide +kernel
theorem dX12_restore_47 : decode cX12_restore 47 = .ok (.iconst 1, 1) := by decide +kernel
theorem dX12_restore_48 : decode cX12_restore 48 = .ok (.ireturn, 1) := by decide +kernel
theorem dJ6_bitCount_0f7a4_0 : decode cJ6_bitCount_0f7a4 0 = .ok (.iload_n 0, 1) := by decide +kernel
theorem dJ6_bitCount_0f7a4_1 : decode cJ6_bitCount_0f7a4 1 = .ok (.iload_n 0, 1) := by decide +kernel
theorem dJ6_bitCount_0f7a4_2 : decode cJ6_bitCount_0f7a4 2 = .ok (.iconst 1, 1) := by decide +kernel
theorem dJ6_bitCount_0f7a4_3 : decode cJ6_bitCount_0f7a4 3 = .ok (.iushr, 1) := by decide +kernel
theorem dJ6_bitCount_0f7a4_4 : decode cJ6_bitCount_0f7a4 4 = .ok (.ldc_w 265, 3) := by decide +kernel
theorem dJ6_bitCount_0f7a4_7 : decode cJ6_bitCount_0f7a4 7 = .ok (.iand, 1) := by decide +kernel
theorem dJ6_bitCount_0f7a4_8 : decode cJ6_bitCount_0f7a4 8 = .ok (.isub, 1) := by decide +kernel
theorem dJ6_bitCount_0f7a4_9 : decode cJ6_bitCount_0f7a4 9 = .ok (.istore_n 0, 1) := by decide +kernel
theorem dJ6_bitCount_0f7a4_10 : decode cJ6_bitCount_0f7a4 10 = .ok (.iload_n 0, 1) := by decide +kernel
theorem dJ6_bitCount_0f7a4_11 : decode cJ6_bitCount_0f7a4 11 = .ok (.ldc_w 266, 3) := by decide +kernel
theorem dJ6_bitCount_0f7a4_14 : decode cJ6_bitCount_0f7a4 14 = .ok (.iand, 1) := by decide +kernel
theorem dJ6_bitCount_0f7a4_15 : decode cJ6_bitCount_0f7a4 15 = .ok (.iload_n 0, 1) := by decide +kernel
theorem dJ6_bitCount_0f7a4_16 : decode cJ6_bitCount_0f7a4 16 = .ok (.iconst 2, 1) := by decide +kernel
theorem dJ6_bitCount_0f7a4_17 : decode cJ6_bitCount_0f7a4 17 = .ok (.iushr, 1) := by decide +kernel
theorem dJ6_bitCount_0f7a4_18 : decode cJ6_bitCount_0f7a4 18 = .ok (.ldc_w 266, 3) := by decide +kernel
theorem dJ6_bitCount_0f7a4_21 : decode cJ6_bitCount_0f7a4 21 = .ok (.iand, 1) := by decide +kernel
theorem dJ6_bitCount_0f7a4_22 : decode cJ6_bitCount_0f7a4 22 = .ok (.iadd, 1) := by decide +kernel
theorem dJ6_bitCount_0f7a4_23 : decode cJ6_bitCount_0f7a4 23 = .ok (.istore_n 0, 1) := by decide +kernel
theorem dJ6_bitCount_0f7a4_24 : decode cJ6_bitCount_0f7a4 24 = .ok (.iload_n 0, 1) := by decide +kernel
theorem dJ6_bitCount_0f7a4_25 : decode cJ6_bitCount_0f7a4 25 = .ok (.iload_n 0, 1) := by decide +kernel
theorem dJ6_bitCount_0f7a4_26 : decode cJ6_bitCount_0f7a4 26 = .ok (.iconst 4, 1) := by decide +kernel
theorem dJ6_bitCount_0f7a4_27 : decode cJ6_bitCount_0f7a4 27 = .ok (.iushr, 1) := by decide +kernel
theorem dJ6_bitCount_0f7a4_28 : decode cJ6_bitCount_0f7a4 28 = .ok (.iadd, 1) := by decide +kernel
theorem dJ6_bitCount_0f7a4_29 : decode cJ6_bitCount_0f7a4 29 = .ok (.ldc_w 267, 3) := by decide +kernel
theorem dJ6_bitCount_0f7a4_32 : decode cJ6_bitCount_0f7a4 32 = .ok (.iand, 1) := by decide +kernel
theorem dJ6_bitCount_0f7a4_33 : decode cJ6_bitCount_0f7a4 33 = .ok (.istore_n 0, 1) := by decide +kernel
theorem dJ6_bitCount_0f7a4_34 : decode cJ6_bitCount_0f7a4 34 = .ok (.iload_n 0, 1) := by decide +kernel
theorem dJ6_bitCount_0f7a4_35 : decode cJ6_bitCount_0f7a4 35 = .ok (.iload_n 0, 1) := by decide +kernel
theorem dJ6_bitCount_0f7a4_36 : decode cJ6_bitCount_0f7a4 36 = .ok (.bipush 8, 2) := by decide +kernel
theorem dJ6_bitCount_0f7a4_38 : decode cJ6_bitCount_0f7a4 38 = .ok (.iushr, 1) := by decide +kernel
theorem dJ6_bitCount_0f7a4_39 : decode cJ6_bitCount_0f7a4 39 = .ok (.iadd, 1) := by decide +kernel
theorem dJ6_bitCount_0f7a4_40 : decode cJ6_bitCount_0f7a4 40 = .ok (.istore_n 0, 1) := by decide +kernel
theorem dJ6_bitCount_0f7a4_41 : decode cJ6_bitCount_0f7a4 41 = .ok (.iload_n 0, 1) := by decide +kernel
theorem dJ6_bitCount_0f7a4_42 : decode cJ6_bitCount_0f7a4 42 = .ok (.iload_n 0, 1) := by decide +kernel
theorem dJ6_bitCount_0f7a4_43 : decode cJ6_bitCount_0f7a4 43 = .ok (.bipush 16, 2) := by decide +kernel
theorem dJ6_bitCount_0f7a4_45 : decode cJ6_bitCount_0f7a4 45 = .ok (.iushr, 1) := by decide +kernel
theorem dJ6_bitCount_0f7a4_46 : decode cJ6_bitCount_0f7a4 46 = .ok (.iadd, 1) := by decide +kernel
theorem dJ6_bitCount_0f7a4_47 : decode cJ6_bitCount_0f7a4 47 = .ok (.istore_n 0, 1) := by decide +kernel
theorem dJ6_bitCount_0f7a4_48 : decode cJ6_bitCount_0f7a4 48 = .ok (.iload_n 0, 1) := by decide +kernel
theorem dJ6_bitCount_0f7a4_49 : decode cJ6_bitCount_0f7a4 49 = .ok (.bipush 63, 2) := by decide +kernel
theorem dJ6_bitCount_0f7a4_51 : decode cJ6_bitCount_0f7a4 51 = .ok (.iand, 1) := by decide +kernel
theorem dJ6_bitCount_0f7a4_52 : decode cJ6_bitCount_0f7a4 52 = .ok (.ireturn, 1) := by decide +kernel
theorem dJ9_max_7cf53_0 : decode cJ9_max_7cf53 0 = .ok (.iload_n 0, 1) := by decide +kernel
theorem dJ9_max_7cf53_1 : decode cJ9_max_7cf53 1 = .ok (.iload_n 1, 1) := by decide +kernel
theorem dJ9_max_7cf53_2 : decode cJ9_max_7cf53 2 = .ok (.if_icmp .lt 7, 3) := by decide +kernel
theorem dJ9_max_7cf53_5 : decode cJ9_max_7cf53 5 = .ok (.iload_n 0, 1) := by decide +kernel
theorem dJ9_max_7cf53_6 : decode cJ9_max_7cf53 6 = .ok (.goto 4, 3) := by decide +kernel
theorem dJ9_max_7cf53_9 : decode cJ9_max_7cf53 9 = .ok (.iload_n 1, 1) := by decide +kernel
theorem dJ9_max_7cf53_10 : decode cJ9_max_7cf53 10 = .ok (.ireturn, 1) := by decide +kernel
theorem dJ9_min_7cf53_0 : decode cJ9_min_7cf53 0 = .ok (.iload_n 0, 1) := by decide +kernel
theorem dJ9_min_7cf53_1 : decode cJ9_min_7cf53 1 = .ok (.iload_n 1, 1) := by decide +kernel
theorem dJ9_min_7cf53_2 : decode cJ9_min_7cf53 2 = .ok (.if_icmp .gt 7, 3) := by decide +kernel
theorem dJ9_min_7cf53_5 : decode cJ9_min_7cf53 5 = .ok (.iload_n 0, 1) := by decide +kernel
theorem dJ9_min_7cf53_6 : decode cJ9_min_7cf53 6 = .ok (.goto 4, 3) := by decide +kernel
theorem dJ9_min_7cf53_9 : decode cJ9_min_7cf53 9 = .ok (.iload_n 1, 1) := by decide +kernel
theorem dJ9_min_7cf53_10 : decode cJ9_min_7cf53 10 = .ok (.ireturn, 1) := by decide +kernel
theorem dJ9_min_f86c9_0 : decode cJ9_min_f86c9 0 = .ok (.lload_n 0, 1) := by decide +kernel
theorem dJ9_min_f86c9_1 : decode cJ9_min_f86c9 1 = .ok (.lload_n 2, 1) := by decide +kernel
theorem dJ9_min_f86c9_2 : decode cJ9_min_f86c9 2 = .ok (.lcmp, 1) := by decide +kernel
theorem dJ9_min_f86c9_3 : decode cJ9_min_f86c9 3 = .ok (.ifCond .gt 7, 3) := by decide +kernel
theorem dJ9_min_f86c9_6 : decode cJ9_min_f86c9 6 = .ok (.lload_n 0, 1) := by decide +kernel
theorem dJ9_min_f86c9_7 : decode cJ9_min_f86c9 7 = .ok (.goto 4, 3) := by decide +kernel
theorem dJ9_min_f86c9_10 : decode cJ9_min_f86c9 10 = .ok (.lload_n 2, 1) := by decide +kernel
theorem dJ9_min_f86c9_11 : decode cJ9_min_f86c9 11 = .ok (.lreturn, 1) := by decide +kernel
theorem dL_point_0 : decode cL_point 0 = .ok (.aload_n 3, 1) := by decide +kernel
theorem dL_point_1 : decode cL_point 1 = .ok (.iconst 0, 1) := by decide +kernel
theorem dL_point_2 : decode cL_point 2 = .ok (.aload_n 0, 1) := by decide +kernel
theorem dL_point_3 : decode cL_point 3 = .ok (.iload_n 1, 1) := by decide +kernel
theorem dL_point_4 : decode cL_point 4 = .ok (.iload_n 2, 1) := by decide +kernel
theorem dL_point_5 : decode cL_point 5 = .ok (.invokevirtual 7, 3) := by decide +kernel
theorem dL_point_8 : decode cL_point 8 = .ok (.i2l, 1) := by decide +kernel
theorem dL_point_9 : decode cL_point 9 = .ok (.lastore, 1) := by decide +kernel
theorem dL_point_10 : decode cL_point 10 = .ok (.goto 7, 3) := by decide +kernel
theorem dL_point_13 : decode cL_point 13 = .ok (.astore 4, 2) := by decide +kernel
theorem dL_point_15 : decode cL_point 15 = .ok (.iconst 1, 1) := by decide +kernel
theorem dL_point_16 : decode cL_point 16 = .ok (.ireturn, 1) := by decide +kernel
theorem dL_point_17 : decode cL_point 17 = .ok (.iconst 0, 1) := by decide +kernel
theorem dL_point_18 : decode cL_point 18 = .ok (.ireturn, 1) := by decide +kernel
theorem dL_bound_0 : decode cL_bound 0 = .ok (.aload_n 2, 1) := by decide +kernel
theorem dL_bound_1 : decode cL_bound 1 = .ok (.iconst 0, 1) := by decide +kernel
theorem dL_bound_2 : decode cL_bound 2 = .ok (.aload_n 0, 1) := by decide +kernel
theorem dL_bound_3 : decode cL_bound 3 = .ok (.iload_n 1, 1) := by decide +kernel
theorem dL_bound_4 : decode cL_bound 4 = .ok (.invokevirtual 15, 3) := by decide +kernel
theorem dL_bound_7 : decode cL_bound 7 = .ok (.lastore, 1) := by decide +kernel
theorem dL_bound_8 : decode cL_bound 8 = .ok (.goto 6, 3) := by decide +kernel
theorem dL_bound_11 : decode cL_bound 11 = .ok (.astore_n 3, 1) := by decide +kernel
theorem dL_bound_12 : decode cL_bound 12 = .ok (.iconst 1, 1) := by decide +kernel
theorem dL_bound_13 : decode cL_bound 13 = .ok (.ireturn, 1) := by decide +kernel
theorem dL_bound_14 : decode cL_bound 14 = .ok (.iconst 0, 1) := by decide +kernel
theorem dL_bound_15 : decode cL_bound 15 = .ok (.ireturn, 1) := by decide +kernel
theorem dL_law_0 : decode cL_law 0 = .ok (.new 8, 3) := by decide +kernel
theorem dL_law_3 : decode cL_law 3 = .ok (.dup, 1) := by decide +kernel
theorem dL_law_4 : decode cL_law 4 = .ok (.invokespecial 19, 3) := by decide +kernel
theorem dL_law_7 : decode cL_law 7 = .ok (.astore_n 1, 1) := by decide +kernel
theorem dL_law_8 : decode cL_law 8 = .ok (.new 20, 3) := by decide +kernel
theorem dL_law_11 : decode cL_law 11 = .ok (.dup, 1) := by decide +kernel
theorem dL_law_12 : decode cL_law 12 = .ok (.invokespecial 22, 3) := by decide +kernel
theorem dL_law_15 : decode cL_law 15 = .ok (.astore_n 2, 1) := by decide +kernel
theorem dL_law_16 : decode cL_law 16 = .ok (.iconst 1, 1) := by decide +kernel
theorem dL_law_17 : decode cL_law 17 = .ok (.newarray .long, 2) := by decide +kernel
theorem dL_law_19 : decode cL_law 19 = .ok (.astore_n 3, 1) := by decide +kernel
theorem dL_law_20 : decode cL_law 20 = .ok (.iconst 0, 1) := by decide +kernel
theorem dL_law_21 : decode cL_law 21 = .ok (.istore 4, 2) := by decide +kernel
theorem dL_law_23 : decode cL_law 23 = .ok (.iload 4, 2) := by decide +kernel
theorem dL_law_25 : decode cL_law 25 = .ok (.aload_n 0, 1) := by decide +kernel
theorem dL_law_26 : decode cL_law 26 = .ok (.arraylength, 1) := by decide +kernel
theorem dL_law_27 : decode cL_law 27 = .ok (.bipush 6, 2) := by decide +kernel
theorem dL_law_29 : decode cL_law 29 = .ok (.isub, 1) := by decide +kernel
theorem dL_law_30 : decode cL_law 30 = .ok (.if_icmp .gt 947, 3) := by decide +kernel
theorem dL_law_33 : decode cL_law 33 = .ok (.aload_n 0, 1) := by decide +kernel
theorem dL_law_34 : decode cL_law 34 = .ok (.iload 4, 2) := by decide +kernel
theorem dL_law_36 : decode cL_law 36 = .ok (.iaload, 1) := by decide +kernel
theorem dL_law_37 : decode cL_law 37 = .ok (.bipush 31, 2) := by decide +kernel
theorem dL_law_39 : decode cL_law 39 = .ok (.iand, 1) := by decide +kernel
theorem dL_law_40 : decode cL_law 40 = .ok (.tableswitch 931 0 28 #[132, 205, 230, 243, 256, 281, 349, 386, 411, 436, 461, 486, 511, 536, 550, 563, 576, 601, 614, 669, 682, 695, 720, 757, 794, 831, 868, 881, 906], 132) := by decide +kernel
theorem dL_law_172 : decode cL_law 172 = .ok (.aload_n 1, 1) := by decide +kernel
theorem dL_law_173 : decode cL_law 173 = .ok (.aload_n 0, 1) := by decide +kernel
theorem dL_law_174 : decode cL_law 174 = .ok (.iload 4, 2) := by decide +kernel
theorem dL_law_176 : decode cL_law 176 = .ok (.iconst 1, 1) := by decide +kernel
theorem dL_law_177 : decode cL_law 177 = .ok (.iadd, 1) := by decide +kernel
theorem dL_law_178 : decode cL_law 178 = .ok (.iaload, 1) := by decide +kernel
theorem dL_law_179 : decode cL_law 179 = .ok (.aload_n 0, 1) := by decide +kernel
theorem dL_law_180 : decode cL_law 180 = .ok (.iload 4, 2) := by decide +kernel
theorem dL_law_182 : decode cL_law 182 = .ok (.iconst 2, 1) := by decide +kernel
theorem dL_law_183 : decode cL_law 183 = .ok (.iadd, 1) := by decide +kernel
theorem dL_law_184 : decode cL_law 184 = .ok (.iaload, 1) := by decide +kernel
theorem dL_law_185 : decode cL_law 185 = .ok (.aload_n 0, 1) := by decide +kernel
theorem dL_law_186 : decode cL_law 186 = .ok (.iload 4, 2) := by decide +kernel
theorem dL_law_188 : decode cL_law 188 = .ok (.iconst 3, 1) := by decide +kernel
theorem dL_law_189 : decode cL_law 189 = .ok (.iadd, 1) := by decide +kernel
theorem dL_law_190 : decode cL_law 190 = .ok (.iaload, 1) := by decide +kernel
theorem dL_law_191 : decode cL_law 191 = .ok (.aload_n 0, 1) := by decide +kernel
theorem dL_law_192 : decode cL_law 192 = .ok (.iload 4, 2) := by decide +kernel
theorem dL_law_194 : decode cL_law 194 = .ok (.iconst 4, 1) := by decide +kernel
theorem dL_law_195 : decode cL_law 195 = .ok (.iadd, 1) := by decide +kernel
theorem dL_law_196 : decode cL_law 196 = .ok (.iaload, 1) := by decide +kernel
theorem dL_law_197 : decode cL_law 197 = .ok (.aload_n 0, 1) := by decide +kernel
theorem dL_law_198 : decode cL_law 198 = .ok (.iload 4, 2) := by decide +kernel
theorem dL_law_200 : decode cL_law 200 = .ok (.iconst 5, 1) := by decide +kernel
theorem dL_law_201 : decode cL_law 201 = .ok (.iadd, 1) := by decide +kernel
theorem dL_law_202 : decode cL_law 202 = .ok (.iaload, 1) := by decide +kernel
theorem dL_law_203 : decode cL_law 203 = .ok (.invokevirtual 23, 3) := by decide +kernel
theorem dL_law_206 : decode cL_law 206 = .ok (.aload_n 2, 1) := by decide +kernel
theorem dL_law_207 : decode cL_law 207 = .ok (.aload_n 0, 1) := by decide +kernel
theorem dL_law_208 : decode cL_law 208 = .ok (.iload 4, 2) := by decide +kernel
theorem dL_law_210 : decode cL_law 210 = .ok (.iconst 1, 1) := by decide +kernel
theorem dL_law_211 : decode cL_law 211 = .ok (.iadd, 1) := by decide +kernel
theorem dL_law_212 : decode cL_law 212 = .ok (.iaload, 1) := by decide +kernel
theorem dL_law_213 : decode cL_law 213 = .ok (.aload_n 0, 1) := by decide +kernel
theorem dL_law_214 : decode cL_law 214 = .ok (.iload 4, 2) := by decide +kernel
theorem dL_law_216 : decode cL_law 216 = .ok (.iconst 2, 1) := by decide +kernel
theorem dL_law_217 : decode cL_law 217 = .ok (.iadd, 1) := by decide +kernel
theorem dL_law_218 : decode cL_law 218 = .ok (.iaload, 1) := by decide +kernel
theorem dL_law_219 : decode cL_law 219 = .ok (.aload_n 0, 1) := by decide +kernel
theorem dL_law_220 : decode cL_law 220 = .ok (.iload 4, 2) := by decide +kernel
theorem dL_law_222 : decode cL_law 222 = .ok (.iconst 3, 1) := by decide +kernel
theorem dL_law_223 : decode cL_law 223 = .ok (.iadd, 1) := by decide +kernel
theorem dL_law_224 : decode cL_law 224 = .ok (.iaload, 1) := by decide +kernel
theorem dL_law_225 : decode cL_law 225 = .ok (.aload_n 0, 1) := by decide +kernel
theorem dL_law_226 : decode cL_law 226 = .ok (.iload 4, 2) := by decide +kernel
theorem dL_law_228 : decode cL_law 228 = .ok (.iconst 4, 1) := by decide +kernel
theorem dL_law_229 : decode cL_law 229 = .ok (.iadd, 1) := by decide +kernel
theorem dL_law_230 : decode cL_law 230 = .ok (.iaload, 1) := by decide +kernel
theorem dL_law_231 : decode cL_law 231 = .ok (.aload_n 0, 1) := by decide +kernel
theorem dL_law_232 : decode cL_law 232 = .ok (.iload 4, 2) := by decide +kernel
theorem dL_law_234 : decode cL_law 234 = .ok (.iconst 5, 1) := by decide +kernel
theorem dL_law_235 : decode cL_law 235 = .ok (.iadd, 1) := by decide +kernel
theorem dL_law_236 : decode cL_law 236 = .ok (.iaload, 1) := by decide +kernel
theorem dL_law_237 : decode cL_law 237 = .ok (.invokevirtual 27, 3) := by decide +kernel
theorem dL_law_240 : decode cL_law 240 = .ok (.if_icmp .eq 731, 3) := by decide +kernel
theorem dL_law_243 : decode cL_law 243 = .ok (.iconst 0, 1) := by decide +kernel
theorem dL_law_244 : decode cL_law 244 = .ok (.ireturn, 1) := by decide +kernel
theorem dL_law_245 : decode cL_law 245 = .ok (.aload_n 1, 1) := by decide +kernel
theorem dL_law_246 : decode cL_law 246 = .ok (.aload_n 0, 1) := by decide +kernel
theorem dL_law_247 : decode cL_law 247 = .ok (.iload 4, 2) := by decide +kernel
theorem dL_law_249 : decode cL_law 249 = .ok (.iconst 1, 1) := by decide +kernel
theorem dL_law_250 : decode cL_law 250 = .ok (.iadd, 1) := by decide +kernel
theorem dL_law_251 : decode cL_law 251 = .ok (.iaload, 1) := by decide +kernel
theorem dL_law_252 : decode cL_law 252 = .ok (.invokevirtual 28, 3) := by decide +kernel
theorem dL_law_255 : decode cL_law 255 = .ok (.aload_n 2, 1) := by decide +kernel
theorem dL_law_256 : decode cL_law 256 = .ok (.aload_n 0, 1) := by decide +kernel
theorem dL_law_257 : decode cL_law 257 = .ok (.iload 4, 2) := by decide +kernel
theorem dL_law_259 : decode cL_law 259 = .ok (.iconst 1, 1) := by decide +kernel
theorem dL_law_260 : decode cL_law 260 = .ok (.iadd, 1) := by decide +kernel
theorem dL_law_261 : decode cL_law 261 = .ok (.iaload, 1) := by decide +kernel
theorem dL_law_262 : decode cL_law 262 = .ok (.invokevirtual 32, 3) := by decide +kernel
theorem dL_law_265 : decode cL_law 265 = .ok (.if_icmp .eq 706, 3) := by decide +kernel
theorem dL_law_268 : decode cL_law 268 = .ok (.iconst 0, 1) := by decide +kernel
theorem dL_law_269 : decode cL_law 269 = .ok (.ireturn, 1) := by decide +kernel
theorem dL_law_270 : decode cL_law 270 = .ok (.aload_n 1, 1) := by decide +kernel
theorem dL_law_271 : decode cL_law 271 = .ok (.invokevirtual 33, 3) := by decide +kernel
theorem dL_law_274 : decode cL_law 274 = .ok (.aload_n 2, 1) := by decide +kernel
theorem dL_law_275 : decode cL_law 275 = .ok (.invokevirtual 37, 3) := by decide +kernel
theorem dL_law_278 : decode cL_law 278 = .ok (.if_icmp .eq 693, 3) := by decide +kernel
theorem dL_law_281 : decode cL_law 281 = .ok (.iconst 0, 1) := by decide +kernel
theorem dL_law_282 : decode cL_law 282 = .ok (.ireturn, 1) := by decide +kernel
theorem dL_law_283 : decode cL_law 283 = .ok (.aload_n 1, 1) := by decide +kernel
theorem dL_law_284 : decode cL_law 284 = .ok (.invokevirtual 38, 3) := by decide +kernel
theorem dL_law_287 : decode cL_law 287 = .ok (.aload_n 2, 1) := by decide +kernel
theorem dL_law_288 : decode cL_law 288 = .ok (.invokevirtual 41, 3) := by decide +kernel
theorem dL_law_291 : decode cL_law 291 = .ok (.if_icmp .eq 680, 3) := by decide +kernel
theorem dL_law_294 : decode cL_law 294 = .ok (.iconst 0, 1) := by decide +kernel
theorem dL_law_295 : decode cL_law 295 = .ok (.ireturn, 1) := by decide +kernel
theorem dL_law_296 : decode cL_law 296 = .ok (.aload_n 1, 1) := by decide +kernel
theorem dL_law_297 : decode cL_law 297 = .ok (.aload_n 0, 1) := by decide +kernel
theorem dL_law_298 : decode cL_law 298 = .ok (.iload 4, 2) := by decide +kernel
theorem dL_law_300 : decode cL_law 300 = .ok (.iconst 1, 1) := by decide +kernel
theorem dL_law_301 : decode cL_law 301 = .ok (.iadd, 1) := by decide +kernel
theorem dL_law_302 : decode cL_law 302 = .ok (.iaload, 1) := by decide +kernel
theorem dL_law_303 : decode cL_law 303 = .ok (.invokevirtual 42, 3) := by decide +kernel
theorem dL_law_306 : decode cL_law 306 = .ok (.aload_n 2, 1) := by decide +kernel
theorem dL_law_307 : decode cL_law 307 = .ok (.aload_n 0, 1) := by decide +kernel
theorem dL_law_308 : decode cL_law 308 = .ok (.iload 4, 2) := by decide +kernel
theorem dL_law_310 : decode cL_law 310 = .ok (.iconst 1, 1) := by decide +kernel
theorem dL_law_311 : decode cL_law 311 = .ok (.iadd, 1) := by decide +kernel
theorem dL_law_312 : decode cL_law 312 = .ok (.iaload, 1) := by decide +kernel
theorem dL_law_313 : decode cL_law 313 = .ok (.invokevirtual 46, 3) := by decide +kernel
theorem dL_law_316 : decode cL_law 316 = .ok (.if_icmp .eq 655, 3) := by decide +kernel
theorem dL_law_319 : decode cL_law 319 = .ok (.iconst 0, 1) := by decide +kernel
theorem dL_law_320 : decode cL_law 320 = .ok (.ireturn, 1) := by decide +kernel
theorem dL_law_321 : decode cL_law 321 = .ok (.aload_n 1, 1) := by decide +kernel
theorem dL_law_322 : decode cL_law 322 = .ok (.aload_n 0, 1) := by decide +kernel
theorem dL_law_323 : decode cL_law 323 = .ok (.iload 4, 2) := by decide +kernel
theorem dL_law_325 : decode cL_law 325 = .ok (.iconst 1, 1) := by decide +kernel
theorem dL_law_326 : decode cL_law 326 = .ok (.iadd, 1) := by decide +kernel
theorem dL_law_327 : decode cL_law 327 = .ok (.iaload, 1) := by decide +kernel
theorem dL_law_328 : decode cL_law 328 = .ok (.aload_n 0, 1) := by decide +kernel
theorem dL_law_329 : decode cL_law 329 = .ok (.iload 4, 2) := by decide +kernel
theorem dL_law_331 : decode cL_law 331 = .ok (.iconst 2, 1) := by decide +kernel
theorem dL_law_332 : decode cL_law 332 = .ok (.iadd, 1) := by decide +kernel
theorem dL_law_333 : decode cL_law 333 = .ok (.iaload, 1) := by decide +kernel
theorem dL_law_334 : decode cL_law 334 = .ok (.aload_n 3, 1) := by decide +kernel
theorem dL_law_335 : decode cL_law 335 = .ok (.invokestatic 47, 3) := by decide +kernel
theorem dL_law_338 : decode cL_law 338 = .ok (.istore 5, 2) := by decide +kernel
theorem dL_law_340 : decode cL_law 340 = .ok (.aload_n 2, 1) := by decide +kernel
theorem dL_law_341 : decode cL_law 341 = .ok (.aload_n 0, 1) := by decide +kernel
theorem dL_law_342 : decode cL_law 342 = .ok (.iload 4, 2) := by decide +kernel
theorem dL_law_344 : decode cL_law 344 = .ok (.iconst 1, 1) := by decide +kernel
theorem dL_law_345 : decode cL_law 345 = .ok (.iadd, 1) := by decide +kernel
theorem dL_law_346 : decode cL_law 346 = .ok (.iaload, 1) := by decide +kernel
theorem dL_law_347 : decode cL_law 347 = .ok (.aload_n 0, 1) := by decide +kernel
theorem dL_law_348 : decode cL_law 348 = .ok (.iload 4, 2) := by decide +kernel
theorem dL_law_350 : decode cL_law 350 = .ok (.iconst 2, 1) := by decide +kernel
theorem dL_law_351 : decode cL_law 351 = .ok (.iadd, 1) := by decide +kernel
theorem dL_law_352 : decode cL_law 352 = .ok (.iaload, 1) := by decide +kernel
theorem dL_law_353 : decode cL_law 353 = .ok (.invokevirtual 52, 3) := by decide +kernel
theorem dL_law_356 : decode cL_law 356 = .ok (.istore 6, 2) := by decide +kernel
theorem dL_law_358 : decode cL_law 358 = .ok (.aload_n 2, 1) := by decide +kernel
theorem dL_law_359 : decode cL_law 359 = .ok (.invokevirtual 53, 3) := by decide +kernel
theorem dL_law_362 : decode cL_law 362 = .ok (.iload 5, 2) := by decide +kernel
theorem dL_law_364 : decode cL_law 364 = .ok (.if_icmp .eq 5, 3) := by decide +kernel
theorem dL_law_367 : decode cL_law 367 = .ok (.iconst 0, 1) := by decide +kernel
theorem dL_law_368 : decode cL_law 368 = .ok (.ireturn, 1) := by decide +kernel
theorem dL_law_369 : decode cL_law 369 = .ok (.iload 5, 2) := by decide +kernel
theorem dL_law_371 : decode cL_law 371 = .ok (.ifCond .ne 15, 3) := by decide +kernel
theorem dL_law_374 : decode cL_law 374 = .ok (.aload_n 3, 1) := by decide +kernel
theorem dL_law_375 : decode cL_law 375 = .ok (.iconst 0, 1) := by decide +kernel
theorem dL_law_376 : decode cL_law 376 = .ok (.laload, 1) := by decide +kernel
theorem dL_law_377 : decode cL_law 377 = .ok (.iload 6, 2) := by decide +kernel
theorem dL_law_379 : decode cL_law 379 = .ok (.i2l, 1) := by decide +kernel
theorem dL_law_380 : decode cL_law 380 = .ok (.lcmp, 1) := by decide +kernel
theorem dL_law_381 : decode cL_law 381 = .ok (.ifCond .eq 5, 3) := by decide +kernel
theorem dL_law_384 : decode cL_law 384 = .ok (.iconst 0, 1) := by decide +kernel
theorem dL_law_385 : decode cL_law 385 = .ok (.ireturn, 1) := by decide +kernel
theorem dL_law_386 : decode cL_law 386 = .ok (.goto 585, 3) := by decide +kernel
theorem dL_law_389 : decode cL_law 389 = .ok (.aload_n 1, 1) := by decide +kernel
theorem dL_law_390 : decode cL_law 390 = .ok (.aload_n 0, 1) := by decide +kernel
theorem dL_law_391 : decode cL_law 391 = .ok (.iload 4, 2) := by decide +kernel
theorem dL_law_393 : decode cL_law 393 = .ok (.iconst 1, 1) := by decide +kernel
theorem dL_law_394 : decode cL_law 394 = .ok (.iadd, 1) := by decide +kernel
theorem dL_law_395 : decode cL_law 395 = .ok (.iaload, 1) := by decide +kernel
theorem dL_law_396 : decode cL_law 396 = .ok (.aload_n 0, 1) := by decide +kernel
theorem dL_law_397 : decode cL_law 397 = .ok (.iload 4, 2) := by decide +kernel
theorem dL_law_399 : decode cL_law 399 = .ok (.iconst 2, 1) := by decide +kernel
theorem dL_law_400 : decode cL_law 400 = .ok (.iadd, 1) := by decide +kernel
theorem dL_law_401 : decode cL_law 401 = .ok (.iaload, 1) := by decide +kernel
theorem dL_law_402 : decode cL_law 402 = .ok (.invokevirtual 56, 3) := by decide +kernel
theorem dL_law_405 : decode cL_law 405 = .ok (.aload_n 2, 1) := by decide +kernel
theorem dL_law_406 : decode cL_law 406 = .ok (.aload_n 0, 1) := by decide +kernel
theorem dL_law_407 : decode cL_law 407 = .ok (.iload 4, 2) := by decide +kernel
theorem dL_law_409 : decode cL_law 409 = .ok (.iconst 1, 1) := by decide +kernel
theorem dL_law_410 : decode cL_law 410 = .ok (.iadd, 1) := by decide +kernel
theorem dL_law_411 : decode cL_law 411 = .ok (.iaload, 1) := by decide +kernel
theorem dL_law_412 : decode cL_law 412 = .ok (.aload_n 0, 1) := by decide +kernel
theorem dL_law_413 : decode cL_law 413 = .ok (.iload 4, 2) := by decide +kernel
theorem dL_law_415 : decode cL_law 415 = .ok (.iconst 2, 1) := by decide +kernel
theorem dL_law_416 : decode cL_law 416 = .ok (.iadd, 1) := by decide +kernel
theorem dL_law_417 : decode cL_law 417 = .ok (.iaload, 1) := by decide +kernel
theorem dL_law_418 : decode cL_law 418 = .ok (.invokevirtual 59, 3) := by decide +kernel
theorem dL_law_421 : decode cL_law 421 = .ok (.if_icmp .eq 550, 3) := by decide +kernel
theorem dL_law_424 : decode cL_law 424 = .ok (.iconst 0, 1) := by decide +kernel
theorem dL_law_425 : decode cL_law 425 = .ok (.ireturn, 1) := by decide +kernel
theorem dL_law_426 : decode cL_law 426 = .ok (.aload_n 1, 1) := by decide +kernel
theorem dL_law_427 : decode cL_law 427 = .ok (.aload_n 0, 1) := by decide +kernel
theorem dL_law_428 : decode cL_law 428 = .ok (.iload 4, 2) := by decide +kernel
theorem dL_law_430 : decode cL_law 430 = .ok (.iconst 1, 1) := by decide +kernel
theorem dL_law_431 : decode cL_law 431 = .ok (.iadd, 1) := by decide +kernel
theorem dL_law_432 : decode cL_law 432 = .ok (.iaload, 1) := by decide +kernel
theorem dL_law_433 : decode cL_law 433 = .ok (.invokevirtual 60, 3) := by decide +kernel
theorem dL_law_436 : decode cL_law 436 = .ok (.aload_n 2, 1) := by decide +kernel
theorem dL_law_437 : decode cL_law 437 = .ok (.aload_n 0, 1) := by decide +kernel
theorem dL_law_438 : decode cL_law 438 = .ok (.iload 4, 2) := by decide +kernel
theorem dL_law_440 : decode cL_law 440 = .ok (.iconst 1, 1) := by decide +kernel
theorem dL_law_441 : decode cL_law 441 = .ok (.iadd, 1) := by decide +kernel
theorem dL_law_442 : decode cL_law 442 = .ok (.iaload, 1) := by decide +kernel
theorem dL_law_443 : decode cL_law 443 = .ok (.invokevirtual 63, 3) := by decide +kernel
theorem dL_law_446 : decode cL_law 446 = .ok (.if_icmp .eq 525, 3) := by decide +kernel
theorem dL_law_449 : decode cL_law 449 = .ok (.iconst 0, 1) := by decide +kernel
theorem dL_law_450 : decode cL_law 450 = .ok (.ireturn, 1) := by decide +kernel
theorem dL_law_451 : decode cL_law 451 = .ok (.aload_n 1, 1) := by decide +kernel
theorem dL_law_452 : decode cL_law 452 = .ok (.aload_n 0, 1) := by decide +kernel
theorem dL_law_453 : decode cL_law 453 = .ok (.iload 4, 2) := by decide +kernel
theorem dL_law_455 : decode cL_law 455 = .ok (.iconst 1, 1) := by decide +kernel
theorem dL_law_456 : decode cL_law 456 = .ok (.iadd, 1) := by decide +kernel
theorem dL_law_457 : decode cL_law 457 = .ok (.iaload, 1) := by decide +kernel
theorem dL_law_458 : decode cL_law 458 = .ok (.invokevirtual 64, 3) := by decide +kernel
theorem dL_law_461 : decode cL_law 461 = .ok (.aload_n 2, 1) := by decide +kernel
theorem dL_law_462 : decode cL_law 462 = .ok (.aload_n 0, 1) := by decide +kernel
theorem dL_law_463 : decode cL_law 463 = .ok (.iload 4, 2) := by decide +kernel
theorem dL_law_465 : decode cL_law 465 = .ok (.iconst 1, 1) := by decide +kernel
theorem dL_law_466 : decode cL_law 466 = .ok (.iadd, 1) := by decide +kernel
theorem dL_law_467 : decode cL_law 467 = .ok (.iaload, 1) := by decide +kernel
theorem dL_law_468 : decode cL_law 468 = .ok (.invokevirtual 67, 3) := by decide +kernel
theorem dL_law_471 : decode cL_law 471 = .ok (.if_icmp .eq 500, 3) := by decide +kernel
theorem dL_law_474 : decode cL_law 474 = .ok (.iconst 0, 1) := by decide +kernel
theorem dL_law_475 : decode cL_law 475 = .ok (.ireturn, 1) := by decide +kernel
theorem dL_law_476 : decode cL_law 476 = .ok (.aload_n 1, 1) := by decide +kernel
theorem dL_law_477 : decode cL_law 477 = .ok (.aload_n 0, 1) := by decide +kernel
theorem dL_law_478 : decode cL_law 478 = .ok (.iload 4, 2) := by decide +kernel
theorem dL_law_480 : decode cL_law 480 = .ok (.iconst 1, 1) := by decide +kernel
theorem dL_law_481 : decode cL_law 481 = .ok (.iadd, 1) := by decide +kernel
theorem dL_law_482 : decode cL_law 482 = .ok (.iaload, 1) := by decide +kernel
theorem dL_law_483 : decode cL_law 483 = .ok (.invokevirtual 68, 3) := by decide +kernel
theorem dL_law_486 : decode cL_law 486 = .ok (.aload_n 2, 1) := by decide +kernel
theorem dL_law_487 : decode cL_law 487 = .ok (.aload_n 0, 1) := by decide +kernel
theorem dL_law_488 : decode cL_law 488 = .ok (.iload 4, 2) := by decide +kernel
theorem dL_law_490 : decode cL_law 490 = .ok (.iconst 1, 1) := by decide +kernel
theorem dL_law_491 : decode cL_law 491 = .ok (.iadd, 1) := by decide +kernel
theorem dL_law_492 : decode cL_law 492 = .ok (.iaload, 1) := by decide +kernel
theorem dL_law_493 : decode cL_law 493 = .ok (.invokevirtual 71, 3) := by decide +kernel
theorem dL_law_496 : decode cL_law 496 = .ok (.if_icmp .eq 475, 3) := by decide +kernel
theorem dL_law_499 : decode cL_law 499 = .ok (.iconst 0, 1) := by decide +kernel
theorem dL_law_500 : decode cL_law 500 = .ok (.ireturn, 1) := by decide +kernel
theorem dL_law_501 : decode cL_law 501 = .ok (.aload_n 1, 1) := by decide +kernel
theorem dL_law_502 : decode cL_law 502 = .ok (.aload_n 0, 1) := by decide +kernel
theorem dL_law_503 : decode cL_law 503 = .ok (.iload 4, 2) := by decide +kernel
theorem dL_law_505 : decode cL_law 505 = .ok (.iconst 1, 1) := by decide +kernel
theorem dL_law_506 : decode cL_law 506 = .ok (.iadd, 1) := by decide +kernel
theorem dL_law_507 : decode cL_law 507 = .ok (.iaload, 1) := by decide +kernel
theorem dL_law_508 : decode cL_law 508 = .ok (.invokevirtual 72, 3) := by decide +kernel
theorem dL_law_511 : decode cL_law 511 = .ok (.aload_n 2, 1) := by decide +kernel
theorem dL_law_512 : decode cL_law 512 = .ok (.aload_n 0, 1) := by decide +kernel
theorem dL_law_513 : decode cL_law 513 = .ok (.iload 4, 2) := by decide +kernel
theorem dL_law_515 : decode cL_law 515 = .ok (.iconst 1, 1) := by decide +kernel
theorem dL_law_516 : decode cL_law 516 = .ok (.iadd, 1) := by decide +kernel
theorem dL_law_517 : decode cL_law 517 = .ok (.iaload, 1) := by decide +kernel
theorem dL_law_518 : decode cL_law 518 = .ok (.invokevirtual 75, 3) := by decide +kernel
theorem dL_law_521 : decode cL_law 521 = .ok (.if_icmp .eq 450, 3) := by decide +kernel
theorem dL_law_524 : decode cL_law 524 = .ok (.iconst 0, 1) := by decide +kernel
theorem dL_law_525 : decode cL_law 525 = .ok (.ireturn, 1) := by decide +kernel
theorem dL_law_526 : decode cL_law 526 = .ok (.aload_n 1, 1) := by decide +kernel
theorem dL_law_527 : decode cL_law 527 = .ok (.aload_n 0, 1) := by decide +kernel
theorem dL_law_528 : decode cL_law 528 = .ok (.iload 4, 2) := by decide +kernel
theorem dL_law_530 : decode cL_law 530 = .ok (.iconst 1, 1) := by decide +kernel
theorem dL_law_531 : decode cL_law 531 = .ok (.iadd, 1) := by decide +kernel
theorem dL_law_532 : decode cL_law 532 = .ok (.iaload, 1) := by decide +kernel
theorem dL_law_533 : decode cL_law 533 = .ok (.invokevirtual 76, 3) := by decide +kernel
theorem dL_law_536 : decode cL_law 536 = .ok (.aload_n 2, 1) := by decide +kernel
theorem dL_law_537 : decode cL_law 537 = .ok (.aload_n 0, 1) := by decide +kernel
theorem dL_law_538 : decode cL_law 538 = .ok (.iload 4, 2) := by decide +kernel
theorem dL_law_540 : decode cL_law 540 = .ok (.iconst 1, 1) := by decide +kernel
theorem dL_law_541 : decode cL_law 541 = .ok (.iadd, 1) := by decide +kernel
theorem dL_law_542 : decode cL_law 542 = .ok (.iaload, 1) := by decide +kernel
theorem dL_law_543 : decode cL_law 543 = .ok (.invokevirtual 79, 3) := by decide +kernel
theorem dL_law_546 : decode cL_law 546 = .ok (.if_icmp .eq 425, 3) := by decide +kernel
theorem dL_law_549 : decode cL_law 549 = .ok (.iconst 0, 1) := by decide +kernel
theorem dL_law_550 : decode cL_law 550 = .ok (.ireturn, 1) := by decide +kernel
theorem dL_law_551 : decode cL_law 551 = .ok (.aload_n 1, 1) := by decide +kernel
theorem dL_law_552 : decode cL_law 552 = .ok (.aload_n 0, 1) := by decide +kernel
theorem dL_law_553 : decode cL_law 553 = .ok (.iload 4, 2) := by decide +kernel
theorem dL_law_555 : decode cL_law 555 = .ok (.iconst 1, 1) := by decide +kernel
theorem dL_law_556 : decode cL_law 556 = .ok (.iadd, 1) := by decide +kernel
theorem dL_law_557 : decode cL_law 557 = .ok (.iaload, 1) := by decide +kernel
theorem dL_law_558 : decode cL_law 558 = .ok (.invokevirtual 80, 3) := by decide +kernel
theorem dL_law_561 : decode cL_law 561 = .ok (.aload_n 2, 1) := by decide +kernel
theorem dL_law_562 : decode cL_law 562 = .ok (.aload_n 0, 1) := by decide +kernel
theorem dL_law_563 : decode cL_law 563 = .ok (.iload 4, 2) := by decide +kernel
theorem dL_law_565 : decode cL_law 565 = .ok (.iconst 1, 1) := by decide +kernel
theorem dL_law_566 : decode cL_law 566 = .ok (.iadd, 1) := by decide +kernel
theorem dL_law_567 : decode cL_law 567 = .ok (.iaload, 1) := by decide +kernel
theorem dL_law_568 : decode cL_law 568 = .ok (.invokevirtual 83, 3) := by decide +kernel
theorem dL_law_571 : decode cL_law 571 = .ok (.if_icmp .eq 400, 3) := by decide +kernel
theorem dL_law_574 : decode cL_law 574 = .ok (.iconst 0, 1) := by decide +kernel
theorem dL_law_575 : decode cL_law 575 = .ok (.ireturn, 1) := by decide +kernel
theorem dL_law_576 : decode cL_law 576 = .ok (.aload_n 1, 1) := by decide +kernel
theorem dL_law_577 : decode cL_law 577 = .ok (.invokevirtual 84, 3) := by decide +kernel
theorem dL_law_580 : decode cL_law 580 = .ok (.aload_n 2, 1) := by decide +kernel
theorem dL_law_581 : decode cL_law 581 = .ok (.invokevirtual 88, 3) := by decide +kernel
theorem dL_law_584 : decode cL_law 584 = .ok (.lcmp, 1) := by decide +kernel
theorem dL_law_585 : decode cL_law 585 = .ok (.ifCond .eq 386, 3) := by decide +kernel
theorem dL_law_588 : decode cL_law 588 = .ok (.iconst 0, 1) := by decide +kernel
theorem dL_law_589 : decode cL_law 589 = .ok (.ireturn, 1) := by decide +kernel
theorem dL_law_590 : decode cL_law 590 = .ok (.aload_n 1, 1) := by decide +kernel
theorem dL_law_591 : decode cL_law 591 = .ok (.invokevirtual 89, 3) := by decide +kernel
theorem dL_law_594 : decode cL_law 594 = .ok (.aload_n 2, 1) := by decide +kernel
theorem dL_law_595 : decode cL_law 595 = .ok (.invokevirtual 92, 3) := by decide +kernel
theorem dL_law_598 : decode cL_law 598 = .ok (.if_icmp .eq 373, 3) := by decide +kernel
theorem dL_law_601 : decode cL_law 601 = .ok (.iconst 0, 1) := by decide +kernel
theorem dL_law_602 : decode cL_law 602 = .ok (.ireturn, 1) := by decide +kernel
theorem dL_law_603 : decode cL_law 603 = .ok (.aload_n 1, 1) := by decide +kernel
theorem dL_law_604 : decode cL_law 604 = .ok (.invokevirtual 93, 3) := by decide +kernel
theorem dL_law_607 : decode cL_law 607 = .ok (.aload_n 2, 1) := by decide +kernel
theorem dL_law_608 : decode cL_law 608 = .ok (.invokevirtual 96, 3) := by decide +kernel
theorem dL_law_611 : decode cL_law 611 = .ok (.if_icmp .eq 360, 3) := by decide +kernel
theorem dL_law_614 : decode cL_law 614 = .ok (.iconst 0, 1) := by decide +kernel
theorem dL_law_615 : decode cL_law 615 = .ok (.ireturn, 1) := by decide +kernel
theorem dL_law_616 : decode cL_law 616 = .ok (.aload_n 1, 1) := by decide +kernel
theorem dL_law_617 : decode cL_law 617 = .ok (.aload_n 0, 1) := by decide +kernel
theorem dL_law_618 : decode cL_law 618 = .ok (.iload 4, 2) := by decide +kernel
theorem dL_law_620 : decode cL_law 620 = .ok (.iconst 1, 1) := by decide +kernel
theorem dL_law_621 : decode cL_law 621 = .ok (.iadd, 1) := by decide +kernel
theorem dL_law_622 : decode cL_law 622 = .ok (.iaload, 1) := by decide +kernel
theorem dL_law_623 : decode cL_law 623 = .ok (.invokevirtual 97, 3) := by decide +kernel
theorem dL_law_626 : decode cL_law 626 = .ok (.aload_n 2, 1) := by decide +kernel
theorem dL_law_627 : decode cL_law 627 = .ok (.aload_n 0, 1) := by decide +kernel
theorem dL_law_628 : decode cL_law 628 = .ok (.iload 4, 2) := by decide +kernel
theorem dL_law_630 : decode cL_law 630 = .ok (.iconst 1, 1) := by decide +kernel
theorem dL_law_631 : decode cL_law 631 = .ok (.iadd, 1) := by decide +kernel
theorem dL_law_632 : decode cL_law 632 = .ok (.iaload, 1) := by decide +kernel
theorem dL_law_633 : decode cL_law 633 = .ok (.invokevirtual 100, 3) := by decide +kernel
theorem dL_law_636 : decode cL_law 636 = .ok (.if_icmp .eq 335, 3) := by decide +kernel
theorem dL_law_639 : decode cL_law 639 = .ok (.iconst 0, 1) := by decide +kernel
theorem dL_law_640 : decode cL_law 640 = .ok (.ireturn, 1) := by decide +kernel
theorem dL_law_641 : decode cL_law 641 = .ok (.aload_n 1, 1) := by decide +kernel
theorem dL_law_642 : decode cL_law 642 = .ok (.invokevirtual 101, 3) := by decide +kernel
theorem dL_law_645 : decode cL_law 645 = .ok (.aload_n 2, 1) := by decide +kernel
theorem dL_law_646 : decode cL_law 646 = .ok (.invokevirtual 104, 3) := by decide +kernel
theorem dL_law_649 : decode cL_law 649 = .ok (.if_icmp .eq 322, 3) := by decide +kernel
theorem dL_law_652 : decode cL_law 652 = .ok (.iconst 0, 1) := by decide +kernel
theorem dL_law_653 : decode cL_law 653 = .ok (.ireturn, 1) := by decide +kernel
theorem dL_law_654 : decode cL_law 654 = .ok (.aload_n 1, 1) := by decide +kernel
theorem dL_law_655 : decode cL_law 655 = .ok (.aload_n 0, 1) := by decide +kernel
theorem dL_law_656 : decode cL_law 656 = .ok (.iload 4, 2) := by decide +kernel
theorem dL_law_658 : decode cL_law 658 = .ok (.iconst 1, 1) := by decide +kernel
theorem dL_law_659 : decode cL_law 659 = .ok (.iadd, 1) := by decide +kernel
theorem dL_law_660 : decode cL_law 660 = .ok (.iaload, 1) := by decide +kernel
theorem dL_law_661 : decode cL_law 661 = .ok (.aload_n 3, 1) := by decide +kernel
theorem dL_law_662 : decode cL_law 662 = .ok (.invokestatic 105, 3) := by decide +kernel
theorem dL_law_665 : decode cL_law 665 = .ok (.istore 5, 2) := by decide +kernel
theorem dL_law_667 : decode cL_law 667 = .ok (.aload_n 2, 1) := by decide +kernel
theorem dL_law_668 : decode cL_law 668 = .ok (.aload_n 0, 1) := by decide +kernel
theorem dL_law_669 : decode cL_law 669 = .ok (.iload 4, 2) := by decide +kernel
theorem dL_law_671 : decode cL_law 671 = .ok (.iconst 1, 1) := by decide +kernel
theorem dL_law_672 : decode cL_law 672 = .ok (.iadd, 1) := by decide +kernel
theorem dL_law_673 : decode cL_law 673 = .ok (.iaload, 1) := by decide +kernel
theorem dL_law_674 : decode cL_law 674 = .ok (.invokevirtual 108, 3) := by decide +kernel
theorem dL_law_677 : decode cL_law 677 = .ok (.lstore 6, 2) := by decide +kernel
theorem dL_law_679 : decode cL_law 679 = .ok (.aload_n 2, 1) := by decide +kernel
theorem dL_law_680 : decode cL_law 680 = .ok (.invokevirtual 53, 3) := by decide +kernel
theorem dL_law_683 : decode cL_law 683 = .ok (.iload 5, 2) := by decide +kernel
theorem dL_law_685 : decode cL_law 685 = .ok (.if_icmp .eq 5, 3) := by decide +kernel
theorem dL_law_688 : decode cL_law 688 = .ok (.iconst 0, 1) := by decide +kernel
theorem dL_law_689 : decode cL_law 689 = .ok (.ireturn, 1) := by decide +kernel
theorem dL_law_690 : decode cL_law 690 = .ok (.iload 5, 2) := by decide +kernel
theorem dL_law_692 : decode cL_law 692 = .ok (.ifCond .ne 14, 3) := by decide +kernel
theorem dL_law_695 : decode cL_law 695 = .ok (.aload_n 3, 1) := by decide +kernel
theorem dL_law_696 : decode cL_law 696 = .ok (.iconst 0, 1) := by decide +kernel
theorem dL_law_697 : decode cL_law 697 = .ok (.laload, 1) := by decide +kernel
theorem dL_law_698 : decode cL_law 698 = .ok (.lload 6, 2) := by decide +kernel
theorem dL_law_700 : decode cL_law 700 = .ok (.lcmp, 1) := by decide +kernel
theorem dL_law_701 : decode cL_law 701 = .ok (.ifCond .eq 5, 3) := by decide +kernel
theorem dL_law_704 : decode cL_law 704 = .ok (.iconst 0, 1) := by decide +kernel
theorem dL_law_705 : decode cL_law 705 = .ok (.ireturn, 1) := by decide +kernel
theorem dL_law_706 : decode cL_law 706 = .ok (.goto 265, 3) := by decide +kernel
theorem dL_law_709 : decode cL_law 709 = .ok (.aload_n 1, 1) := by decide +kernel
theorem dL_law_710 : decode cL_law 710 = .ok (.invokevirtual 109, 3) := by decide +kernel
theorem dL_law_713 : decode cL_law 713 = .ok (.aload_n 2, 1) := by decide +kernel
theorem dL_law_714 : decode cL_law 714 = .ok (.invokevirtual 112, 3) := by decide +kernel
theorem dL_law_717 : decode cL_law 717 = .ok (.if_icmp .eq 254, 3) := by decide +kernel
theorem dL_law_720 : decode cL_law 720 = .ok (.iconst 0, 1) := by decide +kernel
theorem dL_law_721 : decode cL_law 721 = .ok (.ireturn, 1) := by decide +kernel
theorem dL_law_722 : decode cL_law 722 = .ok (.aload_n 1, 1) := by decide +kernel
theorem dL_law_723 : decode cL_law 723 = .ok (.invokevirtual 113, 3) := by decide +kernel
theorem dL_law_726 : decode cL_law 726 = .ok (.aload_n 2, 1) := by decide +kernel
theorem dL_law_727 : decode cL_law 727 = .ok (.invokevirtual 116, 3) := by decide +kernel
theorem dL_law_730 : decode cL_law 730 = .ok (.if_icmp .eq 241, 3) := by decide +kernel
theorem dL_law_733 : decode cL_law 733 = .ok (.iconst 0, 1) := by decide +kernel
theorem dL_law_734 : decode cL_law 734 = .ok (.ireturn, 1) := by decide +kernel
theorem dL_law_735 : decode cL_law 735 = .ok (.aload_n 1, 1) := by decide +kernel
theorem dL_law_736 : decode cL_law 736 = .ok (.aload_n 0, 1) := by decide +kernel
theorem dL_law_737 : decode cL_law 737 = .ok (.iload 4, 2) := by decide +kernel
theorem dL_law_739 : decode cL_law 739 = .ok (.iconst 1, 1) := by decide +kernel
theorem dL_law_740 : decode cL_law 740 = .ok (.iadd, 1) := by decide +kernel
theorem dL_law_741 : decode cL_law 741 = .ok (.iaload, 1) := by decide +kernel
theorem dL_law_742 : decode cL_law 742 = .ok (.invokevirtual 117, 3) := by decide +kernel
theorem dL_law_745 : decode cL_law 745 = .ok (.aload_n 2, 1) := by decide +kernel
theorem dL_law_746 : decode cL_law 746 = .ok (.aload_n 0, 1) := by decide +kernel
theorem dL_law_747 : decode cL_law 747 = .ok (.iload 4, 2) := by decide +kernel
theorem dL_law_749 : decode cL_law 749 = .ok (.iconst 1, 1) := by decide +kernel
theorem dL_law_750 : decode cL_law 750 = .ok (.iadd, 1) := by decide +kernel
theorem dL_law_751 : decode cL_law 751 = .ok (.iaload, 1) := by decide +kernel
theorem dL_law_752 : decode cL_law 752 = .ok (.invokevirtual 120, 3) := by decide +kernel
theorem dL_law_755 : decode cL_law 755 = .ok (.if_icmp .eq 216, 3) := by decide +kernel
theorem dL_law_758 : decode cL_law 758 = .ok (.iconst 0, 1) := by decide +kernel
theorem dL_law_759 : decode cL_law 759 = .ok (.ireturn, 1) := by decide +kernel
theorem dL_law_760 : decode cL_law 760 = .ok (.aload_n 1, 1) := by decide +kernel
theorem dL_law_761 : decode cL_law 761 = .ok (.aload_n 0, 1) := by decide +kernel
theorem dL_law_762 : decode cL_law 762 = .ok (.iload 4, 2) := by decide +kernel
theorem dL_law_764 : decode cL_law 764 = .ok (.iconst 1, 1) := by decide +kernel
theorem dL_law_765 : decode cL_law 765 = .ok (.iadd, 1) := by decide +kernel
theorem dL_law_766 : decode cL_law 766 = .ok (.iaload, 1) := by decide +kernel
theorem dL_law_767 : decode cL_law 767 = .ok (.aload_n 0, 1) := by decide +kernel
theorem dL_law_768 : decode cL_law 768 = .ok (.iload 4, 2) := by decide +kernel
theorem dL_law_770 : decode cL_law 770 = .ok (.iconst 2, 1) := by decide +kernel
theorem dL_law_771 : decode cL_law 771 = .ok (.iadd, 1) := by decide +kernel
theorem dL_law_772 : decode cL_law 772 = .ok (.iaload, 1) := by decide +kernel
theorem dL_law_773 : decode cL_law 773 = .ok (.invokevirtual 121, 3) := by decide +kernel
theorem dL_law_776 : decode cL_law 776 = .ok (.aload_n 2, 1) := by decide +kernel
theorem dL_law_777 : decode cL_law 777 = .ok (.aload_n 0, 1) := by decide +kernel
theorem dL_law_778 : decode cL_law 778 = .ok (.iload 4, 2) := by decide +kernel
theorem dL_law_780 : decode cL_law 780 = .ok (.iconst 1, 1) := by decide +kernel
theorem dL_law_781 : decode cL_law 781 = .ok (.iadd, 1) := by decide +kernel
theorem dL_law_782 : decode cL_law 782 = .ok (.iaload, 1) := by decide +kernel
theorem dL_law_783 : decode cL_law 783 = .ok (.aload_n 0, 1) := by decide +kernel
theorem dL_law_784 : decode cL_law 784 = .ok (.iload 4, 2) := by decide +kernel
theorem dL_law_786 : decode cL_law 786 = .ok (.iconst 2, 1) := by decide +kernel
theorem dL_law_787 : decode cL_law 787 = .ok (.iadd, 1) := by decide +kernel
theorem dL_law_788 : decode cL_law 788 = .ok (.iaload, 1) := by decide +kernel
theorem dL_law_789 : decode cL_law 789 = .ok (.invokevirtual 124, 3) := by decide +kernel
theorem dL_law_792 : decode cL_law 792 = .ok (.if_icmp .eq 179, 3) := by decide +kernel
theorem dL_law_795 : decode cL_law 795 = .ok (.iconst 0, 1) := by decide +kernel
theorem dL_law_796 : decode cL_law 796 = .ok (.ireturn, 1) := by decide +kernel
theorem dL_law_797 : decode cL_law 797 = .ok (.aload_n 1, 1) := by decide +kernel
theorem dL_law_798 : decode cL_law 798 = .ok (.aload_n 0, 1) := by decide +kernel
theorem dL_law_799 : decode cL_law 799 = .ok (.iload 4, 2) := by decide +kernel
theorem dL_law_801 : decode cL_law 801 = .ok (.iconst 1, 1) := by decide +kernel
theorem dL_law_802 : decode cL_law 802 = .ok (.iadd, 1) := by decide +kernel
theorem dL_law_803 : decode cL_law 803 = .ok (.iaload, 1) := by decide +kernel
theorem dL_law_804 : decode cL_law 804 = .ok (.aload_n 0, 1) := by decide +kernel
theorem dL_law_805 : decode cL_law 805 = .ok (.iload 4, 2) := by decide +kernel
theorem dL_law_807 : decode cL_law 807 = .ok (.iconst 2, 1) := by decide +kernel
theorem dL_law_808 : decode cL_law 808 = .ok (.iadd, 1) := by decide +kernel
theorem dL_law_809 : decode cL_law 809 = .ok (.iaload, 1) := by decide +kernel
theorem dL_law_810 : decode cL_law 810 = .ok (.invokevirtual 125, 3) := by decide +kernel
theorem dL_law_813 : decode cL_law 813 = .ok (.aload_n 2, 1) := by decide +kernel
theorem dL_law_814 : decode cL_law 814 = .ok (.aload_n 0, 1) := by decide +kernel
theorem dL_law_815 : decode cL_law 815 = .ok (.iload 4, 2) := by decide +kernel
theorem dL_law_817 : decode cL_law 817 = .ok (.iconst 1, 1) := by decide +kernel
theorem dL_law_818 : decode cL_law 818 = .ok (.iadd, 1) := by decide +kernel
theorem dL_law_819 : decode cL_law 819 = .ok (.iaload, 1) := by decide +kernel
theorem dL_law_820 : decode cL_law 820 = .ok (.aload_n 0, 1) := by decide +kernel
theorem dL_law_821 : decode cL_law 821 = .ok (.iload 4, 2) := by decide +kernel
theorem dL_law_823 : decode cL_law 823 = .ok (.iconst 2, 1) := by decide +kernel
theorem dL_law_824 : decode cL_law 824 = .ok (.iadd, 1) := by decide +kernel
theorem dL_law_825 : decode cL_law 825 = .ok (.iaload, 1) := by decide +kernel
theorem dL_law_826 : decode cL_law 826 = .ok (.invokevirtual 128, 3) := by decide +kernel
theorem dL_law_829 : decode cL_law 829 = .ok (.if_icmp .eq 142, 3) := by decide +kernel
theorem dL_law_832 : decode cL_law 832 = .ok (.iconst 0, 1) := by decide +kernel
theorem dL_law_833 : decode cL_law 833 = .ok (.ireturn, 1) := by decide +kernel
theorem dL_law_834 : decode cL_law 834 = .ok (.aload_n 1, 1) := by decide +kernel
theorem dL_law_835 : decode cL_law 835 = .ok (.aload_n 0, 1) := by decide +kernel
theorem dL_law_836 : decode cL_law 836 = .ok (.iload 4, 2) := by decide +kernel
theorem dL_law_838 : decode cL_law 838 = .ok (.iconst 1, 1) := by decide +kernel
theorem dL_law_839 : decode cL_law 839 = .ok (.iadd, 1) := by decide +kernel
theorem dL_law_840 : decode cL_law 840 = .ok (.iaload, 1) := by decide +kernel
theorem dL_law_841 : decode cL_law 841 = .ok (.aload_n 0, 1) := by decide +kernel
theorem dL_law_842 : decode cL_law 842 = .ok (.iload 4, 2) := by decide +kernel
theorem dL_law_844 : decode cL_law 844 = .ok (.iconst 2, 1) := by decide +kernel
theorem dL_law_845 : decode cL_law 845 = .ok (.iadd, 1) := by decide +kernel
theorem dL_law_846 : decode cL_law 846 = .ok (.iaload, 1) := by decide +kernel
theorem dL_law_847 : decode cL_law 847 = .ok (.invokevirtual 129, 3) := by decide +kernel
theorem dL_law_850 : decode cL_law 850 = .ok (.aload_n 2, 1) := by decide +kernel
theorem dL_law_851 : decode cL_law 851 = .ok (.aload_n 0, 1) := by decide +kernel
theorem dL_law_852 : decode cL_law 852 = .ok (.iload 4, 2) := by decide +kernel
theorem dL_law_854 : decode cL_law 854 = .ok (.iconst 1, 1) := by decide +kernel
theorem dL_law_855 : decode cL_law 855 = .ok (.iadd, 1) := by decide +kernel
theorem dL_law_856 : decode cL_law 856 = .ok (.iaload, 1) := by decide +kernel
theorem dL_law_857 : decode cL_law 857 = .ok (.aload_n 0, 1) := by decide +kernel
theorem dL_law_858 : decode cL_law 858 = .ok (.iload 4, 2) := by decide +kernel
theorem dL_law_860 : decode cL_law 860 = .ok (.iconst 2, 1) := by decide +kernel
theorem dL_law_861 : decode cL_law 861 = .ok (.iadd, 1) := by decide +kernel
theorem dL_law_862 : decode cL_law 862 = .ok (.iaload, 1) := by decide +kernel
theorem dL_law_863 : decode cL_law 863 = .ok (.invokevirtual 132, 3) := by decide +kernel
theorem dL_law_866 : decode cL_law 866 = .ok (.if_icmp .eq 105, 3) := by decide +kernel
theorem dL_law_869 : decode cL_law 869 = .ok (.iconst 0, 1) := by decide +kernel
theorem dL_law_870 : decode cL_law 870 = .ok (.ireturn, 1) := by decide +kernel
theorem dL_law_871 : decode cL_law 871 = .ok (.aload_n 1, 1) := by decide +kernel
theorem dL_law_872 : decode cL_law 872 = .ok (.aload_n 0, 1) := by decide +kernel
theorem dL_law_873 : decode cL_law 873 = .ok (.iload 4, 2) := by decide +kernel
theorem dL_law_875 : decode cL_law 875 = .ok (.iconst 1, 1) := by decide +kernel
theorem dL_law_876 : decode cL_law 876 = .ok (.iadd, 1) := by decide +kernel
theorem dL_law_877 : decode cL_law 877 = .ok (.iaload, 1) := by decide +kernel
theorem dL_law_878 : decode cL_law 878 = .ok (.aload_n 0, 1) := by decide +kernel
theorem dL_law_879 : decode cL_law 879 = .ok (.iload 4, 2) := by decide +kernel
theorem dL_law_881 : decode cL_law 881 = .ok (.iconst 2, 1) := by decide +kernel
theorem dL_law_882 : decode cL_law 882 = .ok (.iadd, 1) := by decide +kernel
theorem dL_law_883 : decode cL_law 883 = .ok (.iaload, 1) := by decide +kernel
theorem dL_law_884 : decode cL_law 884 = .ok (.invokevirtual 133, 3) := by decide +kernel
theorem dL_law_887 : decode cL_law 887 = .ok (.aload_n 2, 1) := by decide +kernel
theorem dL_law_888 : decode cL_law 888 = .ok (.aload_n 0, 1) := by decide +kernel
theorem dL_law_889 : decode cL_law 889 = .ok (.iload 4, 2) := by decide +kernel
theorem dL_law_891 : decode cL_law 891 = .ok (.iconst 1, 1) := by decide +kernel
theorem dL_law_892 : decode cL_law 892 = .ok (.iadd, 1) := by decide +kernel
theorem dL_law_893 : decode cL_law 893 = .ok (.iaload, 1) := by decide +kernel
theorem dL_law_894 : decode cL_law 894 = .ok (.aload_n 0, 1) := by decide +kernel
theorem dL_law_895 : decode cL_law 895 = .ok (.iload 4, 2) := by decide +kernel
theorem dL_law_897 : decode cL_law 897 = .ok (.iconst 2, 1) := by decide +kernel
theorem dL_law_898 : decode cL_law 898 = .ok (.iadd, 1) := by decide +kernel
theorem dL_law_899 : decode cL_law 899 = .ok (.iaload, 1) := by decide +kernel
theorem dL_law_900 : decode cL_law 900 = .ok (.invokevirtual 136, 3) := by decide +kernel
theorem dL_law_903 : decode cL_law 903 = .ok (.if_icmp .eq 68, 3) := by decide +kernel
theorem dL_law_906 : decode cL_law 906 = .ok (.iconst 0, 1) := by decide +kernel
theorem dL_law_907 : decode cL_law 907 = .ok (.ireturn, 1) := by decide +kernel
theorem dL_law_908 : decode cL_law 908 = .ok (.aload_n 1, 1) := by decide +kernel
theorem dL_law_909 : decode cL_law 909 = .ok (.invokevirtual 137, 3) := by decide +kernel
theorem dL_law_912 : decode cL_law 912 = .ok (.aload_n 2, 1) := by decide +kernel
theorem dL_law_913 : decode cL_law 913 = .ok (.invokevirtual 140, 3) := by decide +kernel
theorem dL_law_916 : decode cL_law 916 = .ok (.if_icmp .eq 55, 3) := by decide +kernel
theorem dL_law_919 : decode cL_law 919 = .ok (.iconst 0, 1) := by decide +kernel
theorem dL_law_920 : decode cL_law 920 = .ok (.ireturn, 1) := by decide +kernel
theorem dL_law_921 : decode cL_law 921 = .ok (.aload_n 1, 1) := by decide +kernel
theorem dL_law_922 : decode cL_law 922 = .ok (.aload_n 0, 1) := by decide +kernel
theorem dL_law_923 : decode cL_law 923 = .ok (.iload 4, 2) := by decide +kernel
theorem dL_law_925 : decode cL_law 925 = .ok (.iconst 1, 1) := by decide +kernel
theorem dL_law_926 : decode cL_law 926 = .ok (.iadd, 1) := by decide +kernel
theorem dL_law_927 : decode cL_law 927 = .ok (.iaload, 1) := by decide +kernel
theorem dL_law_928 : decode cL_law 928 = .ok (.invokevirtual 141, 3) := by decide +kernel
theorem dL_law_931 : decode cL_law 931 = .ok (.aload_n 2, 1) := by decide +kernel
theorem dL_law_932 : decode cL_law 932 = .ok (.aload_n 0, 1) := by decide +kernel
theorem dL_law_933 : decode cL_law 933 = .ok (.iload 4, 2) := by decide +kernel
theorem dL_law_935 : decode cL_law 935 = .ok (.iconst 1, 1) := by decide +kernel
theorem dL_law_936 : decode cL_law 936 = .ok (.iadd, 1) := by decide +kernel
theorem dL_law_937 : decode cL_law 937 = .ok (.iaload, 1) := by decide +kernel
theorem dL_law_938 : decode cL_law 938 = .ok (.invokevirtual 144, 3) := by decide +kernel
theorem dL_law_941 : decode cL_law 941 = .ok (.if_icmp .eq 30, 3) := by decide +kernel
theorem dL_law_944 : decode cL_law 944 = .ok (.iconst 0, 1) := by decide +kernel
theorem dL_law_945 : decode cL_law 945 = .ok (.ireturn, 1) := by decide +kernel
theorem dL_law_946 : decode cL_law 946 = .ok (.aload_n 1, 1) := by decide +kernel
theorem dL_law_947 : decode cL_law 947 = .ok (.aload_n 0, 1) := by decide +kernel
theorem dL_law_948 : decode cL_law 948 = .ok (.iload 4, 2) := by decide +kernel
theorem dL_law_950 : decode cL_law 950 = .ok (.iconst 1, 1) := by decide +kernel
theorem dL_law_951 : decode cL_law 951 = .ok (.iadd, 1) := by decide +kernel
theorem dL_law_952 : decode cL_law 952 = .ok (.iaload, 1) := by decide +kernel
theorem dL_law_953 : decode cL_law 953 = .ok (.invokevirtual 145, 3) := by decide +kernel
theorem dL_law_956 : decode cL_law 956 = .ok (.aload_n 2, 1) := by decide +kernel
theorem dL_law_957 : decode cL_law 957 = .ok (.aload_n 0, 1) := by decide +kernel
theorem dL_law_958 : decode cL_law 958 = .ok (.iload 4, 2) := by decide +kernel
theorem dL_law_960 : decode cL_law 960 = .ok (.iconst 1, 1) := by decide +kernel
theorem dL_law_961 : decode cL_law 961 = .ok (.iadd, 1) := by decide +kernel
theorem dL_law_962 : decode cL_law 962 = .ok (.iaload, 1) := by decide +kernel
theorem dL_law_963 : decode cL_law 963 = .ok (.invokevirtual 148, 3) := by decide +kernel
theorem dL_law_966 : decode cL_law 966 = .ok (.if_icmp .eq 5, 3) := by decide +kernel
theorem dL_law_969 : decode cL_law 969 = .ok (.iconst 0, 1) := by decide +kernel
theorem dL_law_970 : decode cL_law 970 = .ok (.ireturn, 1) := by decide +kernel
theorem dL_law_971 : decode cL_law 971 = .ok (.iinc 4 6, 3) := by decide +kernel
theorem dL_law_974 : decode cL_law 974 = .ok (.goto (-951), 3) := by decide +kernel
theorem dL_law_977 : decode cL_law 977 = .ok (.iconst 1, 1) := by decide +kernel
theorem dL_law_978 : decode cL_law 978 = .ok (.ireturn, 1) := by decide +kernel
