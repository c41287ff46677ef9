/-! decode rows, printed by program, part 1 -/
theorem dX0_init_0 : decode cX0_init 0 = .ok (.aload_n 0, 1) := by decide +kernel
theorem dX0_init_1 : decode cX0_init 1 = .ok (.invokespecial 3, 3) := by decide +kernel
theorem dX0_init_4 : decode cX0_init 4 = .ok (.aload_n 0, 1) := by decide +kernel
theorem dX0_init_5 : decode cX0_init 5 = .ok (.bipush 12, 2) := by decide +kernel
theorem dX0_init_7 : decode cX0_init 7 = .ok (.newarray .long, 2) := by decide +kernel
theorem dX0_init_9 : decode cX0_init 9 = .ok (.putfield 9, 3) := by decide +kernel
theorem dX0_init_12 : decode cX0_init 12 = .ok (.aload_n 0, 1) := by decide +kernel
theorem dX0_init_13 : decode cX0_init 13 = .ok (.bipush 12, 2) := by decide +kernel
theorem dX0_init_15 : decode cX0_init 15 = .ok (.newarray .int, 2) := by decide +kernel
theorem dX0_init_17 : decode cX0_init 17 = .ok (.putfield 15, 3) := by decide +kernel
theorem dX0_init_20 : decode cX0_init 20 = .ok (.return_, 1) := by decide +kernel
theorem dX0_run_0 : decode cX0_run 0 = .ok (.aload_n 0, 1) := by decide +kernel
theorem dX0_run_1 : decode cX0_run 1 = .ok (.aload_n 1, 1) := by decide +kernel
theorem dX0_run_2 : decode cX0_run 2 = .ok (.invokevirtual 19, 3) := by decide +kernel
theorem dX0_run_5 : decode cX0_run 5 = .ok (.iconst 0, 1) := by decide +kernel
theorem dX0_run_6 : decode cX0_run 6 = .ok (.istore_n 3, 1) := by decide +kernel
theorem dX0_run_7 : decode cX0_run 7 = .ok (.iload_n 3, 1) := by decide +kernel
theorem dX0_run_8 : decode cX0_run 8 = .ok (.bipush 12, 2) := by decide +kernel
theorem dX0_run_10 : decode cX0_run 10 = .ok (.if_icmp .ge 59, 3) := by decide +kernel
theorem dX0_run_13 : decode cX0_run 13 = .ok (.aload_n 0, 1) := by decide +kernel
theorem dX0_run_14 : decode cX0_run 14 = .ok (.getfield 23, 3) := by decide +kernel
theorem dX0_run_17 : decode cX0_run 17 = .ok (.ifCond .eq 52, 3) := by decide +kernel
theorem dX0_run_20 : decode cX0_run 20 = .ok (.aload_n 0, 1) := by decide +kernel
theorem dX0_run_21 : decode cX0_run 21 = .ok (.aload_n 1, 1) := by decide +kernel
theorem dX0_run_22 : decode cX0_run 22 = .ok (.invokevirtual 27, 3) := by decide +kernel
theorem dX0_run_25 : decode cX0_run 25 = .ok (.aload_n 0, 1) := by decide +kernel
theorem dX0_run_26 : decode cX0_run 26 = .ok (.getfield 23, 3) := by decide +kernel
theorem dX0_run_29 : decode cX0_run 29 = .ok (.ifCond .eq 34, 3) := by decide +kernel
theorem dX0_run_32 : decode cX0_run 32 = .ok (.aload_n 0, 1) := by decide +kernel
theorem dX0_run_33 : decode cX0_run 33 = .ok (.aload_n 1, 1) := by decide +kernel
theorem dX0_run_34 : decode cX0_run 34 = .ok (.aload_n 2, 1) := by decide +kernel
theorem dX0_run_35 : decode cX0_run 35 = .ok (.invokevirtual 30, 3) := by decide +kernel
theorem dX0_run_38 : decode cX0_run 38 = .ok (.istore 4, 2) := by decide +kernel
theorem dX0_run_40 : decode cX0_run 40 = .ok (.iload 4, 2) := by decide +kernel
theorem dX0_run_42 : decode cX0_run 42 = .ok (.ifCond .eq 12, 3) := by decide +kernel
theorem dX0_run_45 : decode cX0_run 45 = .ok (.aload_n 0, 1) := by decide +kernel
theorem dX0_run_46 : decode cX0_run 46 = .ok (.iload 4, 2) := by decide +kernel
theorem dX0_run_48 : decode cX0_run 48 = .ok (.invokevirtual 34, 3) := by decide +kernel
theorem dX0_run_51 : decode cX0_run 51 = .ok (.goto 8, 3) := by decide +kernel
theorem dX0_run_54 : decode cX0_run 54 = .ok (.aload_n 0, 1) := by decide +kernel
theorem dX0_run_55 : decode cX0_run 55 = .ok (.aload_n 1, 1) := by decide +kernel
theorem dX0_run_56 : decode cX0_run 56 = .ok (.invokevirtual 38, 3) := by decide +kernel
theorem dX0_run_59 : decode cX0_run 59 = .ok (.aload_n 0, 1) := by decide +kernel
theorem dX0_run_60 : decode cX0_run 60 = .ok (.invokevirtual 41, 3) := by decide +kernel
theorem dX0_run_63 : decode cX0_run 63 = .ok (.iinc 3 1, 3) := by decide +kernel
theorem dX0_run_66 : decode cX0_run 66 = .ok (.goto (-59), 3) := by decide +kernel
theorem dX0_run_69 : decode cX0_run 69 = .ok (.aload_n 0, 1) := by decide +kernel
theorem dX0_run_70 : decode cX0_run 70 = .ok (.aload_n 1, 1) := by decide +kernel
theorem dX0_run_71 : decode cX0_run 71 = .ok (.getfield 44, 3) := by decide +kernel
theorem dX0_run_74 : decode cX0_run 74 = .ok (.aload_n 2, 1) := by decide +kernel
theorem dX0_run_75 : decode cX0_run 75 = .ok (.invokevirtual 49, 3) := by decide +kernel
theorem dX0_run_78 : decode cX0_run 78 = .ok (.return_, 1) := by decide +kernel
theorem dX0_begin_0 : decode cX0_begin 0 = .ok (.iconst 0, 1) := by decide +kernel
theorem dX0_begin_1 : decode cX0_begin 1 = .ok (.istore_n 2, 1) := by decide +kernel
theorem dX0_begin_2 : decode cX0_begin 2 = .ok (.iload_n 2, 1) := by decide +kernel
theorem dX0_begin_3 : decode cX0_begin 3 = .ok (.aload_n 0, 1) := by decide +kernel
theorem dX0_begin_4 : decode cX0_begin 4 = .ok (.getfield 9, 3) := by decide +kernel
theorem dX0_begin_7 : decode cX0_begin 7 = .ok (.arraylength, 1) := by decide +kernel
theorem dX0_begin_8 : decode cX0_begin 8 = .ok (.if_icmp .ge 21, 3) := by decide +kernel
theorem dX0_begin_11 : decode cX0_begin 11 = .ok (.aload_n 0, 1) := by decide +kernel
theorem dX0_begin_12 : decode cX0_begin 12 = .ok (.getfield 9, 3) := by decide +kernel
theorem dX0_begin_15 : decode cX0_begin 15 = .ok (.iload_n 2, 1) := by decide +kernel
theorem dX0_begin_16 : decode cX0_begin 16 = .ok (.aload_n 1, 1) := by decide +kernel
theorem dX0_begin_17 : decode cX0_begin 17 = .ok (.iload_n 2, 1) := by decide +kernel
theorem dX0_begin_18 : decode cX0_begin 18 = .ok (.invokevirtual 53, 3) := by decide +kernel
theorem dX0_begin_21 : decode cX0_begin 21 = .ok (.i2l, 1) := by decide +kernel
theorem dX0_begin_22 : decode cX0_begin 22 = .ok (.lastore, 1) := by decide +kernel
theorem dX0_begin_23 : decode cX0_begin 23 = .ok (.iinc 2 1, 3) := by decide +kernel
theorem dX0_begin_26 : decode cX0_begin 26 = .ok (.goto (-24), 3) := by decide +kernel
theorem dX0_begin_29 : decode cX0_begin 29 = .ok (.aload_n 0, 1) := by decide +kernel
theorem dX0_begin_30 : decode cX0_begin 30 = .ok (.aload_n 1, 1) := by decide +kernel
theorem dX0_begin_31 : decode cX0_begin 31 = .ok (.getfield 44, 3) := by decide +kernel
theorem dX0_begin_34 : decode cX0_begin 34 = .ok (.putfield 23, 3) := by decide +kernel
theorem dX0_begin_37 : decode cX0_begin 37 = .ok (.aload_n 0, 1) := by decide +kernel
theorem dX0_begin_38 : decode cX0_begin 38 = .ok (.iconst 0, 1) := by decide +kernel
theorem dX0_begin_39 : decode cX0_begin 39 = .ok (.putfield 57, 3) := by decide +kernel
theorem dX0_begin_42 : decode cX0_begin 42 = .ok (.aload_n 0, 1) := by decide +kernel
theorem dX0_begin_43 : decode cX0_begin 43 = .ok (.lconst 0, 1) := by decide +kernel
theorem dX0_begin_44 : decode cX0_begin 44 = .ok (.putfield 60, 3) := by decide +kernel
theorem dX0_begin_47 : decode cX0_begin 47 = .ok (.aload_n 0, 1) := by decide +kernel
theorem dX0_begin_48 : decode cX0_begin 48 = .ok (.lconst 1, 1) := by decide +kernel
theorem dX0_begin_49 : decode cX0_begin 49 = .ok (.putfield 64, 3) := by decide +kernel
theorem dX0_begin_52 : decode cX0_begin 52 = .ok (.return_, 1) := by decide +kernel
theorem dX0_strip_0 : decode cX0_strip 0 = .ok (.iconst 0, 1) := by decide +kernel
theorem dX0_strip_1 : decode cX0_strip 1 = .ok (.istore_n 2, 1) := by decide +kernel
theorem dX0_strip_2 : decode cX0_strip 2 = .ok (.iload_n 2, 1) := by decide +kernel
theorem dX0_strip_3 : decode cX0_strip 3 = .ok (.bipush 12, 2) := by decide +kernel
theorem dX0_strip_5 : decode cX0_strip 5 = .ok (.if_icmp .ge 80, 3) := by decide +kernel
theorem dX0_strip_8 : decode cX0_strip 8 = .ok (.aload_n 0, 1) := by decide +kernel
theorem dX0_strip_9 : decode cX0_strip 9 = .ok (.getfield 23, 3) := by decide +kernel
theorem dX0_strip_12 : decode cX0_strip 12 = .ok (.istore_n 3, 1) := by decide +kernel
theorem dX0_strip_13 : decode cX0_strip 13 = .ok (.iconst 0, 1) := by decide +kernel
theorem dX0_strip_14 : decode cX0_strip 14 = .ok (.istore 4, 2) := by decide +kernel
theorem dX0_strip_16 : decode cX0_strip 16 = .ok (.iload 4, 2) := by decide +kernel
theorem dX0_strip_18 : decode cX0_strip 18 = .ok (.bipush 12, 2) := by decide +kernel
theorem dX0_strip_20 : decode cX0_strip 20 = .ok (.if_icmp .ge 50, 3) := by decide +kernel
theorem dX0_strip_23 : decode cX0_strip 23 = .ok (.aload_n 0, 1) := by decide +kernel
theorem dX0_strip_24 : decode cX0_strip 24 = .ok (.getfield 23, 3) := by decide +kernel
theorem dX0_strip_27 : decode cX0_strip 27 = .ok (.iload 4, 2) := by decide +kernel
theorem dX0_strip_29 : decode cX0_strip 29 = .ok (.invokestatic 67, 3) := by decide +kernel
theorem dX0_strip_32 : decode cX0_strip 32 = .ok (.ifCond .eq 32, 3) := by decide +kernel
theorem dX0_strip_35 : decode cX0_strip 35 = .ok (.aload_n 1, 1) := by decide +kernel
theorem dX0_strip_36 : decode cX0_strip 36 = .ok (.iload 4, 2) := by decide +kernel
theorem dX0_strip_38 : decode cX0_strip 38 = .ok (.aload_n 0, 1) := by decide +kernel
theorem dX0_strip_39 : decode cX0_strip 39 = .ok (.getfield 23, 3) := by decide +kernel
theorem dX0_strip_42 : decode cX0_strip 42 = .ok (.invokevirtual 71, 3) := by decide +kernel
theorem dX0_strip_45 : decode cX0_strip 45 = .ok (.iconst 1, 1) := by decide +kernel
theorem dX0_strip_46 : decode cX0_strip 46 = .ok (.if_icmp .gt 18, 3) := by decide +kernel
theorem dX0_strip_49 : decode cX0_strip 49 = .ok (.aload_n 0, 1) := by decide +kernel
theorem dX0_strip_50 : decode cX0_strip 50 = .ok (.dup, 1) := by decide +kernel
theorem dX0_strip_51 : decode cX0_strip 51 = .ok (.getfield 23, 3) := by decide +kernel
theorem dX0_strip_54 : decode cX0_strip 54 = .ok (.iconst 1, 1) := by decide +kernel
theorem dX0_strip_55 : decode cX0_strip 55 = .ok (.iload 4, 2) := by decide +kernel
theorem dX0_strip_57 : decode cX0_strip 57 = .ok (.ishl, 1) := by decide +kernel
theorem dX0_strip_58 : decode cX0_strip 58 = .ok (.iconst (-1), 1) := by decide +kernel
theorem dX0_strip_59 : decode cX0_strip 59 = .ok (.ixor, 1) := by decide +kernel
theorem dX0_strip_60 : decode cX0_strip 60 = .ok (.iand, 1) := by decide +kernel
theorem dX0_strip_61 : decode cX0_strip 61 = .ok (.putfield 23, 3) := by decide +kernel
theorem dX0_strip_64 : decode cX0_strip 64 = .ok (.iinc 4 1, 3) := by decide +kernel
theorem dX0_strip_67 : decode cX0_strip 67 = .ok (.goto (-51), 3) := by decide +kernel
theorem dX0_strip_70 : decode cX0_strip 70 = .ok (.aload_n 0, 1) := by decide +kernel
theorem dX0_strip_71 : decode cX0_strip 71 = .ok (.getfield 23, 3) := by decide +kernel
theorem dX0_strip_74 : decode cX0_strip 74 = .ok (.iload_n 3, 1) := by decide +kernel
theorem dX0_strip_75 : decode cX0_strip 75 = .ok (.if_icmp .ne 4, 3) := by decide +kernel
theorem dX0_strip_78 : decode cX0_strip 78 = .ok (.return_, 1) := by decide +kernel
theorem dX0_strip_79 : decode cX0_strip 79 = .ok (.iinc 2 1, 3) := by decide +kernel
theorem dX0_strip_82 : decode cX0_strip 82 = .ok (.goto (-80), 3) := by decide +kernel
theorem dX0_strip_85 : decode cX0_strip 85 = .ok (.return_, 1) := by decide +kernel
theorem dX0_leastOpenRing_0 : decode cX0_leastOpenRing 0 = .ok (.iconst 0, 1) := by decide +kernel
theorem dX0_leastOpenRing_1 : decode cX0_leastOpenRing 1 = .ok (.istore_n 3, 1) := by decide +kernel
theorem dX0_leastOpenRing_2 : decode cX0_leastOpenRing 2 = .ok (.iconst 0, 1) := by decide +kernel
theorem dX0_leastOpenRing_3 : decode cX0_leastOpenRing 3 = .ok (.istore 4, 2) := by decide +kernel
theorem dX0_leastOpenRing_5 : decode cX0_leastOpenRing 5 = .ok (.iload 4, 2) := by decide +kernel
theorem dX0_leastOpenRing_7 : decode cX0_leastOpenRing 7 = .ok (.bipush 12, 2) := by decide +kernel
theorem dX0_leastOpenRing_9 : decode cX0_leastOpenRing 9 = .ok (.if_icmp .ge 42, 3) := by decide +kernel
theorem dX0_leastOpenRing_12 : decode cX0_leastOpenRing 12 = .ok (.aload_n 0, 1) := by decide +kernel
theorem dX0_leastOpenRing_13 : decode cX0_leastOpenRing 13 = .ok (.getfield 23, 3) := by decide +kernel
theorem dX0_leastOpenRing_16 : decode cX0_leastOpenRing 16 = .ok (.iload 4, 2) := by decide +kernel
theorem dX0_leastOpenRing_18 : decode cX0_leastOpenRing 18 = .ok (.invokestatic 67, 3) := by decide +kernel
theorem dX0_leastOpenRing_21 : decode cX0_leastOpenRing 21 = .ok (.ifCond .eq 24, 3) := by decide +kernel
theorem dX0_leastOpenRing_24 : decode cX0_leastOpenRing 24 = .ok (.aload_n 1, 1) := by decide +kernel
theorem dX0_leastOpenRing_25 : decode cX0_leastOpenRing 25 = .ok (.iload 4, 2) := by decide +kernel
theorem dX0_leastOpenRing_27 : decode cX0_leastOpenRing 27 = .ok (.aload_n 0, 1) := by decide +kernel
theorem dX0_leastOpenRing_28 : decode cX0_leastOpenRing 28 = .ok (.getfield 23, 3) := by decide +kernel
theorem dX0_leastOpenRing_31 : decode cX0_leastOpenRing 31 = .ok (.invokevirtual 71, 3) := by decide +kernel
theorem dX0_leastOpenRing_34 : decode cX0_leastOpenRing 34 = .ok (.iconst 2, 1) := by decide +kernel
theorem dX0_leastOpenRing_35 : decode cX0_leastOpenRing 35 = .ok (.if_icmp .le 10, 3) := by decide +kernel
theorem dX0_leastOpenRing_38 : decode cX0_leastOpenRing 38 = .ok (.iload_n 3, 1) := by decide +kernel
theorem dX0_leastOpenRing_39 : decode cX0_leastOpenRing 39 = .ok (.iconst 1, 1) := by decide +kernel
theorem dX0_leastOpenRing_40 : decode cX0_leastOpenRing 40 = .ok (.iload 4, 2) := by decide +kernel
theorem dX0_leastOpenRing_42 : decode cX0_leastOpenRing 42 = .ok (.ishl, 1) := by decide +kernel
theorem dX0_leastOpenRing_43 : decode cX0_leastOpenRing 43 = .ok (.ior, 1) := by decide +kernel
theorem dX0_leastOpenRing_44 : decode cX0_leastOpenRing 44 = .ok (.istore_n 3, 1) := by decide +kernel
theorem dX0_leastOpenRing_45 : decode cX0_leastOpenRing 45 = .ok (.iinc 4 1, 3) := by decide +kernel
theorem dX0_leastOpenRing_48 : decode cX0_leastOpenRing 48 = .ok (.goto (-43), 3) := by decide +kernel
theorem dX0_leastOpenRing_51 : decode cX0_leastOpenRing 51 = .ok (.iconst 0, 1) := by decide +kernel
theorem dX0_leastOpenRing_52 : decode cX0_leastOpenRing 52 = .ok (.istore 4, 2) := by decide +kernel
theorem dX0_leastOpenRing_54 : decode cX0_leastOpenRing 54 = .ok (.iconst 0, 1) := by decide +kernel
theorem dX0_leastOpenRing_55 : decode cX0_leastOpenRing 55 = .ok (.istore 5, 2) := by decide +kernel
theorem dX0_leastOpenRing_57 : decode cX0_leastOpenRing 57 = .ok (.iload 5, 2) := by decide +kernel
theorem dX0_leastOpenRing_59 : decode cX0_leastOpenRing 59 = .ok (.aload_n 2, 1) := by decide +kernel
theorem dX0_leastOpenRing_60 : decode cX0_leastOpenRing 60 = .ok (.getfield 75, 3) := by decide +kernel
theorem dX0_leastOpenRing_63 : decode cX0_leastOpenRing 63 = .ok (.if_icmp .ge 68, 3) := by decide +kernel
theorem dX0_leastOpenRing_66 : decode cX0_leastOpenRing 66 = .ok (.aload_n 2, 1) := by decide +kernel
theorem dX0_leastOpenRing_67 : decode cX0_leastOpenRing 67 = .ok (.iload 5, 2) := by decide +kernel
theorem dX0_leastOpenRing_69 : decode cX0_leastOpenRing 69 = .ok (.invokevirtual 80, 3) := by decide +kernel
theorem dX0_leastOpenRing_72 : decode cX0_leastOpenRing 72 = .ok (.istore 6, 2) := by decide +kernel
theorem dX0_leastOpenRing_74 : decode cX0_leastOpenRing 74 = .ok (.iload 6, 2) := by decide +kernel
theorem dX0_leastOpenRing_76 : decode cX0_leastOpenRing 76 = .ok (.aload_n 0, 1) := by decide +kernel
theorem dX0_leastOpenRing_77 : decode cX0_leastOpenRing 77 = .ok (.getfield 23, 3) := by decide +kernel
theorem dX0_leastOpenRing_80 : decode cX0_leastOpenRing 80 = .ok (.iconst (-1), 1) := by decide +kernel
theorem dX0_leastOpenRing_81 : decode cX0_leastOpenRing 81 = .ok (.ixor, 1) := by decide +kernel
theorem dX0_leastOpenRing_82 : decode cX0_leastOpenRing 82 = .ok (.iand, 1) := by decide +kernel
theorem dX0_leastOpenRing_83 : decode cX0_leastOpenRing 83 = .ok (.ifCond .ne 18, 3) := by decide +kernel
theorem dX0_leastOpenRing_86 : decode cX0_leastOpenRing 86 = .ok (.iload 6, 2) := by decide +kernel
theorem dX0_leastOpenRing_88 : decode cX0_leastOpenRing 88 = .ok (.iload_n 3, 1) := by decide +kernel
theorem dX0_leastOpenRing_89 : decode cX0_leastOpenRing 89 = .ok (.iand, 1) := by decide +kernel
theorem dX0_leastOpenRing_90 : decode cX0_leastOpenRing 90 = .ok (.invokestatic 83, 3) := by decide +kernel
theorem dX0_leastOpenRing_93 : decode cX0_leastOpenRing 93 = .ok (.iconst 1, 1) := by decide +kernel
theorem dX0_leastOpenRing_94 : decode cX0_leastOpenRing 94 = .ok (.if_icmp .gt 7, 3) := by decide +kernel
theorem dX0_leastOpenRing_97 : decode cX0_leastOpenRing 97 = .ok (.iconst 1, 1) := by decide +kernel
theorem dX0_leastOpenRing_98 : decode cX0_leastOpenRing 98 = .ok (.goto 4, 3) := by decide +kernel
theorem dX0_leastOpenRing_101 : decode cX0_leastOpenRing 101 = .ok (.iconst 0, 1) := by decide +kernel
theorem dX0_leastOpenRing_102 : decode cX0_leastOpenRing 102 = .ok (.istore 7, 2) := by decide +kernel
theorem dX0_leastOpenRing_104 : decode cX0_leastOpenRing 104 = .ok (.iload 7, 2) := by decide +kernel
theorem dX0_leastOpenRing_106 : decode cX0_leastOpenRing 106 = .ok (.ifCond .eq 19, 3) := by decide +kernel
theorem dX0_leastOpenRing_109 : decode cX0_leastOpenRing 109 = .ok (.iload 4, 2) := by decide +kernel
theorem dX0_leastOpenRing_111 : decode cX0_leastOpenRing 111 = .ok (.ifCond .eq 10, 3) := by decide +kernel
theorem dX0_leastOpenRing_114 : decode cX0_leastOpenRing 114 = .ok (.iload 6, 2) := by decide +kernel
theorem dX0_leastOpenRing_116 : decode cX0_leastOpenRing 116 = .ok (.iload 4, 2) := by decide +kernel
theorem dX0_leastOpenRing_118 : decode cX0_leastOpenRing 118 = .ok (.if_icmp .ge 7, 3) := by decide +kernel
theorem dX0_leastOpenRing_121 : decode cX0_leastOpenRing 121 = .ok (.iload 6, 2) := by decide +kernel
theorem dX0_leastOpenRing_123 : decode cX0_leastOpenRing 123 = .ok (.istore 4, 2) := by decide +kernel
theorem dX0_leastOpenRing_125 : decode cX0_leastOpenRing 125 = .ok (.iinc 5 1, 3) := by decide +kernel
theorem dX0_leastOpenRing_128 : decode cX0_leastOpenRing 128 = .ok (.goto (-71), 3) := by decide +kernel
theorem dX0_leastOpenRing_131 : decode cX0_leastOpenRing 131 = .ok (.iload 4, 2) := by decide +kernel
theorem dX0_leastOpenRing_133 : decode cX0_leastOpenRing 133 = .ok (.ireturn, 1) := by decide +kernel
theorem dX0_takeFromRing_0 : decode cX0_takeFromRing 0 = .ok (.ldc2_w 90, 3) := by decide +kernel
theorem dX0_takeFromRing_3 : decode cX0_takeFromRing 3 = .ok (.lstore_n 2, 1) := by decide +kernel
theorem dX0_takeFromRing_4 : decode cX0_takeFromRing 4 = .ok (.iconst 0, 1) := by decide +kernel
theorem dX0_takeFromRing_5 : decode cX0_takeFromRing 5 = .ok (.istore 4, 2) := by decide +kernel
theorem dX0_takeFromRing_7 : decode cX0_takeFromRing 7 = .ok (.iload 4, 2) := by decide +kernel
theorem dX0_takeFromRing_9 : decode cX0_takeFromRing 9 = .ok (.aload_n 0, 1) := by decide +kernel
theorem dX0_takeFromRing_10 : decode cX0_takeFromRing 10 = .ok (.getfield 9, 3) := by decide +kernel
theorem dX0_takeFromRing_13 : decode cX0_takeFromRing 13 = .ok (.arraylength, 1) := by decide +kernel
theorem dX0_takeFromRing_14 : decode cX0_takeFromRing 14 = .ok (.if_icmp .ge 30, 3) := by decide +kernel
theorem dX0_takeFromRing_17 : decode cX0_takeFromRing 17 = .ok (.iload_n 1, 1) := by decide +kernel
theorem dX0_takeFromRing_18 : decode cX0_takeFromRing 18 = .ok (.iload 4, 2) := by decide +kernel
theorem dX0_takeFromRing_20 : decode cX0_takeFromRing 20 = .ok (.invokestatic 67, 3) := by decide +kernel
theorem dX0_takeFromRing_23 : decode cX0_takeFromRing 23 = .ok (.ifCond .eq 15, 3) := by decide +kernel
theorem dX0_takeFromRing_26 : decode cX0_takeFromRing 26 = .ok (.lload_n 2, 1) := by decide +kernel
theorem dX0_takeFromRing_27 : decode cX0_takeFromRing 27 = .ok (.aload_n 0, 1) := by decide +kernel
theorem dX0_takeFromRing_28 : decode cX0_takeFromRing 28 = .ok (.getfield 9, 3) := by decide +kernel
theorem dX0_takeFromRing_31 : decode cX0_takeFromRing 31 = .ok (.iload 4, 2) := by decide +kernel
theorem dX0_takeFromRing_33 : decode cX0_takeFromRing 33 = .ok (.laload, 1) := by decide +kernel
theorem dX0_takeFromRing_34 : decode cX0_takeFromRing 34 = .ok (.invokestatic 92, 3) := by decide +kernel
theorem dX0_takeFromRing_37 : decode cX0_takeFromRing 37 = .ok (.lstore_n 2, 1) := by decide +kernel
theorem dX0_takeFromRing_38 : decode cX0_takeFromRing 38 = .ok (.iinc 4 1, 3) := by decide +kernel
theorem dX0_takeFromRing_41 : decode cX0_takeFromRing 41 = .ok (.goto (-34), 3) := by decide +kernel
theorem dX0_takeFromRing_44 : decode cX0_takeFromRing 44 = .ok (.iconst 0, 1) := by decide +kernel
theorem dX0_takeFromRing_45 : decode cX0_takeFromRing 45 = .ok (.istore 4, 2) := by decide +kernel
theorem dX0_takeFromRing_47 : decode cX0_takeFromRing 47 = .ok (.iload 4, 2) := by decide +kernel
theorem dX0_takeFromRing_49 : decode cX0_takeFromRing 49 = .ok (.aload_n 0, 1) := by decide +kernel
theorem dX0_takeFromRing_50 : decode cX0_takeFromRing 50 = .ok (.getfield 9, 3) := by decide +kernel
theorem dX0_takeFromRing_53 : decode cX0_takeFromRing 53 = .ok (.arraylength, 1) := by decide +kernel
theorem dX0_takeFromRing_54 : decode cX0_takeFromRing 54 = .ok (.if_icmp .ge 29, 3) := by decide +kernel
theorem dX0_takeFromRing_57 : decode cX0_takeFromRing 57 = .ok (.iload_n 1, 1) := by decide +kernel
theorem dX0_takeFromRing_58 : decode cX0_takeFromRing 58 = .ok (.iload 4, 2) := by decide +kernel
theorem dX0_takeFromRing_60 : decode cX0_takeFromRing 60 = .ok (.invokestatic 67, 3) := by decide +kernel
theorem dX0_takeFromRing_63 : decode cX0_takeFromRing 63 = .ok (.ifCond .eq 14, 3) := by decide +kernel
theorem dX0_takeFromRing_66 : decode cX0_takeFromRing 66 = .ok (.aload_n 0, 1) := by decide +kernel
theorem dX0_takeFromRing_67 : decode cX0_takeFromRing 67 = .ok (.getfield 9, 3) := by decide +kernel
theorem dX0_takeFromRing_70 : decode cX0_takeFromRing 70 = .ok (.iload 4, 2) := by decide +kernel
theorem dX0_takeFromRing_72 : decode cX0_takeFromRing 72 = .ok (.dup2, 1) := by decide +kernel
theorem dX0_takeFromRing_73 : decode cX0_takeFromRing 73 = .ok (.laload, 1) := by decide +kernel
theorem dX0_takeFromRing_74 : decode cX0_takeFromRing 74 = .ok (.lload_n 2, 1) := by decide +kernel
theorem dX0_takeFromRing_75 : decode cX0_takeFromRing 75 = .ok (.lsub, 1) := by decide +kernel
theorem dX0_takeFromRing_76 : decode cX0_takeFromRing 76 = .ok (.lastore, 1) := by decide +kernel
theorem dX0_takeFromRing_77 : decode cX0_takeFromRing 77 = .ok (.iinc 4 1, 3) := by decide +kernel
theorem dX0_takeFromRing_80 : decode cX0_takeFromRing 80 = .ok (.goto (-33), 3) := by decide +kernel
theorem dX0_takeFromRing_83 : decode cX0_takeFromRing 83 = .ok (.aload_n 0, 1) := by decide +kernel
theorem dX0_takeFromRing_84 : decode cX0_takeFromRing 84 = .ok (.dup, 1) := by decide +kernel
theorem dX0_takeFromRing_85 : decode cX0_takeFromRing 85 = .ok (.getfield 60, 3) := by decide +kernel
theorem dX0_takeFromRing_88 : decode cX0_takeFromRing 88 = .ok (.lload_n 2, 1) := by decide +kernel
theorem dX0_takeFromRing_89 : decode cX0_takeFromRing 89 = .ok (.ladd, 1) := by decide +kernel
theorem dX0_takeFromRing_90 : decode cX0_takeFromRing 90 = .ok (.putfield 60, 3) := by decide +kernel
theorem dX0_takeFromRing_93 : decode cX0_takeFromRing 93 = .ok (.return_, 1) := by decide +kernel
theorem dX0_takeFromAll_0 : decode cX0_takeFromAll 0 = .ok (.lconst 0, 1) := by decide +kernel
theorem dX0_takeFromAll_1 : decode cX0_takeFromAll 1 = .ok (.lstore_n 2, 1) := by decide +kernel
theorem dX0_takeFromAll_2 : decode cX0_takeFromAll 2 = .ok (.iconst 0, 1) := by decide +kernel
theorem dX0_takeFromAll_3 : decode cX0_takeFromAll 3 = .ok (.istore 4, 2) := by decide +kernel
theorem dX0_takeFromAll_5 : decode cX0_takeFromAll 5 = .ok (.iconst 0, 1) := by decide +kernel
theorem dX0_takeFromAll_6 : decode cX0_takeFromAll 6 = .ok (.istore 5, 2) := by decide +kernel
theorem dX0_takeFromAll_8 : decode cX0_takeFromAll 8 = .ok (.iload 5, 2) := by decide +kernel
theorem dX0_takeFromAll_10 : decode cX0_takeFromAll 10 = .ok (.aload_n 0, 1) := by decide +kernel
theorem dX0_takeFromAll_11 : decode cX0_takeFromAll 11 = .ok (.getfield 9, 3) := by decide +kernel
theorem dX0_takeFromAll_14 : decode cX0_takeFromAll 14 = .ok (.arraylength, 1) := by decide +kernel
theorem dX0_takeFromAll_15 : decode cX0_takeFromAll 15 = .ok (.if_icmp .ge 72, 3) := by decide +kernel
theorem dX0_takeFromAll_18 : decode cX0_takeFromAll 18 = .ok (.aload_n 0, 1) := by decide +kernel
theorem dX0_takeFromAll_19 : decode cX0_takeFromAll 19 = .ok (.getfield 23, 3) := by decide +kernel
theorem dX0_takeFromAll_22 : decode cX0_takeFromAll 22 = .ok (.iload 5, 2) := by decide +kernel
theorem dX0_takeFromAll_24 : decode cX0_takeFromAll 24 = .ok (.invokestatic 67, 3) := by decide +kernel
theorem dX0_takeFromAll_27 : decode cX0_takeFromAll 27 = .ok (.ifCond .eq 54, 3) := by decide +kernel
theorem dX0_takeFromAll_30 : decode cX0_takeFromAll 30 = .ok (.aload_n 1, 1) := by decide +kernel
theorem dX0_takeFromAll_31 : decode cX0_takeFromAll 31 = .ok (.iload 5, 2) := by decide +kernel
theorem dX0_takeFromAll_33 : decode cX0_takeFromAll 33 = .ok (.aload_n 0, 1) := by decide +kernel
theorem dX0_takeFromAll_34 : decode cX0_takeFromAll 34 = .ok (.getfield 23, 3) := by decide +kernel
theorem dX0_takeFromAll_37 : decode cX0_takeFromAll 37 = .ok (.invokevirtual 71, 3) := by decide +kernel
theorem dX0_takeFromAll_40 : decode cX0_takeFromAll 40 = .ok (.iconst 1, 1) := by decide +kernel
theorem dX0_takeFromAll_41 : decode cX0_takeFromAll 41 = .ok (.isub, 1) := by decide +kernel
theorem dX0_takeFromAll_42 : decode cX0_takeFromAll 42 = .ok (.istore 6, 2) := by decide +kernel
theorem dX0_takeFromAll_44 : decode cX0_takeFromAll 44 = .ok (.iload 4, 2) := by decide +kernel
theorem dX0_takeFromAll_46 : decode cX0_takeFromAll 46 = .ok (.ifCond .eq 23, 3) := by decide +kernel
theorem dX0_takeFromAll_49 : decode cX0_takeFromAll 49 = .ok (.aload_n 0, 1) := by decide +kernel
theorem dX0_takeFromAll_50 : decode cX0_takeFromAll 50 = .ok (.getfield 9, 3) := by decide +kernel
theorem dX0_takeFromAll_53 : decode cX0_takeFromAll 53 = .ok (.iload 5, 2) := by decide +kernel
theorem dX0_takeFromAll_55 : decode cX0_takeFromAll 55 = .ok (.laload, 1) := by decide +kernel
theorem dX0_takeFromAll_56 : decode cX0_takeFromAll 56 = .ok (.iload 4, 2) := by decide +kernel
theorem dX0_takeFromAll_58 : decode cX0_takeFromAll 58 = .ok (.i2l, 1) := by decide +kernel
theorem dX0_takeFromAll_59 : decode cX0_takeFromAll 59 = .ok (.lmul, 1) := by decide +kernel
theorem dX0_takeFromAll_60 : decode cX0_takeFromAll 60 = .ok (.lload_n 2, 1) := by decide +kernel
theorem dX0_takeFromAll_61 : decode cX0_takeFromAll 61 = .ok (.iload 6, 2) := by decide +kernel
theorem dX0_takeFromAll_63 : decode cX0_takeFromAll 63 = .ok (.i2l, 1) := by decide +kernel
theorem dX0_takeFromAll_64 : decode cX0_takeFromAll 64 = .ok (.lmul, 1) := by decide +kernel
theorem dX0_takeFromAll_65 : decode cX0_takeFromAll 65 = .ok (.lcmp, 1) := by decide +kernel
theorem dX0_takeFromAll_66 : decode cX0_takeFromAll 66 = .ok (.ifCond .ge 15, 3) := by decide +kernel
theorem dX0_takeFromAll_69 : decode cX0_takeFromAll 69 = .ok (.aload_n 0, 1) := by decide +kernel
theorem dX0_takeFromAll_70 : decode cX0_takeFromAll 70 = .ok (.getfield 9, 3) := by decide +kernel
theorem dX0_takeFromAll_73 : decode cX0_takeFromAll 73 = .ok (.iload 5, 2) := by decide +kernel
theorem dX0_takeFromAll_75 : decode cX0_takeFromAll 75 = .ok (.laload, 1) := by decide +kernel
theorem dX0_takeFromAll_76 : decode cX0_takeFromAll 76 = .ok (.lstore_n 2, 1) := by decide +kernel
theorem dX0_takeFromAll_77 : decode cX0_takeFromAll 77 = .ok (.iload 6, 2) := by decide +kernel
theorem dX0_takeFromAll_79 : decode cX0_takeFromAll 79 = .ok (.istore 4, 2) := by decide +kernel
theorem dX0_takeFromAll_81 : decode cX0_takeFromAll 81 = .ok (.iinc 5 1, 3) := by decide +kernel
theorem dX0_takeFromAll_84 : decode cX0_takeFromAll 84 = .ok (.goto (-76), 3) := by decide +kernel
theorem dX0_takeFromAll_87 : decode cX0_takeFromAll 87 = .ok (.aload_n 0, 1) := by decide +kernel
theorem dX0_takeFromAll_88 : decode cX0_takeFromAll 88 = .ok (.dup, 1) := by decide +kernel
theorem dX0_takeFromAll_89 : decode cX0_takeFromAll 89 = .ok (.getfield 64, 3) := by decide +kernel
theorem dX0_takeFromAll_92 : decode cX0_takeFromAll 92 = .ok (.iload 4, 2) := by decide +kernel
theorem dX0_takeFromAll_94 : decode cX0_takeFromAll 94 = .ok (.i2l, 1) := by decide +kernel
theorem dX0_takeFromAll_95 : decode cX0_takeFromAll 95 = .ok (.lmul, 1) := by decide +kernel
theorem dX0_takeFromAll_96 : decode cX0_takeFromAll 96 = .ok (.putfield 64, 3) := by decide +kernel
theorem dX0_takeFromAll_99 : decode cX0_takeFromAll 99 = .ok (.aload_n 0, 1) := by decide +kernel
theorem dX0_takeFromAll_100 : decode cX0_takeFromAll 100 = .ok (.dup, 1) := by decide +kernel
theorem dX0_takeFromAll_101 : decode cX0_takeFromAll 101 = .ok (.getfield 60, 3) := by decide +kernel
theorem dX0_takeFromAll_104 : decode cX0_takeFromAll 104 = .ok (.iload 4, 2) := by decide +kernel
theorem dX0_takeFromAll_106 : decode cX0_takeFromAll 106 = .ok (.i2l, 1) := by decide +kernel
theorem dX0_takeFromAll_107 : decode cX0_takeFromAll 107 = .ok (.lmul, 1) := by decide +kernel
theorem dX0_takeFromAll_108 : decode cX0_takeFromAll 108 = .ok (.putfield 60, 3) := by decide +kernel
theorem dX0_takeFromAll_111 : decode cX0_takeFromAll 111 = .ok (.iconst 0, 1) := by decide +kernel
theorem dX0_takeFromAll_112 : decode cX0_takeFromAll 112 = .ok (.istore 5, 2) := by decide +kernel
theorem dX0_takeFromAll_114 : decode cX0_takeFromAll 114 = .ok (.iload 5, 2) := by decide +kernel
theorem dX0_takeFromAll_116 : decode cX0_takeFromAll 116 = .ok (.aload_n 0, 1) := by decide +kernel
theorem dX0_takeFromAll_117 : decode cX0_takeFromAll 117 = .ok (.getfield 9, 3) := by decide +kernel
theorem dX0_takeFromAll_120 : decode cX0_takeFromAll 120 = .ok (.arraylength, 1) := by decide +kernel
theorem dX0_takeFromAll_121 : decode cX0_takeFromAll 121 = .ok (.if_icmp .ge 59, 3) := by decide +kernel
theorem dX0_takeFromAll_124 : decode cX0_takeFromAll 124 = .ok (.aload_n 0, 1) := by decide +kernel
theorem dX0_takeFromAll_125 : decode cX0_takeFromAll 125 = .ok (.getfield 9, 3) := by decide +kernel
theorem dX0_takeFromAll_128 : decode cX0_takeFromAll 128 = .ok (.iload 5, 2) := by decide +kernel
theorem dX0_takeFromAll_130 : decode cX0_takeFromAll 130 = .ok (.dup2, 1) := by decide +kernel
theorem dX0_takeFromAll_131 : decode cX0_takeFromAll 131 = .ok (.laload, 1) := by decide +kernel
theorem dX0_takeFromAll_132 : decode cX0_takeFromAll 132 = .ok (.iload 4, 2) := by decide +kernel
theorem dX0_takeFromAll_134 : decode cX0_takeFromAll 134 = .ok (.i2l, 1) := by decide +kernel
theorem dX0_takeFromAll_135 : decode cX0_takeFromAll 135 = .ok (.lmul, 1) := by decide +kernel
theorem dX0_takeFromAll_136 : decode cX0_takeFromAll 136 = .ok (.lastore, 1) := by decide +kernel
theorem dX0_takeFromAll_137 : decode cX0_takeFromAll 137 = .ok (.aload_n 0, 1) := by decide +kernel
theorem dX0_takeFromAll_138 : decode cX0_takeFromAll 138 = .ok (.getfield 23, 3) := by decide +kernel
theorem dX0_takeFromAll_141 : decode cX0_takeFromAll 141 = .ok (.iload 5, 2) := by decide +kernel
theorem dX0_takeFromAll_143 : decode cX0_takeFromAll 143 = .ok (.invokestatic 67, 3) := by decide +kernel
theorem dX0_takeFromAll_146 : decode cX0_takeFromAll 146 = .ok (.ifCond .eq 28, 3) := by decide +kernel
theorem dX0_takeFromAll_149 : decode cX0_takeFromAll 149 = .ok (.aload_n 0, 1) := by decide +kernel
theorem dX0_takeFromAll_150 : decode cX0_takeFromAll 150 = .ok (.getfield 9, 3) := by decide +kernel
theorem dX0_takeFromAll_153 : decode cX0_takeFromAll 153 = .ok (.iload 5, 2) := by decide +kernel
theorem dX0_takeFromAll_155 : decode cX0_takeFromAll 155 = .ok (.dup2, 1) := by decide +kernel
theorem dX0_takeFromAll_156 : decode cX0_takeFromAll 156 = .ok (.laload, 1) := by decide +kernel
theorem dX0_takeFromAll_157 : decode cX0_takeFromAll 157 = .ok (.lload_n 2, 1) := by decide +kernel
theorem dX0_takeFromAll_158 : decode cX0_takeFromAll 158 = .ok (.aload_n 1, 1) := by decide +kernel
theorem dX0_takeFromAll_159 : decode cX0_takeFromAll 159 = .ok (.iload 5, 2) := by decide +kernel
theorem dX0_takeFromAll_161 : decode cX0_takeFromAll 161 = .ok (.aload_n 0, 1) := by decide +kernel
theorem dX0_takeFromAll_162 : decode cX0_takeFromAll 162 = .ok (.getfield 23, 3) := by decide +kernel
theorem dX0_takeFromAll_165 : decode cX0_takeFromAll 165 = .ok (.invokevirtual 71, 3) := by decide +kernel
theorem dX0_takeFromAll_168 : decode cX0_takeFromAll 168 = .ok (.iconst 1, 1) := by decide +kernel
theorem dX0_takeFromAll_169 : decode cX0_takeFromAll 169 = .ok (.isub, 1) := by decide +kernel
theorem dX0_takeFromAll_170 : decode cX0_takeFromAll 170 = .ok (.i2l, 1) := by decide +kernel
theorem dX0_takeFromAll_171 : decode cX0_takeFromAll 171 = .ok (.lmul, 1) := by decide +kernel
theorem dX0_takeFromAll_172 : decode cX0_takeFromAll 172 = .ok (.lsub, 1) := by decide +kernel
theorem dX0_takeFromAll_173 : decode cX0_takeFromAll 173 = .ok (.lastore, 1) := by decide +kernel
theorem dX0_takeFromAll_174 : decode cX0_takeFromAll 174 = .ok (.iinc 5 1, 3) := by decide +kernel
theorem dX0_takeFromAll_177 : decode cX0_takeFromAll 177 = .ok (.goto (-63), 3) := by decide +kernel
theorem dX0_takeFromAll_180 : decode cX0_takeFromAll 180 = .ok (.aload_n 0, 1) := by decide +kernel
theorem dX0_takeFromAll_181 : decode cX0_takeFromAll 181 = .ok (.dup, 1) := by decide +kernel
theorem dX0_takeFromAll_182 : decode cX0_takeFromAll 182 = .ok (.getfield 60, 3) := by decide +kernel
theorem dX0_takeFromAll_185 : decode cX0_takeFromAll 185 = .ok (.lload_n 2, 1) := by decide +kernel
theorem dX0_takeFromAll_186 : decode cX0_takeFromAll 186 = .ok (.aload_n 1, 1) := by decide +kernel
theorem dX0_takeFromAll_187 : decode cX0_takeFromAll 187 = .ok (.aload_n 0, 1) := by decide +kernel
theorem dX0_takeFromAll_188 : decode cX0_takeFromAll 188 = .ok (.getfield 23, 3) := by decide +kernel
theorem dX0_takeFromAll_191 : decode cX0_takeFromAll 191 = .ok (.invokevirtual 98, 3) := by decide +kernel
theorem dX0_takeFromAll_194 : decode cX0_takeFromAll 194 = .ok (.aload_n 1, 1) := by decide +kernel
theorem dX0_takeFromAll_195 : decode cX0_takeFromAll 195 = .ok (.aload_n 0, 1) := by decide +kernel
theorem dX0_takeFromAll_196 : decode cX0_takeFromAll 196 = .ok (.getfield 23, 3) := by decide +kernel
theorem dX0_takeFromAll_199 : decode cX0_takeFromAll 199 = .ok (.invokevirtual 101, 3) := by decide +kernel
theorem dX0_takeFromAll_202 : decode cX0_takeFromAll 202 = .ok (.iadd, 1) := by decide +kernel
theorem dX0_takeFromAll_203 : decode cX0_takeFromAll 203 = .ok (.aload_n 0, 1) := by decide +kernel
theorem dX0_takeFromAll_204 : decode cX0_takeFromAll 204 = .ok (.getfield 23, 3) := by decide +kernel
theorem dX0_takeFromAll_207 : decode cX0_takeFromAll 207 = .ok (.invokestatic 83, 3) := by decide +kernel
theorem dX0_takeFromAll_210 : decode cX0_takeFromAll 210 = .ok (.isub, 1) := by decide +kernel
theorem dX0_takeFromAll_211 : decode cX0_takeFromAll 211 = .ok (.i2l, 1) := by decide +kernel
theorem dX0_takeFromAll_212 : decode cX0_takeFromAll 212 = .ok (.lmul, 1) := by decide +kernel
theorem dX0_takeFromAll_213 : decode cX0_takeFromAll 213 = .ok (.ladd, 1) := by decide +kernel
theorem dX0_takeFromAll_214 : decode cX0_takeFromAll 214 = .ok (.putfield 60, 3) := by decide +kernel
theorem dX0_takeFromAll_217 : decode cX0_takeFromAll 217 = .ok (.return_, 1) := by decide +kernel
theorem dX0_pileWeightless_0 : decode cX0_pileWeightless 0 = .ok (.aload_n 0, 1) := by decide +kernel
theorem dX0_pileWeightless_1 : decode cX0_pileWeightless 1 = .ok (.getfield 9, 3) := by decide +kernel
theorem dX0_pileWeightless_4 : decode cX0_pileWeightless 4 = .ok (.arraylength, 1) := by decide +kernel
theorem dX0_pileWeightless_5 : decode cX0_pileWeightless 5 = .ok (.iconst 1, 1) := by decide +kernel
theorem dX0_pileWeightless_6 : decode cX0_pileWeightless 6 = .ok (.isub, 1) := by decide +kernel
theorem dX0_pileWeightless_7 : decode cX0_pileWeightless 7 = .ok (.istore_n 1, 1) := by decide +kernel
theorem dX0_pileWeightless_8 : decode cX0_pileWeightless 8 = .ok (.iload_n 1, 1) := by decide +kernel
theorem dX0_pileWeightless_9 : decode cX0_pileWeightless 9 = .ok (.ifCond .lt 77, 3) := by decide +kernel
theorem dX0_pileWeightless_12 : decode cX0_pileWeightless 12 = .ok (.aload_n 0, 1) := by decide +kernel
theorem dX0_pileWeightless_13 : decode cX0_pileWeightless 13 = .ok (.getfield 23, 3) := by decide +kernel
theorem dX0_pileWeightless_16 : decode cX0_pileWeightless 16 = .ok (.iload_n 1, 1) := by decide +kernel
theorem dX0_pileWeightless_17 : decode cX0_pileWeightless 17 = .ok (.invokestatic 67, 3) := by decide +kernel
theorem dX0_pileWeightless_20 : decode cX0_pileWeightless 20 = .ok (.ifCond .eq 60, 3) := by decide +kernel
theorem dX0_pileWeightless_23 : decode cX0_pileWeightless 23 = .ok (.aload_n 0, 1) := by decide +kernel
theorem dX0_pileWeightless_24 : decode cX0_pileWeightless 24 = .ok (.getfield 9, 3) := by decide +kernel
theorem dX0_pileWeightless_27 : decode cX0_pileWeightless 27 = .ok (.iload_n 1, 1) := by decide +kernel
theorem dX0_pileWeightless_28 : decode cX0_pileWeightless 28 = .ok (.laload, 1) := by decide +kernel
theorem dX0_pileWeightless_29 : decode cX0_pileWeightless 29 = .ok (.lconst 0, 1) := by decide +kernel
theorem dX0_pileWeightless_30 : decode cX0_pileWeightless 30 = .ok (.lcmp, 1) := by decide +kernel
theorem dX0_pileWeightless_31 : decode cX0_pileWeightless 31 = .ok (.ifCond .ne 49, 3) := by decide +kernel
theorem dX0_pileWeightless_34 : decode cX0_pileWeightless 34 = .ok (.aload_n 0, 1) := by decide +kernel
theorem dX0_pileWeightless_35 : decode cX0_pileWeightless 35 = .ok (.getfield 57, 3) := by decide +kernel
theorem dX0_pileWeightless_38 : decode cX0_pileWeightless 38 = .ok (.aload_n 0, 1) := by decide +kernel
theorem dX0_pileWeightless_39 : decode cX0_pileWeightless 39 = .ok (.getfield 15, 3) := by decide +kernel
theorem dX0_pileWeightless_42 : decode cX0_pileWeightless 42 = .ok (.arraylength, 1) := by decide +kernel
theorem dX0_pileWeightless_43 : decode cX0_pileWeightless 43 = .ok (.if_icmp .ge 37, 3) := by decide +kernel
theorem dX0_pileWeightless_46 : decode cX0_pileWeightless 46 = .ok (.aload_n 0, 1) := by decide +kernel
theorem dX0_pileWeightless_47 : decode cX0_pileWeightless 47 = .ok (.dup, 1) := by decide +kernel
theorem dX0_pileWeightless_48 : decode cX0_pileWeightless 48 = .ok (.getfield 23, 3) := by decide +kernel
theorem dX0_pileWeightless_51 : decode cX0_pileWeightless 51 = .ok (.iconst 1, 1) := by decide +kernel
theorem dX0_pileWeightless_52 : decode cX0_pileWeightless 52 = .ok (.iload_n 1, 1) := by decide +kernel
theorem dX0_pileWeightless_53 : decode cX0_pileWeightless 53 = .ok (.ishl, 1) := by decide +kernel
theorem dX0_pileWeightless_54 : decode cX0_pileWeightless 54 = .ok (.iconst (-1), 1) := by decide +kernel
theorem dX0_pileWeightless_55 : decode cX0_pileWeightless 55 = .ok (.ixor, 1) := by decide +kernel
theorem dX0_pileWeightless_56 : decode cX0_pileWeightless 56 = .ok (.iand, 1) := by decide +kernel
theorem dX0_pileWeightless_57 : decode cX0_pileWeightless 57 = .ok (.putfield 23, 3) := by decide +kernel
theorem dX0_pileWeightless_60 : decode cX0_pileWeightless 60 = .ok (.aload_n 0, 1) := by decide +kernel
theorem dX0_pileWeightless_61 : decode cX0_pileWeightless 61 = .ok (.getfield 15, 3) := by decide +kernel
theorem dX0_pileWeightless_64 : decode cX0_pileWeightless 64 = .ok (.aload_n 0, 1) := by decide +kernel
theorem dX0_pileWeightless_65 : decode cX0_pileWeightless 65 = .ok (.getfield 57, 3) := by decide +kernel
theorem dX0_pileWeightless_68 : decode cX0_pileWeightless 68 = .ok (.iload_n 1, 1) := by decide +kernel
theorem dX0_pileWeightless_69 : decode cX0_pileWeightless 69 = .ok (.iastore, 1) := by decide +kernel
theorem dX0_pileWeightless_70 : decode cX0_pileWeightless 70 = .ok (.aload_n 0, 1) := by decide +kernel
theorem dX0_pileWeightless_71 : decode cX0_pileWeightless 71 = .ok (.dup, 1) := by decide +kernel
theorem dX0_pileWeightless_72 : decode cX0_pileWeightless 72 = .ok (.getfield 57, 3) := by decide +kernel
theorem dX0_pileWeightless_75 : decode cX0_pileWeightless 75 = .ok (.iconst 1, 1) := by decide +kernel
theorem dX0_pileWeightless_76 : decode cX0_pileWeightless 76 = .ok (.iadd, 1) := by decide +kernel
theorem dX0_pileWeightless_77 : decode cX0_pileWeightless 77 = .ok (.putfield 57, 3) := by decide +kernel
theorem dX0_pileWeightless_80 : decode cX0_pileWeightless 80 = .ok (.iinc 1 (-1), 3) := by decide +kernel
theorem dX0_pileWeightless_83 : decode cX0_pileWeightless 83 = .ok (.goto (-75), 3) := by decide +kernel
theorem dX0_pileWeightless_86 : decode cX0_pileWeightless 86 = .ok (.return_, 1) := by decide +kernel
theorem dX0_giveBack_0 : decode cX0_giveBack 0 = .ok (.aload_n 0, 1) := by decide +kernel
theorem dX0_giveBack_1 : decode cX0_giveBack 1 = .ok (.iconst 0, 1) := by decide +kernel
theorem dX0_giveBack_2 : decode cX0_giveBack 2 = .ok (.putfield 104, 3) := by decide +kernel
theorem dX0_giveBack_5 : decode cX0_giveBack 5 = .ok (.iconst 0, 1) := by decide +kernel
theorem dX0_giveBack_6 : decode cX0_giveBack 6 = .ok (.istore_n 3, 1) := by decide +kernel
theorem dX0_giveBack_7 : decode cX0_giveBack 7 = .ok (.iload_n 3, 1) := by decide +kernel
theorem dX0_giveBack_8 : decode cX0_giveBack 8 = .ok (.aload_n 0, 1) := by decide +kernel
theorem dX0_giveBack_9 : decode cX0_giveBack 9 = .ok (.getfield 57, 3) := by decide +kernel
theorem dX0_giveBack_12 : decode cX0_giveBack 12 = .ok (.if_icmp .ge 35, 3) := by decide +kernel
theorem dX0_giveBack_15 : decode cX0_giveBack 15 = .ok (.iload_n 3, 1) := by decide +kernel
theorem dX0_giveBack_16 : decode cX0_giveBack 16 = .ok (.aload_n 0, 1) := by decide +kernel
theorem dX0_giveBack_17 : decode cX0_giveBack 17 = .ok (.getfield 15, 3) := by decide +kernel
theorem dX0_giveBack_20 : decode cX0_giveBack 20 = .ok (.arraylength, 1) := by decide +kernel
theorem dX0_giveBack_21 : decode cX0_giveBack 21 = .ok (.if_icmp .ge 26, 3) := by decide +kernel
theorem dX0_giveBack_24 : decode cX0_giveBack 24 = .ok (.aload_n 0, 1) := by decide +kernel
theorem dX0_giveBack_25 : decode cX0_giveBack 25 = .ok (.dup, 1) := by decide +kernel
theorem dX0_giveBack_26 : decode cX0_giveBack 26 = .ok (.getfield 104, 3) := by decide +kernel
theorem dX0_giveBack_29 : decode cX0_giveBack 29 = .ok (.iconst 1, 1) := by decide +kernel
theorem dX0_giveBack_30 : decode cX0_giveBack 30 = .ok (.aload_n 0, 1) := by decide +kernel
theorem dX0_giveBack_31 : decode cX0_giveBack 31 = .ok (.getfield 15, 3) := by decide +kernel
theorem dX0_giveBack_34 : decode cX0_giveBack 34 = .ok (.iload_n 3, 1) := by decide +kernel
theorem dX0_giveBack_35 : decode cX0_giveBack 35 = .ok (.iaload, 1) := by decide +kernel
theorem dX0_giveBack_36 : decode cX0_giveBack 36 = .ok (.ishl, 1) := by decide +kernel
theorem dX0_giveBack_37 : decode cX0_giveBack 37 = .ok (.ior, 1) := by decide +kernel
theorem dX0_giveBack_38 : decode cX0_giveBack 38 = .ok (.putfield 104, 3) := by decide +kernel
theorem dX0_giveBack_41 : decode cX0_giveBack 41 = .ok (.iinc 3 1, 3) := by decide +kernel
theorem dX0_giveBack_44 : decode cX0_giveBack 44 = .ok (.goto (-37), 3) := by decide +kernel
theorem dX0_giveBack_47 : decode cX0_giveBack 47 = .ok (.aload_n 0, 1) := by decide +kernel
theorem dX0_giveBack_48 : decode cX0_giveBack 48 = .ok (.getfield 57, 3) := by decide +kernel
theorem dX0_giveBack_51 : decode cX0_giveBack 51 = .ok (.aload_n 0, 1) := by decide +kernel
theorem dX0_giveBack_52 : decode cX0_giveBack 52 = .ok (.getfield 15, 3) := by decide +kernel
theorem dX0_giveBack_55 : decode cX0_giveBack 55 = .ok (.arraylength, 1) := by decide +kernel
theorem dX0_giveBack_56 : decode cX0_giveBack 56 = .ok (.invokestatic 107, 3) := by decide +kernel
theorem dX0_giveBack_59 : decode cX0_giveBack 59 = .ok (.iconst 1, 1) := by decide +kernel
theorem dX0_giveBack_60 : decode cX0_giveBack 60 = .ok (.isub, 1) := by decide +kernel
theorem dX0_giveBack_61 : decode cX0_giveBack 61 = .ok (.istore_n 3, 1) := by decide +kernel
theorem dX0_giveBack_62 : decode cX0_giveBack 62 = .ok (.iload_n 3, 1) := by decide +kernel
theorem dX0_giveBack_63 : decode cX0_giveBack 63 = .ok (.ifCond .lt 45, 3) := by decide +kernel
theorem dX0_giveBack_66 : decode cX0_giveBack 66 = .ok (.aload_n 0, 1) := by decide +kernel
theorem dX0_giveBack_67 : decode cX0_giveBack 67 = .ok (.getfield 104, 3) := by decide +kernel
theorem dX0_giveBack_70 : decode cX0_giveBack 70 = .ok (.iconst 1, 1) := by decide +kernel
theorem dX0_giveBack_71 : decode cX0_giveBack 71 = .ok (.aload_n 0, 1) := by decide +kernel
theorem dX0_giveBack_72 : decode cX0_giveBack 72 = .ok (.getfield 15, 3) := by decide +kernel
theorem dX0_giveBack_75 : decode cX0_giveBack 75 = .ok (.iload_n 3, 1) := by decide +kernel
theorem dX0_giveBack_76 : decode cX0_giveBack 76 = .ok (.iaload, 1) := by decide +kernel
theorem dX0_giveBack_77 : decode cX0_giveBack 77 = .ok (.ishl, 1) := by decide +kernel
theorem dX0_giveBack_78 : decode cX0_giveBack 78 = .ok (.iconst (-1), 1) := by decide +kernel
theorem dX0_giveBack_79 : decode cX0_giveBack 79 = .ok (.ixor, 1) := by decide +kernel
theorem dX0_giveBack_80 : decode cX0_giveBack 80 = .ok (.iand, 1) := by decide +kernel
theorem dX0_giveBack_81 : decode cX0_giveBack 81 = .ok (.istore 4, 2) := by decide +kernel
theorem dX0_giveBack_83 : decode cX0_giveBack 83 = .ok (.aload_n 2, 1) := by decide +kernel
theorem dX0_giveBack_84 : decode cX0_giveBack 84 = .ok (.iload_n 1, 1) := by decide +kernel
theorem dX0_giveBack_85 : decode cX0_giveBack 85 = .ok (.iload 4, 2) := by decide +kernel
theorem dX0_giveBack_87 : decode cX0_giveBack 87 = .ok (.iconst (-1), 1) := by decide +kernel
theorem dX0_giveBack_88 : decode cX0_giveBack 88 = .ok (.ixor, 1) := by decide +kernel
theorem dX0_giveBack_89 : decode cX0_giveBack 89 = .ok (.iand, 1) := by decide +kernel
theorem dX0_giveBack_90 : decode cX0_giveBack 90 = .ok (.invokevirtual 109, 3) := by decide +kernel
theorem dX0_giveBack_93 : decode cX0_giveBack 93 = .ok (.ifCond .eq 9, 3) := by decide +kernel
theorem dX0_giveBack_96 : decode cX0_giveBack 96 = .ok (.aload_n 0, 1) := by decide +kernel
theorem dX0_giveBack_97 : decode cX0_giveBack 97 = .ok (.iload 4, 2) := by decide +kernel
theorem dX0_giveBack_99 : decode cX0_giveBack 99 = .ok (.putfield 104, 3) := by decide +kernel
theorem dX0_giveBack_102 : decode cX0_giveBack 102 = .ok (.iinc 3 (-1), 3) := by decide +kernel
theorem dX0_giveBack_105 : decode cX0_giveBack 105 = .ok (.goto (-43), 3) := by decide +kernel
theorem dX0_giveBack_108 : decode cX0_giveBack 108 = .ok (.return_, 1) := by decide +kernel
theorem dX0_boundAbove_0 : decode cX0_boundAbove 0 = .ok (.aload_n 0, 1) := by decide +kernel
theorem dX0_boundAbove_1 : decode cX0_boundAbove 1 = .ok (.invokevirtual 113, 3) := by decide +kernel
theorem dX0_boundAbove_4 : decode cX0_boundAbove 4 = .ok (.lstore_n 1, 1) := by decide +kernel
theorem dX0_boundAbove_5 : decode cX0_boundAbove 5 = .ok (.lload_n 1, 1) := by decide +kernel
theorem dX0_boundAbove_6 : decode cX0_boundAbove 6 = .ok (.lconst 0, 1) := by decide +kernel
theorem dX0_boundAbove_7 : decode cX0_boundAbove 7 = .ok (.lcmp, 1) := by decide +kernel
theorem dX0_boundAbove_8 : decode cX0_boundAbove 8 = .ok (.ifCond .eq 12, 3) := by decide +kernel
theorem dX0_boundAbove_11 : decode cX0_boundAbove 11 = .ok (.aload_n 0, 1) := by decide +kernel
theorem dX0_boundAbove_12 : decode cX0_boundAbove 12 = .ok (.getfield 60, 3) := by decide +kernel
theorem dX0_boundAbove_15 : decode cX0_boundAbove 15 = .ok (.lload_n 1, 1) := by decide +kernel
theorem dX0_boundAbove_16 : decode cX0_boundAbove 16 = .ok (.ldiv, 1) := by decide +kernel
theorem dX0_boundAbove_17 : decode cX0_boundAbove 17 = .ok (.goto 4, 3) := by decide +kernel
theorem dX0_boundAbove_20 : decode cX0_boundAbove 20 = .ok (.lconst 0, 1) := by decide +kernel
theorem dX0_boundAbove_21 : decode cX0_boundAbove 21 = .ok (.lreturn, 1) := by decide +kernel
theorem dX0_boundBelow_0 : decode cX0_boundBelow 0 = .ok (.aload_n 0, 1) := by decide +kernel
theorem dX0_boundBelow_1 : decode cX0_boundBelow 1 = .ok (.invokevirtual 113, 3) := by decide +kernel
theorem dX0_boundBelow_4 : decode cX0_boundBelow 4 = .ok (.lstore_n 1, 1) := by decide +kernel
theorem dX0_boundBelow_5 : decode cX0_boundBelow 5 = .ok (.lload_n 1, 1) := by decide +kernel
theorem dX0_boundBelow_6 : decode cX0_boundBelow 6 = .ok (.lconst 0, 1) := by decide +kernel
theorem dX0_boundBelow_7 : decode cX0_boundBelow 7 = .ok (.lcmp, 1) := by decide +kernel
theorem dX0_boundBelow_8 : decode cX0_boundBelow 8 = .ok (.ifCond .eq 12, 3) := by decide +kernel
theorem dX0_boundBelow_11 : decode cX0_boundBelow 11 = .ok (.aload_n 0, 1) := by decide +kernel
theorem dX0_boundBelow_12 : decode cX0_boundBelow 12 = .ok (.getfield 64, 3) := by decide +kernel
theorem dX0_boundBelow_15 : decode cX0_boundBelow 15 = .ok (.lload_n 1, 1) := by decide +kernel
theorem dX0_boundBelow_16 : decode cX0_boundBelow 16 = .ok (.ldiv, 1) := by decide +kernel
theorem dX0_boundBelow_17 : decode cX0_boundBelow 17 = .ok (.goto 4, 3) := by decide +kernel
theorem dX0_boundBelow_20 : decode cX0_boundBelow 20 = .ok (.lconst 1, 1) := by decide +kernel
theorem dX0_boundBelow_21 : decode cX0_boundBelow 21 = .ok (.lreturn, 1) := by decide +kernel
theorem dX0_commonDivisor_0 : decode cX0_commonDivisor 0 = .ok (.aload_n 0, 1) := by decide +kernel
theorem dX0_commonDivisor_1 : decode cX0_commonDivisor 1 = .ok (.getfield 64, 3) := by decide +kernel
theorem dX0_commonDivisor_4 : decode cX0_commonDivisor 4 = .ok (.lstore_n 1, 1) := by decide +kernel
theorem dX0_commonDivisor_5 : decode cX0_commonDivisor 5 = .ok (.aload_n 0, 1) := by decide +kernel
theorem dX0_commonDivisor_6 : decode cX0_commonDivisor 6 = .ok (.getfield 60, 3) := by decide +kernel
theorem dX0_commonDivisor_9 : decode cX0_commonDivisor 9 = .ok (.lstore_n 3, 1) := by decide +kernel
theorem dX0_commonDivisor_10 : decode cX0_commonDivisor 10 = .ok (.iconst 0, 1) := by decide +kernel
theorem dX0_commonDivisor_11 : decode cX0_commonDivisor 11 = .ok (.istore 5, 2) := by decide +kernel
theorem dX0_commonDivisor_13 : decode cX0_commonDivisor 13 = .ok (.iload 5, 2) := by decide +kernel
theorem dX0_commonDivisor_15 : decode cX0_commonDivisor 15 = .ok (.sipush 200, 3) := by decide +kernel
theorem dX0_commonDivisor_18 : decode cX0_commonDivisor 18 = .ok (.if_icmp .ge 25, 3) := by decide +kernel
theorem dX0_commonDivisor_21 : decode cX0_commonDivisor 21 = .ok (.lload_n 3, 1) := by decide +kernel
theorem dX0_commonDivisor_22 : decode cX0_commonDivisor 22 = .ok (.lconst 0, 1) := by decide +kernel
theorem dX0_commonDivisor_23 : decode cX0_commonDivisor 23 = .ok (.lcmp, 1) := by decide +kernel
theorem dX0_commonDivisor_24 : decode cX0_commonDivisor 24 = .ok (.ifCond .eq 19, 3) := by decide +kernel
theorem dX0_commonDivisor_27 : decode cX0_commonDivisor 27 = .ok (.lload_n 1, 1) := by decide +kernel
theorem dX0_commonDivisor_28 : decode cX0_commonDivisor 28 = .ok (.lload_n 3, 1) := by decide +kernel
theorem dX0_commonDivisor_29 : decode cX0_commonDivisor 29 = .ok (.lrem, 1) := by decide +kernel
theorem dX0_commonDivisor_30 : decode cX0_commonDivisor 30 = .ok (.lstore 6, 2) := by decide +kernel
theorem dX0_commonDivisor_32 : decode cX0_commonDivisor 32 = .ok (.lload_n 3, 1) := by decide +kernel
theorem dX0_commonDivisor_33 : decode cX0_commonDivisor 33 = .ok (.lstore_n 1, 1) := by decide +kernel
theorem dX0_commonDivisor_34 : decode cX0_commonDivisor 34 = .ok (.lload 6, 2) := by decide +kernel
theorem dX0_commonDivisor_36 : decode cX0_commonDivisor 36 = .ok (.lstore_n 3, 1) := by decide +kernel
theorem dX0_commonDivisor_37 : decode cX0_commonDivisor 37 = .ok (.iinc 5 1, 3) := by decide +kernel
theorem dX0_commonDivisor_40 : decode cX0_commonDivisor 40 = .ok (.goto (-27), 3) := by decide +kernel
theorem dX0_commonDivisor_43 : decode cX0_commonDivisor 43 = .ok (.lload_n 1, 1) := by decide +kernel
theorem dX0_commonDivisor_44 : decode cX0_commonDivisor 44 = .ok (.lreturn, 1) := by decide +kernel
theorem dX1_init_0 : decode cX1_init 0 = .ok (.aload_n 0, 1) := by decide +kernel
theorem dX1_init_1 : decode cX1_init 1 = .ok (.invokespecial 1, 3) := by decide +kernel
theorem dX1_init_4 : decode cX1_init 4 = .ok (.return_, 1) := by decide +kernel
theorem dX1_below_0 : decode cX1_below 0 = .ok (.aload_n 0, 1) := by decide +kernel
theorem dX1_below_1 : decode cX1_below 1 = .ok (.aload_n 0, 1) := by decide +kernel
theorem dX1_below_2 : decode cX1_below 2 = .ok (.getfield 7, 3) := by decide +kernel
theorem dX1_below_5 : decode cX1_below 5 = .ok (.ldc 13, 2) := by decide +kernel
theorem dX1_below_7 : decode cX1_below 7 = .ok (.imul, 1) := by decide +kernel
theorem dX1_below_8 : decode cX1_below 8 = .ok (.sipush 12345, 3) := by decide +kernel
theorem dX1_below_11 : decode cX1_below 11 = .ok (.iadd, 1) := by decide +kernel
theorem dX1_below_12 : decode cX1_below 12 = .ok (.putfield 7, 3) := by decide +kernel
theorem dX1_below_15 : decode cX1_below 15 = .ok (.iload_n 1, 1) := by decide +kernel
theorem dX1_below_16 : decode cX1_below 16 = .ok (.ifCond .le 15, 3) := by decide +kernel
theorem dX1_below_19 : decode cX1_below 19 = .ok (.aload_n 0, 1) := by decide +kernel
theorem dX1_below_20 : decode cX1_below 20 = .ok (.getfield 7, 3) := by decide +kernel
theorem dX1_below_23 : decode cX1_below 23 = .ok (.bipush 8, 2) := by decide +kernel
theorem dX1_below_25 : decode cX1_below 25 = .ok (.iushr, 1) := by decide +kernel
theorem dX1_below_26 : decode cX1_below 26 = .ok (.iload_n 1, 1) := by decide +kernel
theorem dX1_below_27 : decode cX1_below 27 = .ok (.irem, 1) := by decide +kernel
theorem dX1_below_28 : decode cX1_below 28 = .ok (.goto 4, 3) := by decide +kernel
theorem dX1_below_31 : decode cX1_below 31 = .ok (.iconst 0, 1) := by decide +kernel
theorem dX1_below_32 : decode cX1_below 32 = .ok (.ireturn, 1) := by decide +kernel
theorem dX2_init_0 : decode cX2_init 0 = .ok (.aload_n 0, 1) := by decide +kernel
theorem dX2_init_1 : decode cX2_init 1 = .ok (.invokespecial 1, 3) := by decide +kernel
theorem dX2_init_4 : decode cX2_init 4 = .ok (.aload_n 0, 1) := by decide +kernel
theorem dX2_init_5 : decode cX2_init 5 = .ok (.new 7, 3) := by decide +kernel
theorem dX2_init_8 : decode cX2_init 8 = .ok (.dup, 1) := by decide +kernel
theorem dX2_init_9 : decode cX2_init 9 = .ok (.invokespecial 9, 3) := by decide +kernel
theorem dX2_init_12 : decode cX2_init 12 = .ok (.putfield 10, 3) := by decide +kernel
theorem dX2_init_15 : decode cX2_init 15 = .ok (.return_, 1) := by decide +kernel
theorem dX3_init_0 : decode cX3_init 0 = .ok (.aload_n 0, 1) := by decide +kernel
theorem dX3_init_1 : decode cX3_init 1 = .ok (.invokespecial 3, 3) := by decide +kernel
theorem dX3_init_4 : decode cX3_init 4 = .ok (.aload_n 0, 1) := by decide +kernel
theorem dX3_init_5 : decode cX3_init 5 = .ok (.bipush 12, 2) := by decide +kernel
theorem dX3_init_7 : decode cX3_init 7 = .ok (.newarray .int, 2) := by decide +kernel
theorem dX3_init_9 : decode cX3_init 9 = .ok (.putfield 9, 3) := by decide +kernel
theorem dX3_init_12 : decode cX3_init 12 = .ok (.aload_n 0, 1) := by decide +kernel
theorem dX3_init_13 : decode cX3_init 13 = .ok (.sipush 144, 3) := by decide +kernel
theorem dX3_init_16 : decode cX3_init 16 = .ok (.newarray .int, 2) := by decide +kernel
theorem dX3_init_18 : decode cX3_init 18 = .ok (.putfield 15, 3) := by decide +kernel
theorem dX3_init_21 : decode cX3_init 21 = .ok (.return_, 1) := by decide +kernel
theorem dX3_empty_0 : decode cX3_empty 0 = .ok (.aload_n 0, 1) := by decide +kernel
theorem dX3_empty_1 : decode cX3_empty 1 = .ok (.iconst 0, 1) := by decide +kernel
theorem dX3_empty_2 : decode cX3_empty 2 = .ok (.putfield 18, 3) := by decide +kernel
theorem dX3_empty_5 : decode cX3_empty 5 = .ok (.aload_n 0, 1) := by decide +kernel
theorem dX3_empty_6 : decode cX3_empty 6 = .ok (.iconst 0, 1) := by decide +kernel
theorem dX3_empty_7 : decode cX3_empty 7 = .ok (.putfield 22, 3) := by decide +kernel
theorem dX3_empty_10 : decode cX3_empty 10 = .ok (.aload_n 0, 1) := by decide +kernel
theorem dX3_empty_11 : decode cX3_empty 11 = .ok (.iconst 0, 1) := by decide +kernel
theorem dX3_empty_12 : decode cX3_empty 12 = .ok (.putfield 25, 3) := by decide +kernel
theorem dX3_empty_15 : decode cX3_empty 15 = .ok (.aload_n 0, 1) := by decide +kernel
theorem dX3_empty_16 : decode cX3_empty 16 = .ok (.iconst 0, 1) := by decide +kernel
theorem dX3_empty_17 : decode cX3_empty 17 = .ok (.putfield 28, 3) := by decide +kernel
theorem dX3_empty_20 : decode cX3_empty 20 = .ok (.iconst 0, 1) := by decide +kernel
theorem dX3_empty_21 : decode cX3_empty 21 = .ok (.istore_n 1, 1) := by decide +kernel
theorem dX3_empty_22 : decode cX3_empty 22 = .ok (.iload_n 1, 1) := by decide +kernel
theorem dX3_empty_23 : decode cX3_empty 23 = .ok (.aload_n 0, 1) := by decide +kernel
theorem dX3_empty_24 : decode cX3_empty 24 = .ok (.getfield 15, 3) := by decide +kernel
theorem dX3_empty_27 : decode cX3_empty 27 = .ok (.arraylength, 1) := by decide +kernel
theorem dX3_empty_28 : decode cX3_empty 28 = .ok (.if_icmp .ge 16, 3) := by decide +kernel
theorem dX3_empty_31 : decode cX3_empty 31 = .ok (.aload_n 0, 1) := by decide +kernel
theorem dX3_empty_32 : decode cX3_empty 32 = .ok (.getfield 15, 3) := by decide +kernel
theorem dX3_empty_35 : decode cX3_empty 35 = .ok (.iload_n 1, 1) := by decide +kernel
theorem dX3_empty_36 : decode cX3_empty 36 = .ok (.iconst 0, 1) := by decide +kernel
theorem dX3_empty_37 : decode cX3_empty 37 = .ok (.iastore, 1) := by decide +kernel
theorem dX3_empty_38 : decode cX3_empty 38 = .ok (.iinc 1 1, 3) := by decide +kernel
theorem dX3_empty_41 : decode cX3_empty 41 = .ok (.goto (-19), 3) := by decide +kernel
theorem dX3_empty_44 : decode cX3_empty 44 = .ok (.return_, 1) := by decide +kernel
theorem dX3_copyFrom_0 : decode cX3_copyFrom 0 = .ok (.aload_n 0, 1) := by decide +kernel
theorem dX3_copyFrom_1 : decode cX3_copyFrom 1 = .ok (.aload_n 1, 1) := by decide +kernel
theorem dX3_copyFrom_2 : decode cX3_copyFrom 2 = .ok (.getfield 18, 3) := by decide +kernel
theorem dX3_copyFrom_5 : decode cX3_copyFrom 5 = .ok (.putfield 18, 3) := by decide +kernel
theorem dX3_copyFrom_8 : decode cX3_copyFrom 8 = .ok (.aload_n 0, 1) := by decide +kernel
theorem dX3_copyFrom_9 : decode cX3_copyFrom 9 = .ok (.aload_n 1, 1) := by decide +kernel
theorem dX3_copyFrom_10 : decode cX3_copyFrom 10 = .ok (.getfield 22, 3) := by decide +kernel
theorem dX3_copyFrom_13 : decode cX3_copyFrom 13 = .ok (.putfield 22, 3) := by decide +kernel
theorem dX3_copyFrom_16 : decode cX3_copyFrom 16 = .ok (.aload_n 0, 1) := by decide +kernel
theorem dX3_copyFrom_17 : decode cX3_copyFrom 17 = .ok (.aload_n 1, 1) := by decide +kernel
theorem dX3_copyFrom_18 : decode cX3_copyFrom 18 = .ok (.getfield 25, 3) := by decide +kernel
theorem dX3_copyFrom_21 : decode cX3_copyFrom 21 = .ok (.putfield 25, 3) := by decide +kernel
theorem dX3_copyFrom_24 : decode cX3_copyFrom 24 = .ok (.aload_n 0, 1) := by decide +kernel
theorem dX3_copyFrom_25 : decode cX3_copyFrom 25 = .ok (.aload_n 1, 1) := by decide +kernel
theorem dX3_copyFrom_26 : decode cX3_copyFrom 26 = .ok (.getfield 28, 3) := by decide +kernel
theorem dX3_copyFrom_29 : decode cX3_copyFrom 29 = .ok (.putfield 28, 3) := by decide +kernel
theorem dX3_copyFrom_32 : decode cX3_copyFrom 32 = .ok (.iconst 0, 1) := by decide +kernel
theorem dX3_copyFrom_33 : decode cX3_copyFrom 33 = .ok (.istore_n 2, 1) := by decide +kernel
theorem dX3_copyFrom_34 : decode cX3_copyFrom 34 = .ok (.iload_n 2, 1) := by decide +kernel
theorem dX3_copyFrom_35 : decode cX3_copyFrom 35 = .ok (.aload_n 0, 1) := by decide +kernel
theorem dX3_copyFrom_36 : decode cX3_copyFrom 36 = .ok (.getfield 9, 3) := by decide +kernel
theorem dX3_copyFrom_39 : decode cX3_copyFrom 39 = .ok (.arraylength, 1) := by decide +kernel
theorem dX3_copyFrom_40 : decode cX3_copyFrom 40 = .ok (.if_icmp .ge 30, 3) := by decide +kernel
theorem dX3_copyFrom_43 : decode cX3_copyFrom 43 = .ok (.iload_n 2, 1) := by decide +kernel
theorem dX3_copyFrom_44 : decode cX3_copyFrom 44 = .ok (.aload_n 1, 1) := by decide +kernel
theorem dX3_copyFrom_45 : decode cX3_copyFrom 45 = .ok (.getfield 9, 3) := by decide +kernel
theorem dX3_copyFrom_48 : decode cX3_copyFrom 48 = .ok (.arraylength, 1) := by decide +kernel
theorem dX3_copyFrom_49 : decode cX3_copyFrom 49 = .ok (.if_icmp .ge 21, 3) := by decide +kernel
theorem dX3_copyFrom_52 : decode cX3_copyFrom 52 = .ok (.aload_n 0, 1) := by decide +kernel
theorem dX3_copyFrom_53 : decode cX3_copyFrom 53 = .ok (.getfield 9, 3) := by decide +kernel
theorem dX3_copyFrom_56 : decode cX3_copyFrom 56 = .ok (.iload_n 2, 1) := by decide +kernel
theorem dX3_copyFrom_57 : decode cX3_copyFrom 57 = .ok (.aload_n 1, 1) := by decide +kernel
theorem dX3_copyFrom_58 : decode cX3_copyFrom 58 = .ok (.getfield 9, 3) := by decide +kernel
theorem dX3_copyFrom_61 : decode cX3_copyFrom 61 = .ok (.iload_n 2, 1) := by decide +kernel
theorem dX3_copyFrom_62 : decode cX3_copyFrom 62 = .ok (.iaload, 1) := by decide +kernel
theorem dX3_copyFrom_63 : decode cX3_copyFrom 63 = .ok (.iastore, 1) := by decide +kernel
theorem dX3_copyFrom_64 : decode cX3_copyFrom 64 = .ok (.iinc 2 1, 3) := by decide +kernel
theorem dX3_copyFrom_67 : decode cX3_copyFrom 67 = .ok (.goto (-33), 3) := by decide +kernel
theorem dX3_copyFrom_70 : decode cX3_copyFrom 70 = .ok (.iconst 0, 1) := by decide +kernel
theorem dX3_copyFrom_71 : decode cX3_copyFrom 71 = .ok (.istore_n 2, 1) := by decide +kernel
theorem dX3_copyFrom_72 : decode cX3_copyFrom 72 = .ok (.iload_n 2, 1) := by decide +kernel
theorem dX3_copyFrom_73 : decode cX3_copyFrom 73 = .ok (.aload_n 0, 1) := by decide +kernel
theorem dX3_copyFrom_74 : decode cX3_copyFrom 74 = .ok (.getfield 15, 3) := by decide +kernel
theorem dX3_copyFrom_77 : decode cX3_copyFrom 77 = .ok (.arraylength, 1) := by decide +kernel
theorem dX3_copyFrom_78 : decode cX3_copyFrom 78 = .ok (.if_icmp .ge 30, 3) := by decide +kernel
theorem dX3_copyFrom_81 : decode cX3_copyFrom 81 = .ok (.iload_n 2, 1) := by decide +kernel
theorem dX3_copyFrom_82 : decode cX3_copyFrom 82 = .ok (.aload_n 1, 1) := by decide +kernel
theorem dX3_copyFrom_83 : decode cX3_copyFrom 83 = .ok (.getfield 15, 3) := by decide +kernel
theorem dX3_copyFrom_86 : decode cX3_copyFrom 86 = .ok (.arraylength, 1) := by decide +kernel
theorem dX3_copyFrom_87 : decode cX3_copyFrom 87 = .ok (.if_icmp .ge 21, 3) := by decide +kernel
theorem dX3_copyFrom_90 : decode cX3_copyFrom 90 = .ok (.aload_n 0, 1) := by decide +kernel
theorem dX3_copyFrom_91 : decode cX3_copyFrom 91 = .ok (.getfield 15, 3) := by decide +kernel
theorem dX3_copyFrom_94 : decode cX3_copyFrom 94 = .ok (.iload_n 2, 1) := by decide +kernel
theorem dX3_copyFrom_95 : decode cX3_copyFrom 95 = .ok (.aload_n 1, 1) := by decide +kernel
theorem dX3_copyFrom_96 : decode cX3_copyFrom 96 = .ok (.getfield 15, 3) := by decide +kernel
theorem dX3_copyFrom_99 : decode cX3_copyFrom 99 = .ok (.iload_n 2, 1) := by decide +kernel
theorem dX3_copyFrom_100 : decode cX3_copyFrom 100 = .ok (.iaload, 1) := by decide +kernel
theorem dX3_copyFrom_101 : decode cX3_copyFrom 101 = .ok (.iastore, 1) := by decide +kernel
theorem dX3_copyFrom_102 : decode cX3_copyFrom 102 = .ok (.iinc 2 1, 3) := by decide +kernel
theorem dX3_copyFrom_105 : decode cX3_copyFrom 105 = .ok (.goto (-33), 3) := by decide +kernel
theorem dX3_copyFrom_108 : decode cX3_copyFrom 108 = .ok (.return_, 1) := by decide +kernel
theorem dX3_holds_0 : decode cX3_holds 0 = .ok (.iload_n 1, 1) := by decide +kernel
theorem dX3_holds_1 : decode cX3_holds 1 = .ok (.ifCond .lt 21, 3) := by decide +kernel
theorem dX3_holds_4 : decode cX3_holds 4 = .ok (.iload_n 1, 1) := by decide +kernel
theorem dX3_holds_5 : decode cX3_holds 5 = .ok (.bipush 12, 2) := by decide +kernel
theorem dX3_holds_7 : decode cX3_holds 7 = .ok (.if_icmp .ge 15, 3) := by decide +kernel
theorem dX3_holds_10 : decode cX3_holds 10 = .ok (.iload_n 0, 1) := by decide +kernel
theorem dX3_holds_11 : decode cX3_holds 11 = .ok (.iload_n 1, 1) := by decide +kernel
theorem dX3_holds_12 : decode cX3_holds 12 = .ok (.ishr, 1) := by decide +kernel
theorem dX3_holds_13 : decode cX3_holds 13 = .ok (.iconst 1, 1) := by decide +kernel
theorem dX3_holds_14 : decode cX3_holds 14 = .ok (.iand, 1) := by decide +kernel
theorem dX3_holds_15 : decode cX3_holds 15 = .ok (.ifCond .eq 7, 3) := by decide +kernel
theorem dX3_holds_18 : decode cX3_holds 18 = .ok (.iconst 1, 1) := by decide +kernel
theorem dX3_holds_19 : decode cX3_holds 19 = .ok (.goto 4, 3) := by decide +kernel
theorem dX3_holds_22 : decode cX3_holds 22 = .ok (.iconst 0, 1) := by decide +kernel
theorem dX3_holds_23 : decode cX3_holds 23 = .ok (.ireturn, 1) := by decide +kernel
theorem dX3_isThere_0 : decode cX3_isThere 0 = .ok (.aload_n 0, 1) := by decide +kernel
theorem dX3_isThere_1 : decode cX3_isThere 1 = .ok (.getfield 22, 3) := by decide +kernel
theorem dX3_isThere_4 : decode cX3_isThere 4 = .ok (.iload_n 1, 1) := by decide +kernel
theorem dX3_isThere_5 : decode cX3_isThere 5 = .ok (.invokestatic 31, 3) := by decide +kernel
theorem dX3_isThere_8 : decode cX3_isThere 8 = .ok (.ireturn, 1) := by decide +kernel
theorem dX3_areThere_0 : decode cX3_areThere 0 = .ok (.iload_n 1, 1) := by decide +kernel
theorem dX3_areThere_1 : decode cX3_areThere 1 = .ok (.aload_n 0, 1) := by decide +kernel
theorem dX3_areThere_2 : decode cX3_areThere 2 = .ok (.getfield 22, 3) := by decide +kernel
theorem dX3_areThere_5 : decode cX3_areThere 5 = .ok (.iconst (-1), 1) := by decide +kernel
theorem dX3_areThere_6 : decode cX3_areThere 6 = .ok (.ixor, 1) := by decide +kernel
theorem dX3_areThere_7 : decode cX3_areThere 7 = .ok (.iand, 1) := by decide +kernel
theorem dX3_areThere_8 : decode cX3_areThere 8 = .ok (.ifCond .ne 7, 3) := by decide +kernel
theorem dX3_areThere_11 : decode cX3_areThere 11 = .ok (.iconst 1, 1) := by decide +kernel
theorem dX3_areThere_12 : decode cX3_areThere 12 = .ok (.goto 4, 3) := by decide +kernel
theorem dX3_areThere_15 : decode cX3_areThere 15 = .ok (.iconst 0, 1) := by decide +kernel
theorem dX3_areThere_16 : decode cX3_areThere 16 = .ok (.ireturn, 1) := by decide +kernel
theorem dX3_addPoint_0 : decode cX3_addPoint 0 = .ok (.aload_n 0, 1) := by decide +kernel
theorem dX3_addPoint_1 : decode cX3_addPoint 1 = .ok (.getfield 18, 3) := by decide +kernel
theorem dX3_addPoint_4 : decode cX3_addPoint 4 = .ok (.ifCond .lt 50, 3) := by decide +kernel
theorem dX3_addPoint_7 : decode cX3_addPoint 7 = .ok (.aload_n 0, 1) := by decide +kernel
theorem dX3_addPoint_8 : decode cX3_addPoint 8 = .ok (.getfield 18, 3) := by decide +kernel
theorem dX3_addPoint_11 : decode cX3_addPoint 11 = .ok (.aload_n 0, 1) := by decide +kernel
theorem dX3_addPoint_12 : decode cX3_addPoint 12 = .ok (.getfield 9, 3) := by decide +kernel
theorem dX3_addPoint_15 : decode cX3_addPoint 15 = .ok (.arraylength, 1) := by decide +kernel
theorem dX3_addPoint_16 : decode cX3_addPoint 16 = .ok (.if_icmp .ge 38, 3) := by decide +kernel
theorem dX3_addPoint_19 : decode cX3_addPoint 19 = .ok (.aload_n 0, 1) := by decide +kernel
theorem dX3_addPoint_20 : decode cX3_addPoint 20 = .ok (.getfield 9, 3) := by decide +kernel
theorem dX3_addPoint_23 : decode cX3_addPoint 23 = .ok (.aload_n 0, 1) := by decide +kernel
theorem dX3_addPoint_24 : decode cX3_addPoint 24 = .ok (.getfield 18, 3) := by decide +kernel
theorem dX3_addPoint_27 : decode cX3_addPoint 27 = .ok (.iconst 1, 1) := by decide +kernel
theorem dX3_addPoint_28 : decode cX3_addPoint 28 = .ok (.iastore, 1) := by decide +kernel
theorem dX3_addPoint_29 : decode cX3_addPoint 29 = .ok (.aload_n 0, 1) := by decide +kernel
theorem dX3_addPoint_30 : decode cX3_addPoint 30 = .ok (.dup, 1) := by decide +kernel
theorem dX3_addPoint_31 : decode cX3_addPoint 31 = .ok (.getfield 22, 3) := by decide +kernel
theorem dX3_addPoint_34 : decode cX3_addPoint 34 = .ok (.iconst 1, 1) := by decide +kernel
theorem dX3_addPoint_35 : decode cX3_addPoint 35 = .ok (.aload_n 0, 1) := by decide +kernel
theorem dX3_addPoint_36 : decode cX3_addPoint 36 = .ok (.getfield 18, 3) := by decide +kernel
theorem dX3_addPoint_39 : decode cX3_addPoint 39 = .ok (.ishl, 1) := by decide +kernel
theorem dX3_addPoint_40 : decode cX3_addPoint 40 = .ok (.ior, 1) := by decide +kernel
theorem dX3_addPoint_41 : decode cX3_addPoint 41 = .ok (.putfield 22, 3) := by decide +kernel
theorem dX3_addPoint_44 : decode cX3_addPoint 44 = .ok (.aload_n 0, 1) := by decide +kernel
theorem dX3_addPoint_45 : decode cX3_addPoint 45 = .ok (.dup, 1) := by decide +kernel
theorem dX3_addPoint_46 : decode cX3_addPoint 46 = .ok (.getfield 18, 3) := by decide +kernel
theorem dX3_addPoint_49 : decode cX3_addPoint 49 = .ok (.iconst 1, 1) := by decide +kernel
theorem dX3_addPoint_50 : decode cX3_addPoint 50 = .ok (.iadd, 1) := by decide +kernel
theorem dX3_addPoint_51 : decode cX3_addPoint 51 = .ok (.putfield 18, 3) := by decide +kernel
theorem dX3_addPoint_54 : decode cX3_addPoint 54 = .ok (.return_, 1) := by decide +kernel
theorem dX3_weightOf_0 : decode cX3_weightOf 0 = .ok (.iload_n 1, 1) := by decide +kernel
theorem dX3_weightOf_1 : decode cX3_weightOf 1 = .ok (.ifCond .lt 21, 3) := by decide +kernel
theorem dX3_weightOf_4 : decode cX3_weightOf 4 = .ok (.iload_n 1, 1) := by decide +kernel
theorem dX3_weightOf_5 : decode cX3_weightOf 5 = .ok (.aload_n 0, 1) := by decide +kernel
theorem dX3_weightOf_6 : decode cX3_weightOf 6 = .ok (.getfield 9, 3) := by decide +kernel
theorem dX3_weightOf_9 : decode cX3_weightOf 9 = .ok (.arraylength, 1) := by decide +kernel
theorem dX3_weightOf_10 : decode cX3_weightOf 10 = .ok (.if_icmp .ge 12, 3) := by decide +kernel
theorem dX3_weightOf_13 : decode cX3_weightOf 13 = .ok (.aload_n 0, 1) := by decide +kernel
theorem dX3_weightOf_14 : decode cX3_weightOf 14 = .ok (.getfield 9, 3) := by decide +kernel
theorem dX3_weightOf_17 : decode cX3_weightOf 17 = .ok (.iload_n 1, 1) := by decide +kernel
theorem dX3_weightOf_18 : decode cX3_weightOf 18 = .ok (.iaload, 1) := by decide +kernel
theorem dX3_weightOf_19 : decode cX3_weightOf 19 = .ok (.goto 4, 3) := by decide +kernel
theorem dX3_weightOf_22 : decode cX3_weightOf 22 = .ok (.iconst 0, 1) := by decide +kernel
theorem dX3_weightOf_23 : decode cX3_weightOf 23 = .ok (.ireturn, 1) := by decide +kernel
theorem dX3_weightOfSet_0 : decode cX3_weightOfSet 0 = .ok (.iconst 0, 1) := by decide +kernel
theorem dX3_weightOfSet_1 : decode cX3_weightOfSet 1 = .ok (.istore_n 2, 1) := by decide +kernel
theorem dX3_weightOfSet_2 : decode cX3_weightOfSet 2 = .ok (.iconst 0, 1) := by decide +kernel
theorem dX3_weightOfSet_3 : decode cX3_weightOfSet 3 = .ok (.istore_n 3, 1) := by decide +kernel
theorem dX3_weightOfSet_4 : decode cX3_weightOfSet 4 = .ok (.iload_n 3, 1) := by decide +kernel
theorem dX3_weightOfSet_5 : decode cX3_weightOfSet 5 = .ok (.bipush 12, 2) := by decide +kernel
theorem dX3_weightOfSet_7 : decode cX3_weightOfSet 7 = .ok (.if_icmp .ge 25, 3) := by decide +kernel
theorem dX3_weightOfSet_10 : decode cX3_weightOfSet 10 = .ok (.iload_n 1, 1) := by decide +kernel
theorem dX3_weightOfSet_11 : decode cX3_weightOfSet 11 = .ok (.iload_n 3, 1) := by decide +kernel
theorem dX3_weightOfSet_12 : decode cX3_weightOfSet 12 = .ok (.invokestatic 31, 3) := by decide +kernel
theorem dX3_weightOfSet_15 : decode cX3_weightOfSet 15 = .ok (.ifCond .eq 11, 3) := by decide +kernel
theorem dX3_weightOfSet_18 : decode cX3_weightOfSet 18 = .ok (.iload_n 2, 1) := by decide +kernel
theorem dX3_weightOfSet_19 : decode cX3_weightOfSet 19 = .ok (.aload_n 0, 1) := by decide +kernel
theorem dX3_weightOfSet_20 : decode cX3_weightOfSet 20 = .ok (.iload_n 3, 1) := by decide +kernel
theorem dX3_weightOfSet_21 : decode cX3_weightOfSet 21 = .ok (.invokevirtual 35, 3) := by decide +kernel
theorem dX3_weightOfSet_24 : decode cX3_weightOfSet 24 = .ok (.iadd, 1) := by decide +kernel
theorem dX3_weightOfSet_25 : decode cX3_weightOfSet 25 = .ok (.istore_n 2, 1) := by decide +kernel
theorem dX3_weightOfSet_26 : decode cX3_weightOfSet 26 = .ok (.iinc 3 1, 3) := by decide +kernel
theorem dX3_weightOfSet_29 : decode cX3_weightOfSet 29 = .ok (.goto (-25), 3) := by decide +kernel
theorem dX3_weightOfSet_32 : decode cX3_weightOfSet 32 = .ok (.iload_n 2, 1) := by decide +kernel
theorem dX3_weightOfSet_33 : decode cX3_weightOfSet 33 = .ok (.ireturn, 1) := by decide +kernel
theorem dX3_linesOf_0 : decode cX3_linesOf 0 = .ok (.iload_n 1, 1) := by decide +kernel
theorem dX3_linesOf_1 : decode cX3_linesOf 1 = .ok (.bipush 12, 2) := by decide +kernel
theorem dX3_linesOf_3 : decode cX3_linesOf 3 = .ok (.imul, 1) := by decide +kernel
theorem dX3_linesOf_4 : decode cX3_linesOf 4 = .ok (.iload_n 2, 1) := by decide +kernel
theorem dX3_linesOf_5 : decode cX3_linesOf 5 = .ok (.iadd, 1) := by decide +kernel
theorem dX3_linesOf_6 : decode cX3_linesOf 6 = .ok (.istore_n 3, 1) := by decide +kernel
theorem dX3_linesOf_7 : decode cX3_linesOf 7 = .ok (.iload_n 1, 1) := by decide +kernel
theorem dX3_linesOf_8 : decode cX3_linesOf 8 = .ok (.ifCond .lt 37, 3) := by decide +kernel
theorem dX3_linesOf_11 : decode cX3_linesOf 11 = .ok (.iload_n 1, 1) := by decide +kernel
theorem dX3_linesOf_12 : decode cX3_linesOf 12 = .ok (.bipush 12, 2) := by decide +kernel
theorem dX3_linesOf_14 : decode cX3_linesOf 14 = .ok (.if_icmp .ge 31, 3) := by decide +kernel
theorem dX3_linesOf_17 : decode cX3_linesOf 17 = .ok (.iload_n 2, 1) := by decide +kernel
theorem dX3_linesOf_18 : decode cX3_linesOf 18 = .ok (.ifCond .lt 27, 3) := by decide +kernel
theorem dX3_linesOf_21 : decode cX3_linesOf 21 = .ok (.iload_n 2, 1) := by decide +kernel
theorem dX3_linesOf_22 : decode cX3_linesOf 22 = .ok (.bipush 12, 2) := by decide +kernel
theorem dX3_linesOf_24 : decode cX3_linesOf 24 = .ok (.if_icmp .ge 21, 3) := by decide +kernel
theorem dX3_linesOf_27 : decode cX3_linesOf 27 = .ok (.iload_n 3, 1) := by decide +kernel
theorem dX3_linesOf_28 : decode cX3_linesOf 28 = .ok (.aload_n 0, 1) := by decide +kernel
theorem dX3_linesOf_29 : decode cX3_linesOf 29 = .ok (.getfield 15, 3) := by decide +kernel
theorem dX3_linesOf_32 : decode cX3_linesOf 32 = .ok (.arraylength, 1) := by decide +kernel
theorem dX3_linesOf_33 : decode cX3_linesOf 33 = .ok (.if_icmp .ge 12, 3) := by decide +kernel
theorem dX3_linesOf_36 : decode cX3_linesOf 36 = .ok (.aload_n 0, 1) := by decide +kernel
theorem dX3_linesOf_37 : decode cX3_linesOf 37 = .ok (.getfield 15, 3) := by decide +kernel
theorem dX3_linesOf_40 : decode cX3_linesOf 40 = .ok (.iload_n 3, 1) := by decide +kernel
theorem dX3_linesOf_41 : decode cX3_linesOf 41 = .ok (.iaload, 1) := by decide +kernel
theorem dX3_linesOf_42 : decode cX3_linesOf 42 = .ok (.goto 4, 3) := by decide +kernel
theorem dX3_linesOf_45 : decode cX3_linesOf 45 = .ok (.iconst 0, 1) := by decide +kernel
theorem dX3_linesOf_46 : decode cX3_linesOf 46 = .ok (.ireturn, 1) := by decide +kernel
theorem dX3_setLines_0 : decode cX3_setLines 0 = .ok (.iload_n 1, 1) := by decide +kernel
theorem dX3_setLines_1 : decode cX3_setLines 1 = .ok (.bipush 12, 2) := by decide +kernel
theorem dX3_setLines_3 : decode cX3_setLines 3 = .ok (.imul, 1) := by decide +kernel
theorem dX3_setLines_4 : decode cX3_setLines 4 = .ok (.iload_n 2, 1) := by decide +kernel
theorem dX3_setLines_5 : decode cX3_setLines 5 = .ok (.iadd, 1) := by decide +kernel
theorem dX3_setLines_6 : decode cX3_setLines 6 = .ok (.istore 4, 2) := by decide +kernel
theorem dX3_setLines_8 : decode cX3_setLines 8 = .ok (.iload_n 2, 1) := by decide +kernel
theorem dX3_setLines_9 : decode cX3_setLines 9 = .ok (.bipush 12, 2) := by decide +kernel
theorem dX3_setLines_11 : decode cX3_setLines 11 = .ok (.imul, 1) := by decide +kernel
theorem dX3_setLines_12 : decode cX3_setLines 12 = .ok (.iload_n 1, 1) := by decide +kernel
theorem dX3_setLines_13 : decode cX3_setLines 13 = .ok (.iadd, 1) := by decide +kernel
theorem dX3_setLines_14 : decode cX3_setLines 14 = .ok (.istore 5, 2) := by decide +kernel
theorem dX3_setLines_16 : decode cX3_setLines 16 = .ok (.aload_n 0, 1) := by decide +kernel
theorem dX3_setLines_17 : decode cX3_setLines 17 = .ok (.getfield 22, 3) := by decide +kernel
theorem dX3_setLines_20 : decode cX3_setLines 20 = .ok (.iload_n 1, 1) := by decide +kernel
theorem dX3_setLines_21 : decode cX3_setLines 21 = .ok (.invokestatic 31, 3) := by decide +kernel
theorem dX3_setLines_24 : decode cX3_setLines 24 = .ok (.ifCond .eq 68, 3) := by decide +kernel
theorem dX3_setLines_27 : decode cX3_setLines 27 = .ok (.aload_n 0, 1) := by decide +kernel
theorem dX3_setLines_28 : decode cX3_setLines 28 = .ok (.getfield 22, 3) := by decide +kernel
theorem dX3_setLines_31 : decode cX3_setLines 31 = .ok (.iload_n 2, 1) := by decide +kernel
theorem dX3_setLines_32 : decode cX3_setLines 32 = .ok (.invokestatic 31, 3) := by decide +kernel
theorem dX3_setLines_35 : decode cX3_setLines 35 = .ok (.ifCond .eq 57, 3) := by decide +kernel
theorem dX3_setLines_38 : decode cX3_setLines 38 = .ok (.iload 4, 2) := by decide +kernel
theorem dX3_setLines_40 : decode cX3_setLines 40 = .ok (.aload_n 0, 1) := by decide +kernel
theorem dX3_setLines_41 : decode cX3_setLines 41 = .ok (.getfield 15, 3) := by decide +kernel
theorem dX3_setLines_44 : decode cX3_setLines 44 = .ok (.arraylength, 1) := by decide +kernel
theorem dX3_setLines_45 : decode cX3_setLines 45 = .ok (.if_icmp .ge 47, 3) := by decide +kernel
theorem dX3_setLines_48 : decode cX3_setLines 48 = .ok (.iload 5, 2) := by decide +kernel
theorem dX3_setLines_50 : decode cX3_setLines 50 = .ok (.aload_n 0, 1) := by decide +kernel
theorem dX3_setLines_51 : decode cX3_setLines 51 = .ok (.getfield 15, 3) := by decide +kernel
theorem dX3_setLines_54 : decode cX3_setLines 54 = .ok (.arraylength, 1) := by decide +kernel
theorem dX3_setLines_55 : decode cX3_setLines 55 = .ok (.if_icmp .ge 37, 3) := by decide +kernel
theorem dX3_setLines_58 : decode cX3_setLines 58 = .ok (.aload_n 0, 1) := by decide +kernel
theorem dX3_setLines_59 : decode cX3_setLines 59 = .ok (.dup, 1) := by decide +kernel
theorem dX3_setLines_60 : decode cX3_setLines 60 = .ok (.getfield 28, 3) := by decide +kernel
theorem dX3_setLines_63 : decode cX3_setLines 63 = .ok (.iload_n 3, 1) := by decide +kernel
theorem dX3_setLines_64 : decode cX3_setLines 64 = .ok (.aload_n 0, 1) := by decide +kernel
theorem dX3_setLines_65 : decode cX3_setLines 65 = .ok (.getfield 15, 3) := by decide +kernel
theorem dX3_setLines_68 : decode cX3_setLines 68 = .ok (.iload 4, 2) := by decide +kernel
theorem dX3_setLines_70 : decode cX3_setLines 70 = .ok (.iaload, 1) := by decide +kernel
theorem dX3_setLines_71 : decode cX3_setLines 71 = .ok (.isub, 1) := by decide +kernel
theorem dX3_setLines_72 : decode cX3_setLines 72 = .ok (.iadd, 1) := by decide +kernel
theorem dX3_setLines_73 : decode cX3_setLines 73 = .ok (.putfield 28, 3) := by decide +kernel
theorem dX3_setLines_76 : decode cX3_setLines 76 = .ok (.aload_n 0, 1) := by decide +kernel
theorem dX3_setLines_77 : decode cX3_setLines 77 = .ok (.getfield 15, 3) := by decide +kernel
theorem dX3_setLines_80 : decode cX3_setLines 80 = .ok (.iload 4, 2) := by decide +kernel
theorem dX3_setLines_82 : decode cX3_setLines 82 = .ok (.iload_n 3, 1) := by decide +kernel
theorem dX3_setLines_83 : decode cX3_setLines 83 = .ok (.iastore, 1) := by decide +kernel
theorem dX3_setLines_84 : decode cX3_setLines 84 = .ok (.aload_n 0, 1) := by decide +kernel
theorem dX3_setLines_85 : decode cX3_setLines 85 = .ok (.getfield 15, 3) := by decide +kernel
theorem dX3_setLines_88 : decode cX3_setLines 88 = .ok (.iload 5, 2) := by decide +kernel
theorem dX3_setLines_90 : decode cX3_setLines 90 = .ok (.iload_n 3, 1) := by decide +kernel
theorem dX3_setLines_91 : decode cX3_setLines 91 = .ok (.iastore, 1) := by decide +kernel
theorem dX3_setLines_92 : decode cX3_setLines 92 = .ok (.return_, 1) := by decide +kernel
theorem dX3_besides_0 : decode cX3_besides 0 = .ok (.iconst 0, 1) := by decide +kernel
theorem dX3_besides_1 : decode cX3_besides 1 = .ok (.istore_n 3, 1) := by decide +kernel
theorem dX3_besides_2 : decode cX3_besides 2 = .ok (.iconst 0, 1) := by decide +kernel
theorem dX3_besides_3 : decode cX3_besides 3 = .ok (.istore 4, 2) := by decide +kernel
theorem dX3_besides_5 : decode cX3_besides 5 = .ok (.iload 4, 2) := by decide +kernel
theorem dX3_besides_7 : decode cX3_besides 7 = .ok (.bipush 12, 2) := by decide +kernel
theorem dX3_besides_9 : decode cX3_besides 9 = .ok (.if_icmp .ge 33, 3) := by decide +kernel
theorem dX3_besides_12 : decode cX3_besides 12 = .ok (.iload 4, 2) := by decide +kernel
theorem dX3_besides_14 : decode cX3_besides 14 = .ok (.iload_n 1, 1) := by decide +kernel
theorem dX3_besides_15 : decode cX3_besides 15 = .ok (.if_icmp .eq 21, 3) := by decide +kernel
theorem dX3_besides_18 : decode cX3_besides 18 = .ok (.aload_n 0, 1) := by decide +kernel
theorem dX3_besides_19 : decode cX3_besides 19 = .ok (.iload_n 1, 1) := by decide +kernel
theorem dX3_besides_20 : decode cX3_besides 20 = .ok (.iload 4, 2) := by decide +kernel
theorem dX3_besides_22 : decode cX3_besides 22 = .ok (.invokevirtual 39, 3) := by decide +kernel
theorem dX3_besides_25 : decode cX3_besides 25 = .ok (.iload_n 2, 1) := by decide +kernel
theorem dX3_besides_26 : decode cX3_besides 26 = .ok (.if_icmp .lt 10, 3) := by decide +kernel
theorem dX3_besides_29 : decode cX3_besides 29 = .ok (.iload_n 3, 1) := by decide +kernel
theorem dX3_besides_30 : decode cX3_besides 30 = .ok (.iconst 1, 1) := by decide +kernel
theorem dX3_besides_31 : decode cX3_besides 31 = .ok (.iload 4, 2) := by decide +kernel
theorem dX3_besides_33 : decode cX3_besides 33 = .ok (.ishl, 1) := by decide +kernel
theorem dX3_besides_34 : decode cX3_besides 34 = .ok (.ior, 1) := by decide +kernel
theorem dX3_besides_35 : decode cX3_besides 35 = .ok (.istore_n 3, 1) := by decide +kernel
theorem dX3_besides_36 : decode cX3_besides 36 = .ok (.iinc 4 1, 3) := by decide +kernel
theorem dX3_besides_39 : decode cX3_besides 39 = .ok (.goto (-34), 3) := by decide +kernel
theorem dX3_besides_42 : decode cX3_besides 42 = .ok (.iload_n 3, 1) := by decide +kernel
theorem dX3_besides_43 : decode cX3_besides 43 = .ok (.ireturn, 1) := by decide +kernel
theorem dX3_endsIn_0 : decode cX3_endsIn 0 = .ok (.aload_n 0, 1) := by decide +kernel
theorem dX3_endsIn_1 : decode cX3_endsIn 1 = .ok (.iload_n 1, 1) := by decide +kernel
theorem dX3_endsIn_2 : decode cX3_endsIn 2 = .ok (.iload_n 1, 1) := by decide +kernel
theorem dX3_endsIn_3 : decode cX3_endsIn 3 = .ok (.invokevirtual 39, 3) := by decide +kernel
theorem dX3_endsIn_6 : decode cX3_endsIn 6 = .ok (.istore_n 3, 1) := by decide +kernel
theorem dX3_endsIn_7 : decode cX3_endsIn 7 = .ok (.iconst 0, 1) := by decide +kernel
theorem dX3_endsIn_8 : decode cX3_endsIn 8 = .ok (.istore 4, 2) := by decide +kernel
theorem dX3_endsIn_10 : decode cX3_endsIn 10 = .ok (.iload 4, 2) := by decide +kernel
theorem dX3_endsIn_12 : decode cX3_endsIn 12 = .ok (.bipush 12, 2) := by decide +kernel
theorem dX3_endsIn_14 : decode cX3_endsIn 14 = .ok (.if_icmp .ge 28, 3) := by decide +kernel
theorem dX3_endsIn_17 : decode cX3_endsIn 17 = .ok (.iload_n 2, 1) := by decide +kernel
theorem dX3_endsIn_18 : decode cX3_endsIn 18 = .ok (.iload 4, 2) := by decide +kernel
theorem dX3_endsIn_20 : decode cX3_endsIn 20 = .ok (.invokestatic 31, 3) := by decide +kernel
theorem dX3_endsIn_23 : decode cX3_endsIn 23 = .ok (.ifCond .eq 13, 3) := by decide +kernel
theorem dX3_endsIn_26 : decode cX3_endsIn 26 = .ok (.iload_n 3, 1) := by decide +kernel
theorem dX3_endsIn_27 : decode cX3_endsIn 27 = .ok (.aload_n 0, 1) := by decide +kernel
theorem dX3_endsIn_28 : decode cX3_endsIn 28 = .ok (.iload_n 1, 1) := by decide +kernel
theorem dX3_endsIn_29 : decode cX3_endsIn 29 = .ok (.iload 4, 2) := by decide +kernel
theorem dX3_endsIn_31 : decode cX3_endsIn 31 = .ok (.invokevirtual 39, 3) := by decide +kernel
theorem dX3_endsIn_34 : decode cX3_endsIn 34 = .ok (.iadd, 1) := by decide +kernel
theorem dX3_endsIn_35 : decode cX3_endsIn 35 = .ok (.istore_n 3, 1) := by decide +kernel
theorem dX3_endsIn_36 : decode cX3_endsIn 36 = .ok (.iinc 4 1, 3) := by decide +kernel
theorem dX3_endsIn_39 : decode cX3_endsIn 39 = .ok (.goto (-29), 3) := by decide +kernel
theorem dX3_endsIn_42 : decode cX3_endsIn 42 = .ok (.iload_n 3, 1) := by decide +kernel
theorem dX3_endsIn_43 : decode cX3_endsIn 43 = .ok (.ireturn, 1) := by decide +kernel
theorem dX3_linesIn_0 : decode cX3_linesIn 0 = .ok (.iconst 0, 1) := by decide +kernel
theorem dX3_linesIn_1 : decode cX3_linesIn 1 = .ok (.istore_n 2, 1) := by decide +kernel
theorem dX3_linesIn_2 : decode cX3_linesIn 2 = .ok (.iconst 0, 1) := by decide +kernel
theorem dX3_linesIn_3 : decode cX3_linesIn 3 = .ok (.istore_n 3, 1) := by decide +kernel
theorem dX3_linesIn_4 : decode cX3_linesIn 4 = .ok (.iload_n 3, 1) := by decide +kernel
theorem dX3_linesIn_5 : decode cX3_linesIn 5 = .ok (.bipush 12, 2) := by decide +kernel
theorem dX3_linesIn_7 : decode cX3_linesIn 7 = .ok (.if_icmp .ge 26, 3) := by decide +kernel
theorem dX3_linesIn_10 : decode cX3_linesIn 10 = .ok (.iload_n 1, 1) := by decide +kernel
theorem dX3_linesIn_11 : decode cX3_linesIn 11 = .ok (.iload_n 3, 1) := by decide +kernel
theorem dX3_linesIn_12 : decode cX3_linesIn 12 = .ok (.invokestatic 31, 3) := by decide +kernel
theorem dX3_linesIn_15 : decode cX3_linesIn 15 = .ok (.ifCond .eq 12, 3) := by decide +kernel
theorem dX3_linesIn_18 : decode cX3_linesIn 18 = .ok (.iload_n 2, 1) := by decide +kernel
theorem dX3_linesIn_19 : decode cX3_linesIn 19 = .ok (.aload_n 0, 1) := by decide +kernel
theorem dX3_linesIn_20 : decode cX3_linesIn 20 = .ok (.iload_n 3, 1) := by decide +kernel
theorem dX3_linesIn_21 : decode cX3_linesIn 21 = .ok (.iload_n 1, 1) := by decide +kernel
theorem dX3_linesIn_22 : decode cX3_linesIn 22 = .ok (.invokevirtual 43, 3) := by decide +kernel
theorem dX3_linesIn_25 : decode cX3_linesIn 25 = .ok (.iadd, 1) := by decide +kernel
theorem dX3_linesIn_26 : decode cX3_linesIn 26 = .ok (.istore_n 2, 1) := by decide +kernel
theorem dX3_linesIn_27 : decode cX3_linesIn 27 = .ok (.iinc 3 1, 3) := by decide +kernel
theorem dX3_linesIn_30 : decode cX3_linesIn 30 = .ok (.goto (-26), 3) := by decide +kernel
theorem dX3_linesIn_33 : decode cX3_linesIn 33 = .ok (.iload_n 2, 1) := by decide +kernel
theorem dX3_linesIn_34 : decode cX3_linesIn 34 = .ok (.iconst 2, 1) := by decide +kernel
theorem dX3_linesIn_35 : decode cX3_linesIn 35 = .ok (.idiv, 1) := by decide +kernel
theorem dX3_linesIn_36 : decode cX3_linesIn 36 = .ok (.ireturn, 1) := by decide +kernel
theorem dX3_partsIn_0 : decode cX3_partsIn 0 = .ok (.iload_n 1, 1) := by decide +kernel
theorem dX3_partsIn_1 : decode cX3_partsIn 1 = .ok (.istore_n 2, 1) := by decide +kernel
theorem dX3_partsIn_2 : decode cX3_partsIn 2 = .ok (.iconst 0, 1) := by decide +kernel
theorem dX3_partsIn_3 : decode cX3_partsIn 3 = .ok (.istore_n 3, 1) := by decide +kernel
theorem dX3_partsIn_4 : decode cX3_partsIn 4 = .ok (.iconst 0, 1) := by decide +kernel
theorem dX3_partsIn_5 : decode cX3_partsIn 5 = .ok (.istore 4, 2) := by decide +kernel
theorem dX3_partsIn_7 : decode cX3_partsIn 7 = .ok (.iload 4, 2) := by decide +kernel
theorem dX3_partsIn_9 : decode cX3_partsIn 9 = .ok (.bipush 12, 2) := by decide +kernel
theorem dX3_partsIn_11 : decode cX3_partsIn 11 = .ok (.if_icmp .ge 33, 3) := by decide +kernel
theorem dX3_partsIn_14 : decode cX3_partsIn 14 = .ok (.iload_n 2, 1) := by decide +kernel
theorem dX3_partsIn_15 : decode cX3_partsIn 15 = .ok (.iload 4, 2) := by decide +kernel
theorem dX3_partsIn_17 : decode cX3_partsIn 17 = .ok (.invokestatic 31, 3) := by decide +kernel
theorem dX3_partsIn_20 : decode cX3_partsIn 20 = .ok (.ifCond .eq 18, 3) := by decide +kernel
theorem dX3_partsIn_23 : decode cX3_partsIn 23 = .ok (.iinc 3 1, 3) := by decide +kernel
theorem dX3_partsIn_26 : decode cX3_partsIn 26 = .ok (.iload_n 2, 1) := by decide +kernel
theorem dX3_partsIn_27 : decode cX3_partsIn 27 = .ok (.aload_n 0, 1) := by decide +kernel
theorem dX3_partsIn_28 : decode cX3_partsIn 28 = .ok (.iload 4, 2) := by decide +kernel
theorem dX3_partsIn_30 : decode cX3_partsIn 30 = .ok (.iload_n 2, 1) := by decide +kernel
theorem dX3_partsIn_31 : decode cX3_partsIn 31 = .ok (.invokevirtual 46, 3) := by decide +kernel
theorem dX3_partsIn_34 : decode cX3_partsIn 34 = .ok (.iconst (-1), 1) := by decide +kernel
theorem dX3_partsIn_35 : decode cX3_partsIn 35 = .ok (.ixor, 1) := by decide +kernel
theorem dX3_partsIn_36 : decode cX3_partsIn 36 = .ok (.iand, 1) := by decide +kernel
theorem dX3_partsIn_37 : decode cX3_partsIn 37 = .ok (.istore_n 2, 1) := by decide +kernel
theorem dX3_partsIn_38 : decode cX3_partsIn 38 = .ok (.iinc 4 1, 3) := by decide +kernel
theorem dX3_partsIn_41 : decode cX3_partsIn 41 = .ok (.goto (-34), 3) := by decide +kernel
theorem dX3_partsIn_44 : decode cX3_partsIn 44 = .ok (.iload_n 3, 1) := by decide +kernel
theorem dX3_partsIn_45 : decode cX3_partsIn 45 = .ok (.ireturn, 1) := by decide +kernel
theorem dX3_reachedFrom_0 : decode cX3_reachedFrom 0 = .ok (.iconst 1, 1) := by decide +kernel
theorem dX3_reachedFrom_1 : decode cX3_reachedFrom 1 = .ok (.iload_n 1, 1) := by decide +kernel
theorem dX3_reachedFrom_2 : decode cX3_reachedFrom 2 = .ok (.ishl, 1) := by decide +kernel
theorem dX3_reachedFrom_3 : decode cX3_reachedFrom 3 = .ok (.istore_n 3, 1) := by decide +kernel
theorem dX3_reachedFrom_4 : decode cX3_reachedFrom 4 = .ok (.iconst 0, 1) := by decide +kernel
theorem dX3_reachedFrom_5 : decode cX3_reachedFrom 5 = .ok (.istore 4, 2) := by decide +kernel
theorem dX3_reachedFrom_7 : decode cX3_reachedFrom 7 = .ok (.iconst 0, 1) := by decide +kernel
theorem dX3_reachedFrom_8 : decode cX3_reachedFrom 8 = .ok (.istore 5, 2) := by decide +kernel
theorem dX3_reachedFrom_10 : decode cX3_reachedFrom 10 = .ok (.iload 5, 2) := by decide +kernel
theorem dX3_reachedFrom_12 : decode cX3_reachedFrom 12 = .ok (.bipush 12, 2) := by decide +kernel
theorem dX3_reachedFrom_14 : decode cX3_reachedFrom 14 = .ok (.if_icmp .ge 71, 3) := by decide +kernel
theorem dX3_reachedFrom_17 : decode cX3_reachedFrom 17 = .ok (.iload_n 3, 1) := by decide +kernel
theorem dX3_reachedFrom_18 : decode cX3_reachedFrom 18 = .ok (.iload 4, 2) := by decide +kernel
theorem dX3_reachedFrom_20 : decode cX3_reachedFrom 20 = .ok (.if_icmp .eq 65, 3) := by decide +kernel
theorem dX3_reachedFrom_23 : decode cX3_reachedFrom 23 = .ok (.iload_n 3, 1) := by decide +kernel
theorem dX3_reachedFrom_24 : decode cX3_reachedFrom 24 = .ok (.iload 4, 2) := by decide +kernel
theorem dX3_reachedFrom_26 : decode cX3_reachedFrom 26 = .ok (.iconst (-1), 1) := by decide +kernel
theorem dX3_reachedFrom_27 : decode cX3_reachedFrom 27 = .ok (.ixor, 1) := by decide +kernel
theorem dX3_reachedFrom_28 : decode cX3_reachedFrom 28 = .ok (.iand, 1) := by decide +kernel
theorem dX3_reachedFrom_29 : decode cX3_reachedFrom 29 = .ok (.invokestatic 49, 3) := by decide +kernel
theorem dX3_reachedFrom_32 : decode cX3_reachedFrom 32 = .ok (.istore 6, 2) := by decide +kernel
theorem dX3_reachedFrom_34 : decode cX3_reachedFrom 34 = .ok (.iload 4, 2) := by decide +kernel
theorem dX3_reachedFrom_36 : decode cX3_reachedFrom 36 = .ok (.iconst 1, 1) := by decide +kernel
theorem dX3_reachedFrom_37 : decode cX3_reachedFrom 37 = .ok (.iload 6, 2) := by decide +kernel
theorem dX3_reachedFrom_39 : decode cX3_reachedFrom 39 = .ok (.ishl, 1) := by decide +kernel
theorem dX3_reachedFrom_40 : decode cX3_reachedFrom 40 = .ok (.ior, 1) := by decide +kernel
theorem dX3_reachedFrom_41 : decode cX3_reachedFrom 41 = .ok (.istore 4, 2) := by decide +kernel
theorem dX3_reachedFrom_43 : decode cX3_reachedFrom 43 = .ok (.iconst 0, 1) := by decide +kernel
theorem dX3_reachedFrom_44 : decode cX3_reachedFrom 44 = .ok (.istore 7, 2) := by decide +kernel
theorem dX3_reachedFrom_46 : decode cX3_reachedFrom 46 = .ok (.iload 7, 2) := by decide +kernel
theorem dX3_reachedFrom_48 : decode cX3_reachedFrom 48 = .ok (.bipush 12, 2) := by decide +kernel
theorem dX3_reachedFrom_50 : decode cX3_reachedFrom 50 = .ok (.if_icmp .ge 29, 3) := by decide +kernel
theorem dX3_reachedFrom_53 : decode cX3_reachedFrom 53 = .ok (.aload_n 0, 1) := by decide +kernel
theorem dX3_reachedFrom_54 : decode cX3_reachedFrom 54 = .ok (.iload 6, 2) := by decide +kernel
theorem dX3_reachedFrom_56 : decode cX3_reachedFrom 56 = .ok (.iload 7, 2) := by decide +kernel
theorem dX3_reachedFrom_58 : decode cX3_reachedFrom 58 = .ok (.invokevirtual 39, 3) := by decide +kernel
theorem dX3_reachedFrom_61 : decode cX3_reachedFrom 61 = .ok (.ifCond .le 12, 3) := by decide +kernel
theorem dX3_reachedFrom_64 : decode cX3_reachedFrom 64 = .ok (.iload_n 3, 1) := by decide +kernel
theorem dX3_reachedFrom_65 : decode cX3_reachedFrom 65 = .ok (.iconst 1, 1) := by decide +kernel
theorem dX3_reachedFrom_66 : decode cX3_reachedFrom 66 = .ok (.iload 7, 2) := by decide +kernel
theorem dX3_reachedFrom_68 : decode cX3_reachedFrom 68 = .ok (.ishl, 1) := by decide +kernel
theorem dX3_reachedFrom_69 : decode cX3_reachedFrom 69 = .ok (.iload_n 2, 1) := by decide +kernel
theorem dX3_reachedFrom_70 : decode cX3_reachedFrom 70 = .ok (.iand, 1) := by decide +kernel
theorem dX3_reachedFrom_71 : decode cX3_reachedFrom 71 = .ok (.ior, 1) := by decide +kernel
theorem dX3_reachedFrom_72 : decode cX3_reachedFrom 72 = .ok (.istore_n 3, 1) := by decide +kernel
theorem dX3_reachedFrom_73 : decode cX3_reachedFrom 73 = .ok (.iinc 7 1, 3) := by decide +kernel
theorem dX3_reachedFrom_76 : decode cX3_reachedFrom 76 = .ok (.goto (-30), 3) := by decide +kernel
theorem dX3_reachedFrom_79 : decode cX3_reachedFrom 79 = .ok (.iinc 5 1, 3) := by decide +kernel
theorem dX3_reachedFrom_82 : decode cX3_reachedFrom 82 = .ok (.goto (-72), 3) := by decide +kernel
theorem dX3_reachedFrom_85 : decode cX3_reachedFrom 85 = .ok (.iload_n 3, 1) := by decide +kernel
theorem dX3_reachedFrom_86 : decode cX3_reachedFrom 86 = .ok (.ireturn, 1) := by decide +kernel
theorem dX3_remove_0 : decode cX3_remove 0 = .ok (.aload_n 0, 1) := by decide +kernel
theorem dX3_remove_1 : decode cX3_remove 1 = .ok (.iload_n 1, 1) := by decide +kernel
theorem dX3_remove_2 : decode cX3_remove 2 = .ok (.invokevirtual 54, 3) := by decide +kernel
theorem dX3_remove_5 : decode cX3_remove 5 = .ok (.ifCond .ne 5, 3) := by decide +kernel
theorem dX3_remove_8 : decode cX3_remove 8 = .ok (.iconst 0, 1) := by decide +kernel
theorem dX3_remove_9 : decode cX3_remove 9 = .ok (.ireturn, 1) := by decide +kernel
theorem dX3_remove_10 : decode cX3_remove 10 = .ok (.iconst 0, 1) := by decide +kernel
theorem dX3_remove_11 : decode cX3_remove 11 = .ok (.istore_n 2, 1) := by decide +kernel
theorem dX3_remove_12 : decode cX3_remove 12 = .ok (.iload_n 2, 1) := by decide +kernel
theorem dX3_remove_13 : decode cX3_remove 13 = .ok (.bipush 12, 2) := by decide +kernel
theorem dX3_remove_15 : decode cX3_remove 15 = .ok (.if_icmp .ge 16, 3) := by decide +kernel
theorem dX3_remove_18 : decode cX3_remove 18 = .ok (.aload_n 0, 1) := by decide +kernel
theorem dX3_remove_19 : decode cX3_remove 19 = .ok (.iload_n 1, 1) := by decide +kernel
theorem dX3_remove_20 : decode cX3_remove 20 = .ok (.iload_n 2, 1) := by decide +kernel
theorem dX3_remove_21 : decode cX3_remove 21 = .ok (.iconst 0, 1) := by decide +kernel
theorem dX3_remove_22 : decode cX3_remove 22 = .ok (.invokevirtual 58, 3) := by decide +kernel
theorem dX3_remove_25 : decode cX3_remove 25 = .ok (.iinc 2 1, 3) := by decide +kernel
theorem dX3_remove_28 : decode cX3_remove 28 = .ok (.goto (-16), 3) := by decide +kernel
theorem dX3_remove_31 : decode cX3_remove 31 = .ok (.aload_n 0, 1) := by decide +kernel
theorem dX3_remove_32 : decode cX3_remove 32 = .ok (.dup, 1) := by decide +kernel
theorem dX3_remove_33 : decode cX3_remove 33 = .ok (.getfield 22, 3) := by decide +kernel
theorem dX3_remove_36 : decode cX3_remove 36 = .ok (.iconst 1, 1) := by decide +kernel
theorem dX3_remove_37 : decode cX3_remove 37 = .ok (.iload_n 1, 1) := by decide +kernel
theorem dX3_remove_38 : decode cX3_remove 38 = .ok (.ishl, 1) := by decide +kernel
theorem dX3_remove_39 : decode cX3_remove 39 = .ok (.iconst (-1), 1) := by decide +kernel
theorem dX3_remove_40 : decode cX3_remove 40 = .ok (.ixor, 1) := by decide +kernel
theorem dX3_remove_41 : decode cX3_remove 41 = .ok (.iand, 1) := by decide +kernel
theorem dX3_remove_42 : decode cX3_remove 42 = .ok (.putfield 22, 3) := by decide +kernel
theorem dX3_remove_45 : decode cX3_remove 45 = .ok (.iconst 1, 1) := by decide +kernel
theorem dX3_remove_46 : decode cX3_remove 46 = .ok (.ireturn, 1) := by decide +kernel
theorem dX3_addLine_0 : decode cX3_addLine 0 = .ok (.aload_n 0, 1) := by decide +kernel
theorem dX3_addLine_1 : decode cX3_addLine 1 = .ok (.iload_n 1, 1) := by decide +kernel
theorem dX3_addLine_2 : decode cX3_addLine 2 = .ok (.invokevirtual 54, 3) := by decide +kernel
theorem dX3_addLine_5 : decode cX3_addLine 5 = .ok (.ifCond .eq 20, 3) := by decide +kernel
theorem dX3_addLine_8 : decode cX3_addLine 8 = .ok (.aload_n 0, 1) := by decide +kernel
theorem dX3_addLine_9 : decode cX3_addLine 9 = .ok (.iload_n 2, 1) := by decide +kernel
theorem dX3_addLine_10 : decode cX3_addLine 10 = .ok (.invokevirtual 54, 3) := by decide +kernel
theorem dX3_addLine_13 : decode cX3_addLine 13 = .ok (.ifCond .eq 12, 3) := by decide +kernel
theorem dX3_addLine_16 : decode cX3_addLine 16 = .ok (.aload_n 0, 1) := by decide +kernel
theorem dX3_addLine_17 : decode cX3_addLine 17 = .ok (.getfield 28, 3) := by decide +kernel
theorem dX3_addLine_20 : decode cX3_addLine 20 = .ok (.bipush 20, 2) := by decide +kernel
theorem dX3_addLine_22 : decode cX3_addLine 22 = .ok (.if_icmp .lt 5, 3) := by decide +kernel
theorem dX3_addLine_25 : decode cX3_addLine 25 = .ok (.iconst 0, 1) := by decide +kernel
theorem dX3_addLine_26 : decode cX3_addLine 26 = .ok (.ireturn, 1) := by decide +kernel
theorem dX3_addLine_27 : decode cX3_addLine 27 = .ok (.iload_n 1, 1) := by decide +kernel
theorem dX3_addLine_28 : decode cX3_addLine 28 = .ok (.iload_n 2, 1) := by decide +kernel
theorem dX3_addLine_29 : decode cX3_addLine 29 = .ok (.if_icmp .ne 7, 3) := by decide +kernel
theorem dX3_addLine_32 : decode cX3_addLine 32 = .ok (.iconst 2, 1) := by decide +kernel
theorem dX3_addLine_33 : decode cX3_addLine 33 = .ok (.goto 4, 3) := by decide +kernel
theorem dX3_addLine_36 : decode cX3_addLine 36 = .ok (.iconst 1, 1) := by decide +kernel
theorem dX3_addLine_37 : decode cX3_addLine 37 = .ok (.istore_n 3, 1) := by decide +kernel
theorem dX3_addLine_38 : decode cX3_addLine 38 = .ok (.aload_n 0, 1) := by decide +kernel
theorem dX3_addLine_39 : decode cX3_addLine 39 = .ok (.iload_n 1, 1) := by decide +kernel
theorem dX3_addLine_40 : decode cX3_addLine 40 = .ok (.aload_n 0, 1) := by decide +kernel
theorem dX3_addLine_41 : decode cX3_addLine 41 = .ok (.getfield 22, 3) := by decide +kernel
theorem dX3_addLine_44 : decode cX3_addLine 44 = .ok (.invokevirtual 43, 3) := by decide +kernel
theorem dX3_addLine_47 : decode cX3_addLine 47 = .ok (.iload_n 3, 1) := by decide +kernel
theorem dX3_addLine_48 : decode cX3_addLine 48 = .ok (.iadd, 1) := by decide +kernel
theorem dX3_addLine_49 : decode cX3_addLine 49 = .ok (.bipush 6, 2) := by decide +kernel
theorem dX3_addLine_51 : decode cX3_addLine 51 = .ok (.if_icmp .gt 19, 3) := by decide +kernel
theorem dX3_addLine_54 : decode cX3_addLine 54 = .ok (.aload_n 0, 1) := by decide +kernel
theorem dX3_addLine_55 : decode cX3_addLine 55 = .ok (.iload_n 2, 1) := by decide +kernel
theorem dX3_addLine_56 : decode cX3_addLine 56 = .ok (.aload_n 0, 1) := by decide +kernel
theorem dX3_addLine_57 : decode cX3_addLine 57 = .ok (.getfield 22, 3) := by decide +kernel
theorem dX3_addLine_60 : decode cX3_addLine 60 = .ok (.invokevirtual 43, 3) := by decide +kernel
theorem dX3_addLine_63 : decode cX3_addLine 63 = .ok (.iload_n 3, 1) := by decide +kernel
theorem dX3_addLine_64 : decode cX3_addLine 64 = .ok (.iadd, 1) := by decide +kernel
theorem dX3_addLine_65 : decode cX3_addLine 65 = .ok (.bipush 6, 2) := by decide +kernel
theorem dX3_addLine_67 : decode cX3_addLine 67 = .ok (.if_icmp .le 5, 3) := by decide +kernel
theorem dX3_addLine_70 : decode cX3_addLine 70 = .ok (.iconst 0, 1) := by decide +kernel
theorem dX3_addLine_71 : decode cX3_addLine 71 = .ok (.ireturn, 1) := by decide +kernel
theorem dX3_addLine_72 : decode cX3_addLine 72 = .ok (.aload_n 0, 1) := by decide +kernel
theorem dX3_addLine_73 : decode cX3_addLine 73 = .ok (.iload_n 1, 1) := by decide +kernel
theorem dX3_addLine_74 : decode cX3_addLine 74 = .ok (.iload_n 2, 1) := by decide +kernel
theorem dX3_addLine_75 : decode cX3_addLine 75 = .ok (.aload_n 0, 1) := by decide +kernel
theorem dX3_addLine_76 : decode cX3_addLine 76 = .ok (.iload_n 1, 1) := by decide +kernel
theorem dX3_addLine_77 : decode cX3_addLine 77 = .ok (.iload_n 2, 1) := by decide +kernel
theorem dX3_addLine_78 : decode cX3_addLine 78 = .ok (.invokevirtual 39, 3) := by decide +kernel
theorem dX3_addLine_81 : decode cX3_addLine 81 = .ok (.iconst 1, 1) := by decide +kernel
theorem dX3_addLine_82 : decode cX3_addLine 82 = .ok (.iadd, 1) := by decide +kernel
theorem dX3_addLine_83 : decode cX3_addLine 83 = .ok (.invokevirtual 58, 3) := by decide +kernel
theorem dX3_addLine_86 : decode cX3_addLine 86 = .ok (.iconst 1, 1) := by decide +kernel
theorem dX3_addLine_87 : decode cX3_addLine 87 = .ok (.ireturn, 1) := by decide +kernel
theorem dX3_takeLine_0 : decode cX3_takeLine 0 = .ok (.aload_n 0, 1) := by decide +kernel
theorem dX3_takeLine_1 : decode cX3_takeLine 1 = .ok (.iload_n 1, 1) := by decide +kernel
theorem dX3_takeLine_2 : decode cX3_takeLine 2 = .ok (.invokevirtual 54, 3) := by decide +kernel
theorem dX3_takeLine_5 : decode cX3_takeLine 5 = .ok (.ifCond .eq 20, 3) := by decide +kernel
theorem dX3_takeLine_8 : decode cX3_takeLine 8 = .ok (.aload_n 0, 1) := by decide +kernel
theorem dX3_takeLine_9 : decode cX3_takeLine 9 = .ok (.iload_n 2, 1) := by decide +kernel
theorem dX3_takeLine_10 : decode cX3_takeLine 10 = .ok (.invokevirtual 54, 3) := by decide +kernel
theorem dX3_takeLine_13 : decode cX3_takeLine 13 = .ok (.ifCond .eq 12, 3) := by decide +kernel
theorem dX3_takeLine_16 : decode cX3_takeLine 16 = .ok (.aload_n 0, 1) := by decide +kernel
theorem dX3_takeLine_17 : decode cX3_takeLine 17 = .ok (.iload_n 1, 1) := by decide +kernel
theorem dX3_takeLine_18 : decode cX3_takeLine 18 = .ok (.iload_n 2, 1) := by decide +kernel
theorem dX3_takeLine_19 : decode cX3_takeLine 19 = .ok (.invokevirtual 39, 3) := by decide +kernel
theorem dX3_takeLine_22 : decode cX3_takeLine 22 = .ok (.ifCond .gt 5, 3) := by decide +kernel
theorem dX3_takeLine_25 : decode cX3_takeLine 25 = .ok (.iconst 0, 1) := by decide +kernel
theorem dX3_takeLine_26 : decode cX3_takeLine 26 = .ok (.ireturn, 1) := by decide +kernel
theorem dX3_takeLine_27 : decode cX3_takeLine 27 = .ok (.aload_n 0, 1) := by decide +kernel
theorem dX3_takeLine_28 : decode cX3_takeLine 28 = .ok (.iload_n 1, 1) := by decide +kernel
theorem dX3_takeLine_29 : decode cX3_takeLine 29 = .ok (.iload_n 2, 1) := by decide +kernel
theorem dX3_takeLine_30 : decode cX3_takeLine 30 = .ok (.aload_n 0, 1) := by decide +kernel
theorem dX3_takeLine_31 : decode cX3_takeLine 31 = .ok (.iload_n 1, 1) := by decide +kernel
theorem dX3_takeLine_32 : decode cX3_takeLine 32 = .ok (.iload_n 2, 1) := by decide +kernel
theorem dX3_takeLine_33 : decode cX3_takeLine 33 = .ok (.invokevirtual 39, 3) := by decide +kernel
theorem dX3_takeLine_36 : decode cX3_takeLine 36 = .ok (.iconst 1, 1) := by decide +kernel
theorem dX3_takeLine_37 : decode cX3_takeLine 37 = .ok (.isub, 1) := by decide +kernel
theorem dX3_takeLine_38 : decode cX3_takeLine 38 = .ok (.invokevirtual 58, 3) := by decide +kernel
theorem dX3_takeLine_41 : decode cX3_takeLine 41 = .ok (.iconst 1, 1) := by decide +kernel
theorem dX3_takeLine_42 : decode cX3_takeLine 42 = .ok (.ireturn, 1) := by decide +kernel
theorem dX3_changeWeight_0 : decode cX3_changeWeight 0 = .ok (.aload_n 0, 1) := by decide +kernel
theorem dX3_changeWeight_1 : decode cX3_changeWeight 1 = .ok (.iload_n 1, 1) := by decide +kernel
theorem dX3_changeWeight_2 : decode cX3_changeWeight 2 = .ok (.invokevirtual 54, 3) := by decide +kernel
theorem dX3_changeWeight_5 : decode cX3_changeWeight 5 = .ok (.ifCond .eq 22, 3) := by decide +kernel
theorem dX3_changeWeight_8 : decode cX3_changeWeight 8 = .ok (.iload_n 1, 1) := by decide +kernel
theorem dX3_changeWeight_9 : decode cX3_changeWeight 9 = .ok (.aload_n 0, 1) := by decide +kernel
theorem dX3_changeWeight_10 : decode cX3_changeWeight 10 = .ok (.getfield 9, 3) := by decide +kernel
theorem dX3_changeWeight_13 : decode cX3_changeWeight 13 = .ok (.arraylength, 1) := by decide +kernel
theorem dX3_changeWeight_14 : decode cX3_changeWeight 14 = .ok (.if_icmp .ge 13, 3) := by decide +kernel
theorem dX3_changeWeight_17 : decode cX3_changeWeight 17 = .ok (.aload_n 0, 1) := by decide +kernel
theorem dX3_changeWeight_18 : decode cX3_changeWeight 18 = .ok (.getfield 9, 3) := by decide +kernel
theorem dX3_changeWeight_21 : decode cX3_changeWeight 21 = .ok (.iload_n 1, 1) := by decide +kernel
theorem dX3_changeWeight_22 : decode cX3_changeWeight 22 = .ok (.iaload, 1) := by decide +kernel
theorem dX3_changeWeight_23 : decode cX3_changeWeight 23 = .ok (.iload_n 2, 1) := by decide +kernel
theorem dX3_changeWeight_24 : decode cX3_changeWeight 24 = .ok (.if_icmp .ne 5, 3) := by decide +kernel
theorem dX3_changeWeight_27 : decode cX3_changeWeight 27 = .ok (.iconst 0, 1) := by decide +kernel
theorem dX3_changeWeight_28 : decode cX3_changeWeight 28 = .ok (.ireturn, 1) := by decide +kernel
theorem dX3_changeWeight_29 : decode cX3_changeWeight 29 = .ok (.aload_n 0, 1) := by decide +kernel
theorem dX3_changeWeight_30 : decode cX3_changeWeight 30 = .ok (.getfield 9, 3) := by decide +kernel
theorem dX3_changeWeight_33 : decode cX3_changeWeight 33 = .ok (.iload_n 1, 1) := by decide +kernel
theorem dX3_changeWeight_34 : decode cX3_changeWeight 34 = .ok (.iload_n 2, 1) := by decide +kernel
theorem dX3_changeWeight_35 : decode cX3_changeWeight 35 = .ok (.iastore, 1) := by decide +kernel
theorem dX3_changeWeight_36 : decode cX3_changeWeight 36 = .ok (.iconst 1, 1) := by decide +kernel
theorem dX3_changeWeight_37 : decode cX3_changeWeight 37 = .ok (.ireturn, 1) := by decide +kernel
theorem dX4_init_0 : decode cX4_init 0 = .ok (.aload_n 0, 1) := by decide +kernel
theorem dX4_init_1 : decode cX4_init 1 = .ok (.invokespecial 3, 3) := by decide +kernel
theorem dX4_init_4 : decode cX4_init 4 = .ok (.aload_n 0, 1) := by decide +kernel
theorem dX4_init_5 : decode cX4_init 5 = .ok (.sipush 4096, 3) := by decide +kernel
theorem dX4_init_8 : decode cX4_init 8 = .ok (.newarray .int, 2) := by decide +kernel
theorem dX4_init_10 : decode cX4_init 10 = .ok (.putfield 9, 3) := by decide +kernel
theorem dX4_init_13 : decode cX4_init 13 = .ok (.return_, 1) := by decide +kernel
theorem dX4_learn_0 : decode cX4_learn 0 = .ok (.iconst 0, 1) := by decide +kernel
theorem dX4_learn_1 : decode cX4_learn 1 = .ok (.istore_n 3, 1) := by decide +kernel
theorem dX4_learn_2 : decode cX4_learn 2 = .ok (.iload_n 3, 1) := by decide +kernel
theorem dX4_learn_3 : decode cX4_learn 3 = .ok (.iload_n 1, 1) := by decide +kernel
theorem dX4_learn_4 : decode cX4_learn 4 = .ok (.if_icmp .gt 46, 3) := by decide +kernel
theorem dX4_learn_7 : decode cX4_learn 7 = .ok (.iload_n 3, 1) := by decide +kernel
theorem dX4_learn_8 : decode cX4_learn 8 = .ok (.aload_n 0, 1) := by decide +kernel
theorem dX4_learn_9 : decode cX4_learn 9 = .ok (.getfield 9, 3) := by decide +kernel
theorem dX4_learn_12 : decode cX4_learn 12 = .ok (.arraylength, 1) := by decide +kernel
theorem dX4_learn_13 : decode cX4_learn 13 = .ok (.if_icmp .ge 37, 3) := by decide +kernel
theorem dX4_learn_16 : decode cX4_learn 16 = .ok (.iload_n 3, 1) := by decide +kernel
theorem dX4_learn_17 : decode cX4_learn 17 = .ok (.iload_n 1, 1) := by decide +kernel
theorem dX4_learn_18 : decode cX4_learn 18 = .ok (.iconst (-1), 1) := by decide +kernel
theorem dX4_learn_19 : decode cX4_learn 19 = .ok (.ixor, 1) := by decide +kernel
theorem dX4_learn_20 : decode cX4_learn 20 = .ok (.iand, 1) := by decide +kernel
theorem dX4_learn_21 : decode cX4_learn 21 = .ok (.ifCond .ne 23, 3) := by decide +kernel
theorem dX4_learn_24 : decode cX4_learn 24 = .ok (.aload_n 0, 1) := by decide +kernel
theorem dX4_learn_25 : decode cX4_learn 25 = .ok (.getfield 9, 3) := by decide +kernel
theorem dX4_learn_28 : decode cX4_learn 28 = .ok (.iload_n 3, 1) := by decide +kernel
theorem dX4_learn_29 : decode cX4_learn 29 = .ok (.iload_n 3, 1) := by decide +kernel
theorem dX4_learn_30 : decode cX4_learn 30 = .ok (.ifCond .ne 7, 3) := by decide +kernel
theorem dX4_learn_33 : decode cX4_learn 33 = .ok (.iconst 0, 1) := by decide +kernel
theorem dX4_learn_34 : decode cX4_learn 34 = .ok (.goto 9, 3) := by decide +kernel
theorem dX4_learn_37 : decode cX4_learn 37 = .ok (.aload_n 0, 1) := by decide +kernel
theorem dX4_learn_38 : decode cX4_learn 38 = .ok (.iload_n 3, 1) := by decide +kernel
theorem dX4_learn_39 : decode cX4_learn 39 = .ok (.aload_n 2, 1) := by decide +kernel
theorem dX4_learn_40 : decode cX4_learn 40 = .ok (.invokevirtual 15, 3) := by decide +kernel
theorem dX4_learn_43 : decode cX4_learn 43 = .ok (.iastore, 1) := by decide +kernel
theorem dX4_learn_44 : decode cX4_learn 44 = .ok (.iinc 3 1, 3) := by decide +kernel
theorem dX4_learn_47 : decode cX4_learn 47 = .ok (.goto (-45), 3) := by decide +kernel
theorem dX4_learn_50 : decode cX4_learn 50 = .ok (.return_, 1) := by decide +kernel
theorem dX4_mostIn_0 : decode cX4_mostIn 0 = .ok (.iload_n 1, 1) := by decide +kernel
theorem dX4_mostIn_1 : decode cX4_mostIn 1 = .ok (.ifCond .lt 21, 3) := by decide +kernel
theorem dX4_mostIn_4 : decode cX4_mostIn 4 = .ok (.iload_n 1, 1) := by decide +kernel
theorem dX4_mostIn_5 : decode cX4_mostIn 5 = .ok (.aload_n 0, 1) := by decide +kernel
theorem dX4_mostIn_6 : decode cX4_mostIn 6 = .ok (.getfield 9, 3) := by decide +kernel
theorem dX4_mostIn_9 : decode cX4_mostIn 9 = .ok (.arraylength, 1) := by decide +kernel
theorem dX4_mostIn_10 : decode cX4_mostIn 10 = .ok (.if_icmp .ge 12, 3) := by decide +kernel
theorem dX4_mostIn_13 : decode cX4_mostIn 13 = .ok (.aload_n 0, 1) := by decide +kernel
theorem dX4_mostIn_14 : decode cX4_mostIn 14 = .ok (.getfield 9, 3) := by decide +kernel
theorem dX4_mostIn_17 : decode cX4_mostIn 17 = .ok (.iload_n 1, 1) := by decide +kernel
theorem dX4_mostIn_18 : decode cX4_mostIn 18 = .ok (.iaload, 1) := by decide +kernel
theorem dX4_mostIn_19 : decode cX4_mostIn 19 = .ok (.goto 4, 3) := by decide +kernel
theorem dX4_mostIn_22 : decode cX4_mostIn 22 = .ok (.iconst 0, 1) := by decide +kernel
theorem dX4_mostIn_23 : decode cX4_mostIn 23 = .ok (.ireturn, 1) := by decide +kernel
theorem dX4_mostWithLowest_0 : decode cX4_mostWithLowest 0 = .ok (.iload_n 1, 1) := by decide +kernel
theorem dX4_mostWithLowest_1 : decode cX4_mostWithLowest 1 = .ok (.invokestatic 19, 3) := by decide +kernel
theorem dX4_mostWithLowest_4 : decode cX4_mostWithLowest 4 = .ok (.istore_n 3, 1) := by decide +kernel
theorem dX4_mostWithLowest_5 : decode cX4_mostWithLowest 5 = .ok (.aload_n 0, 1) := by decide +kernel
theorem dX4_mostWithLowest_6 : decode cX4_mostWithLowest 6 = .ok (.iload_n 1, 1) := by decide +kernel
theorem dX4_mostWithLowest_7 : decode cX4_mostWithLowest 7 = .ok (.iload_n 1, 1) := by decide +kernel
theorem dX4_mostWithLowest_8 : decode cX4_mostWithLowest 8 = .ok (.iconst 1, 1) := by decide +kernel
theorem dX4_mostWithLowest_9 : decode cX4_mostWithLowest 9 = .ok (.isub, 1) := by decide +kernel
theorem dX4_mostWithLowest_10 : decode cX4_mostWithLowest 10 = .ok (.iand, 1) := by decide +kernel
theorem dX4_mostWithLowest_11 : decode cX4_mostWithLowest 11 = .ok (.invokevirtual 25, 3) := by decide +kernel
theorem dX4_mostWithLowest_14 : decode cX4_mostWithLowest 14 = .ok (.istore 4, 2) := by decide +kernel
theorem dX4_mostWithLowest_16 : decode cX4_mostWithLowest 16 = .ok (.aload_n 2, 1) := by decide +kernel
theorem dX4_mostWithLowest_17 : decode cX4_mostWithLowest 17 = .ok (.iload_n 3, 1) := by decide +kernel
theorem dX4_mostWithLowest_18 : decode cX4_mostWithLowest 18 = .ok (.iconst 1, 1) := by decide +kernel
theorem dX4_mostWithLowest_19 : decode cX4_mostWithLowest 19 = .ok (.iadd, 1) := by decide +kernel
theorem dX4_mostWithLowest_20 : decode cX4_mostWithLowest 20 = .ok (.invokevirtual 28, 3) := by decide +kernel
theorem dX4_mostWithLowest_23 : decode cX4_mostWithLowest 23 = .ok (.istore 5, 2) := by decide +kernel
theorem dX4_mostWithLowest_25 : decode cX4_mostWithLowest 25 = .ok (.aload_n 2, 1) := by decide +kernel
theorem dX4_mostWithLowest_26 : decode cX4_mostWithLowest 26 = .ok (.iload_n 3, 1) := by decide +kernel
theorem dX4_mostWithLowest_27 : decode cX4_mostWithLowest 27 = .ok (.invokevirtual 28, 3) := by decide +kernel
theorem dX4_mostWithLowest_30 : decode cX4_mostWithLowest 30 = .ok (.istore 6, 2) := by decide +kernel
theorem dX4_mostWithLowest_32 : decode cX4_mostWithLowest 32 = .ok (.iload 6, 2) := by decide +kernel
theorem dX4_mostWithLowest_34 : decode cX4_mostWithLowest 34 = .ok (.iload 5, 2) := by decide +kernel
theorem dX4_mostWithLowest_36 : decode cX4_mostWithLowest 36 = .ok (.if_icmp .ge 45, 3) := by decide +kernel
theorem dX4_mostWithLowest_39 : decode cX4_mostWithLowest 39 = .ok (.aload_n 2, 1) := by decide +kernel
theorem dX4_mostWithLowest_40 : decode cX4_mostWithLowest 40 = .ok (.iload 6, 2) := by decide +kernel
theorem dX4_mostWithLowest_42 : decode cX4_mostWithLowest 42 = .ok (.invokevirtual 31, 3) := by decide +kernel
theorem dX4_mostWithLowest_45 : decode cX4_mostWithLowest 45 = .ok (.istore 7, 2) := by decide +kernel
theorem dX4_mostWithLowest_47 : decode cX4_mostWithLowest 47 = .ok (.iload 7, 2) := by decide +kernel
theorem dX4_mostWithLowest_49 : decode cX4_mostWithLowest 49 = .ok (.iload_n 1, 1) := by decide +kernel
theorem dX4_mostWithLowest_50 : decode cX4_mostWithLowest 50 = .ok (.iconst (-1), 1) := by decide +kernel
theorem dX4_mostWithLowest_51 : decode cX4_mostWithLowest 51 = .ok (.ixor, 1) := by decide +kernel
theorem dX4_mostWithLowest_52 : decode cX4_mostWithLowest 52 = .ok (.iand, 1) := by decide +kernel
theorem dX4_mostWithLowest_53 : decode cX4_mostWithLowest 53 = .ok (.ifCond .ne 22, 3) := by decide +kernel
theorem dX4_mostWithLowest_56 : decode cX4_mostWithLowest 56 = .ok (.iload 4, 2) := by decide +kernel
theorem dX4_mostWithLowest_58 : decode cX4_mostWithLowest 58 = .ok (.iconst 1, 1) := by decide +kernel
theorem dX4_mostWithLowest_59 : decode cX4_mostWithLowest 59 = .ok (.aload_n 0, 1) := by decide +kernel
theorem dX4_mostWithLowest_60 : decode cX4_mostWithLowest 60 = .ok (.iload_n 1, 1) := by decide +kernel
theorem dX4_mostWithLowest_61 : decode cX4_mostWithLowest 61 = .ok (.iload 7, 2) := by decide +kernel
theorem dX4_mostWithLowest_63 : decode cX4_mostWithLowest 63 = .ok (.iconst (-1), 1) := by decide +kernel
theorem dX4_mostWithLowest_64 : decode cX4_mostWithLowest 64 = .ok (.ixor, 1) := by decide +kernel
theorem dX4_mostWithLowest_65 : decode cX4_mostWithLowest 65 = .ok (.iand, 1) := by decide +kernel
theorem dX4_mostWithLowest_66 : decode cX4_mostWithLowest 66 = .ok (.invokevirtual 25, 3) := by decide +kernel
theorem dX4_mostWithLowest_69 : decode cX4_mostWithLowest 69 = .ok (.iadd, 1) := by decide +kernel
theorem dX4_mostWithLowest_70 : decode cX4_mostWithLowest 70 = .ok (.invokestatic 34, 3) := by decide +kernel
theorem dX4_mostWithLowest_73 : decode cX4_mostWithLowest 73 = .ok (.istore 4, 2) := by decide +kernel
theorem dX4_mostWithLowest_75 : decode cX4_mostWithLowest 75 = .ok (.iinc 6 1, 3) := by decide +kernel
theorem dX4_mostWithLowest_78 : decode cX4_mostWithLowest 78 = .ok (.goto (-46), 3) := by decide +kernel
theorem dX4_mostWithLowest_81 : decode cX4_mostWithLowest 81 = .ok (.iload 4, 2) := by decide +kernel
theorem dX4_mostWithLowest_83 : decode cX4_mostWithLowest 83 = .ok (.ireturn, 1) := by decide +kernel
theorem dX4_ringAt_0 : decode cX4_ringAt 0 = .ok (.aload_n 0, 1) := by decide +kernel
theorem dX4_ringAt_1 : decode cX4_ringAt 1 = .ok (.iload_n 2, 1) := by decide +kernel
theorem dX4_ringAt_2 : decode cX4_ringAt 2 = .ok (.invokevirtual 25, 3) := by decide +kernel
theorem dX4_ringAt_5 : decode cX4_ringAt 5 = .ok (.istore 4, 2) := by decide +kernel
theorem dX4_ringAt_7 : decode cX4_ringAt 7 = .ok (.iload_n 1, 1) := by decide +kernel
theorem dX4_ringAt_8 : decode cX4_ringAt 8 = .ok (.ifCond .lt 9, 3) := by decide +kernel
theorem dX4_ringAt_11 : decode cX4_ringAt 11 = .ok (.iload_n 1, 1) := by decide +kernel
theorem dX4_ringAt_12 : decode cX4_ringAt 12 = .ok (.iload 4, 2) := by decide +kernel
theorem dX4_ringAt_14 : decode cX4_ringAt 14 = .ok (.if_icmp .lt 5, 3) := by decide +kernel
theorem dX4_ringAt_17 : decode cX4_ringAt 17 = .ok (.iconst (-1), 1) := by decide +kernel
theorem dX4_ringAt_18 : decode cX4_ringAt 18 = .ok (.ireturn, 1) := by decide +kernel
theorem dX4_ringAt_19 : decode cX4_ringAt 19 = .ok (.iload_n 2, 1) := by decide +kernel
theorem dX4_ringAt_20 : decode cX4_ringAt 20 = .ok (.istore 5, 2) := by decide +kernel
theorem dX4_ringAt_22 : decode cX4_ringAt 22 = .ok (.iconst 0, 1) := by decide +kernel
theorem dX4_ringAt_23 : decode cX4_ringAt 23 = .ok (.istore 6, 2) := by decide +kernel
theorem dX4_ringAt_25 : decode cX4_ringAt 25 = .ok (.iconst 0, 1) := by decide +kernel
theorem dX4_ringAt_26 : decode cX4_ringAt 26 = .ok (.istore 7, 2) := by decide +kernel
theorem dX4_ringAt_28 : decode cX4_ringAt 28 = .ok (.iload 7, 2) := by decide +kernel
theorem dX4_ringAt_30 : decode cX4_ringAt 30 = .ok (.iload_n 1, 1) := by decide +kernel
theorem dX4_ringAt_31 : decode cX4_ringAt 31 = .ok (.if_icmp .gt 27, 3) := by decide +kernel
theorem dX4_ringAt_34 : decode cX4_ringAt 34 = .ok (.aload_n 0, 1) := by decide +kernel
theorem dX4_ringAt_35 : decode cX4_ringAt 35 = .ok (.iload 5, 2) := by decide +kernel
theorem dX4_ringAt_37 : decode cX4_ringAt 37 = .ok (.aload_n 3, 1) := by decide +kernel
theorem dX4_ringAt_38 : decode cX4_ringAt 38 = .ok (.invokevirtual 40, 3) := by decide +kernel
theorem dX4_ringAt_41 : decode cX4_ringAt 41 = .ok (.istore 6, 2) := by decide +kernel
theorem dX4_ringAt_43 : decode cX4_ringAt 43 = .ok (.iload 5, 2) := by decide +kernel
theorem dX4_ringAt_45 : decode cX4_ringAt 45 = .ok (.iload 6, 2) := by decide +kernel
theorem dX4_ringAt_47 : decode cX4_ringAt 47 = .ok (.iconst (-1), 1) := by decide +kernel
theorem dX4_ringAt_48 : decode cX4_ringAt 48 = .ok (.ixor, 1) := by decide +kernel
theorem dX4_ringAt_49 : decode cX4_ringAt 49 = .ok (.iand, 1) := by decide +kernel
theorem dX4_ringAt_50 : decode cX4_ringAt 50 = .ok (.istore 5, 2) := by decide +kernel
theorem dX4_ringAt_52 : decode cX4_ringAt 52 = .ok (.iinc 7 1, 3) := by decide +kernel
theorem dX4_ringAt_55 : decode cX4_ringAt 55 = .ok (.goto (-27), 3) := by decide +kernel
theorem dX4_ringAt_58 : decode cX4_ringAt 58 = .ok (.iload 6, 2) := by decide +kernel
theorem dX4_ringAt_60 : decode cX4_ringAt 60 = .ok (.ireturn, 1) := by decide +kernel
theorem dX4_leastOfMost_0 : decode cX4_leastOfMost 0 = .ok (.iconst 0, 1) := by decide +kernel
theorem dX4_leastOfMost_1 : decode cX4_leastOfMost 1 = .ok (.istore_n 3, 1) := by decide +kernel
theorem dX4_leastOfMost_2 : decode cX4_leastOfMost 2 = .ok (.iconst 0, 1) := by decide +kernel
theorem dX4_leastOfMost_3 : decode cX4_leastOfMost 3 = .ok (.istore 4, 2) := by decide +kernel
theorem dX4_leastOfMost_5 : decode cX4_leastOfMost 5 = .ok (.iload 4, 2) := by decide +kernel
theorem dX4_leastOfMost_7 : decode cX4_leastOfMost 7 = .ok (.aload_n 2, 1) := by decide +kernel
theorem dX4_leastOfMost_8 : decode cX4_leastOfMost 8 = .ok (.getfield 43, 3) := by decide +kernel
theorem dX4_leastOfMost_11 : decode cX4_leastOfMost 11 = .ok (.if_icmp .ge 71, 3) := by decide +kernel
theorem dX4_leastOfMost_14 : decode cX4_leastOfMost 14 = .ok (.aload_n 2, 1) := by decide +kernel
theorem dX4_leastOfMost_15 : decode cX4_leastOfMost 15 = .ok (.iload 4, 2) := by decide +kernel
theorem dX4_leastOfMost_17 : decode cX4_leastOfMost 17 = .ok (.invokevirtual 31, 3) := by decide +kernel
theorem dX4_leastOfMost_20 : decode cX4_leastOfMost 20 = .ok (.istore 5, 2) := by decide +kernel
theorem dX4_leastOfMost_22 : decode cX4_leastOfMost 22 = .ok (.iload 5, 2) := by decide +kernel
theorem dX4_leastOfMost_24 : decode cX4_leastOfMost 24 = .ok (.iload_n 1, 1) := by decide +kernel
theorem dX4_leastOfMost_25 : decode cX4_leastOfMost 25 = .ok (.iconst (-1), 1) := by decide +kernel
theorem dX4_leastOfMost_26 : decode cX4_leastOfMost 26 = .ok (.ixor, 1) := by decide +kernel
theorem dX4_leastOfMost_27 : decode cX4_leastOfMost 27 = .ok (.iand, 1) := by decide +kernel
theorem dX4_leastOfMost_28 : decode cX4_leastOfMost 28 = .ok (.ifCond .ne 27, 3) := by decide +kernel
theorem dX4_leastOfMost_31 : decode cX4_leastOfMost 31 = .ok (.iconst 1, 1) := by decide +kernel
theorem dX4_leastOfMost_32 : decode cX4_leastOfMost 32 = .ok (.aload_n 0, 1) := by decide +kernel
theorem dX4_leastOfMost_33 : decode cX4_leastOfMost 33 = .ok (.iload_n 1, 1) := by decide +kernel
theorem dX4_leastOfMost_34 : decode cX4_leastOfMost 34 = .ok (.iload 5, 2) := by decide +kernel
theorem dX4_leastOfMost_36 : decode cX4_leastOfMost 36 = .ok (.iconst (-1), 1) := by decide +kernel
theorem dX4_leastOfMost_37 : decode cX4_leastOfMost 37 = .ok (.ixor, 1) := by decide +kernel
theorem dX4_leastOfMost_38 : decode cX4_leastOfMost 38 = .ok (.iand, 1) := by decide +kernel
theorem dX4_leastOfMost_39 : decode cX4_leastOfMost 39 = .ok (.invokevirtual 25, 3) := by decide +kernel
theorem dX4_leastOfMost_42 : decode cX4_leastOfMost 42 = .ok (.iadd, 1) := by decide +kernel
theorem dX4_leastOfMost_43 : decode cX4_leastOfMost 43 = .ok (.aload_n 0, 1) := by decide +kernel
theorem dX4_leastOfMost_44 : decode cX4_leastOfMost 44 = .ok (.iload_n 1, 1) := by decide +kernel
theorem dX4_leastOfMost_45 : decode cX4_leastOfMost 45 = .ok (.invokevirtual 25, 3) := by decide +kernel
theorem dX4_leastOfMost_48 : decode cX4_leastOfMost 48 = .ok (.if_icmp .ne 7, 3) := by decide +kernel
theorem dX4_leastOfMost_51 : decode cX4_leastOfMost 51 = .ok (.iconst 1, 1) := by decide +kernel
theorem dX4_leastOfMost_52 : decode cX4_leastOfMost 52 = .ok (.goto 4, 3) := by decide +kernel
theorem dX4_leastOfMost_55 : decode cX4_leastOfMost 55 = .ok (.iconst 0, 1) := by decide +kernel
theorem dX4_leastOfMost_56 : decode cX4_leastOfMost 56 = .ok (.istore 6, 2) := by decide +kernel
theorem dX4_leastOfMost_58 : decode cX4_leastOfMost 58 = .ok (.iload 6, 2) := by decide +kernel
theorem dX4_leastOfMost_60 : decode cX4_leastOfMost 60 = .ok (.ifCond .eq 16, 3) := by decide +kernel
theorem dX4_leastOfMost_63 : decode cX4_leastOfMost 63 = .ok (.iload_n 3, 1) := by decide +kernel
theorem dX4_leastOfMost_64 : decode cX4_leastOfMost 64 = .ok (.ifCond .eq 9, 3) := by decide +kernel
theorem dX4_leastOfMost_67 : decode cX4_leastOfMost 67 = .ok (.iload 5, 2) := by decide +kernel
theorem dX4_leastOfMost_69 : decode cX4_leastOfMost 69 = .ok (.iload_n 3, 1) := by decide +kernel
theorem dX4_leastOfMost_70 : decode cX4_leastOfMost 70 = .ok (.if_icmp .ge 6, 3) := by decide +kernel
theorem dX4_leastOfMost_73 : decode cX4_leastOfMost 73 = .ok (.iload 5, 2) := by decide +kernel
theorem dX4_leastOfMost_75 : decode cX4_leastOfMost 75 = .ok (.istore_n 3, 1) := by decide +kernel
theorem dX4_leastOfMost_76 : decode cX4_leastOfMost 76 = .ok (.iinc 4 1, 3) := by decide +kernel
theorem dX4_leastOfMost_79 : decode cX4_leastOfMost 79 = .ok (.goto (-74), 3) := by decide +kernel
theorem dX4_leastOfMost_82 : decode cX4_leastOfMost 82 = .ok (.iload_n 3, 1) := by decide +kernel
theorem dX4_leastOfMost_83 : decode cX4_leastOfMost 83 = .ok (.ireturn, 1) := by decide +kernel
theorem dX5_init_0 : decode cX5_init 0 = .ok (.aload_n 0, 1) := by decide +kernel
theorem dX5_init_1 : decode cX5_init 1 = .ok (.invokespecial 3, 3) := by decide +kernel
theorem dX5_init_4 : decode cX5_init 4 = .ok (.aload_n 0, 1) := by decide +kernel
theorem dX5_init_5 : decode cX5_init 5 = .ok (.bipush 9, 2) := by decide +kernel
theorem dX5_init_7 : decode cX5_init 7 = .ok (.anewarray 9, 3) := by decide +kernel
theorem dX5_init_10 : decode cX5_init 10 = .ok (.putfield 11, 3) := by decide +kernel
theorem dX5_init_13 : decode cX5_init 13 = .ok (.iconst 0, 1) := by decide +kernel
theorem dX5_init_14 : decode cX5_init 14 = .ok (.istore_n 1, 1) := by decide +kernel
theorem dX5_init_15 : decode cX5_init 15 = .ok (.iload_n 1, 1) := by decide +kernel
theorem dX5_init_16 : decode cX5_init 16 = .ok (.aload_n 0, 1) := by decide +kernel
theorem dX5_init_17 : decode cX5_init 17 = .ok (.getfield 11, 3) := by decide +kernel
theorem dX5_init_20 : decode cX5_init 20 = .ok (.arraylength, 1) := by decide +kernel
theorem dX5_init_21 : decode cX5_init 21 = .ok (.if_icmp .ge 22, 3) := by decide +kernel
theorem dX5_init_24 : decode cX5_init 24 = .ok (.aload_n 0, 1) := by decide +kernel
theorem dX5_init_25 : decode cX5_init 25 = .ok (.getfield 11, 3) := by decide +kernel
theorem dX5_init_28 : decode cX5_init 28 = .ok (.iload_n 1, 1) := by decide +kernel
theorem dX5_init_29 : decode cX5_init 29 = .ok (.new 9, 3) := by decide +kernel
theorem dX5_init_32 : decode cX5_init 32 = .ok (.dup, 1) := by decide +kernel
theorem dX5_init_33 : decode cX5_init 33 = .ok (.invokespecial 15, 3) := by decide +kernel
theorem dX5_init_36 : decode cX5_init 36 = .ok (.aastore, 1) := by decide +kernel
theorem dX5_init_37 : decode cX5_init 37 = .ok (.iinc 1 1, 3) := by decide +kernel
theorem dX5_init_40 : decode cX5_init 40 = .ok (.goto (-25), 3) := by decide +kernel
theorem dX5_init_43 : decode cX5_init 43 = .ok (.return_, 1) := by decide +kernel
theorem dX5_forget_0 : decode cX5_forget 0 = .ok (.aload_n 0, 1) := by decide +kernel
theorem dX5_forget_1 : decode cX5_forget 1 = .ok (.iconst 0, 1) := by decide +kernel
theorem dX5_forget_2 : decode cX5_forget 2 = .ok (.putfield 16, 3) := by decide +kernel
theorem dX5_forget_5 : decode cX5_forget 5 = .ok (.return_, 1) := by decide +kernel
theorem dX5_placeAt_0 : decode cX5_placeAt 0 = .ok (.iload_n 1, 1) := by decide +kernel
theorem dX5_placeAt_1 : decode cX5_placeAt 1 = .ok (.ifCond .lt 21, 3) := by decide +kernel
theorem dX5_placeAt_4 : decode cX5_placeAt 4 = .ok (.iload_n 1, 1) := by decide +kernel
theorem dX5_placeAt_5 : decode cX5_placeAt 5 = .ok (.aload_n 0, 1) := by decide +kernel
theorem dX5_placeAt_6 : decode cX5_placeAt 6 = .ok (.getfield 11, 3) := by decide +kernel
theorem dX5_placeAt_9 : decode cX5_placeAt 9 = .ok (.arraylength, 1) := by decide +kernel
theorem dX5_placeAt_10 : decode cX5_placeAt 10 = .ok (.if_icmp .ge 12, 3) := by decide +kernel
theorem dX5_placeAt_13 : decode cX5_placeAt 13 = .ok (.aload_n 0, 1) := by decide +kernel
theorem dX5_placeAt_14 : decode cX5_placeAt 14 = .ok (.getfield 11, 3) := by decide +kernel
theorem dX5_placeAt_17 : decode cX5_placeAt 17 = .ok (.iload_n 1, 1) := by decide +kernel
theorem dX5_placeAt_18 : decode cX5_placeAt 18 = .ok (.aaload, 1) := by decide +kernel
theorem dX5_placeAt_19 : decode cX5_placeAt 19 = .ok (.goto 4, 3) := by decide +kernel
theorem dX5_placeAt_22 : decode cX5_placeAt 22 = .ok (.aconst_null, 1) := by decide +kernel
theorem dX5_placeAt_23 : decode cX5_placeAt 23 = .ok (.areturn, 1) := by decide +kernel
theorem dX5_note_0 : decode cX5_note 0 = .ok (.aload_n 0, 1) := by decide +kernel
theorem dX5_note_1 : decode cX5_note 1 = .ok (.aload_n 0, 1) := by decide +kernel
theorem dX5_note_2 : decode cX5_note 2 = .ok (.getfield 20, 3) := by decide +kernel
theorem dX5_note_5 : decode cX5_note 5 = .ok (.iconst 1, 1) := by decide +kernel
theorem dX5_note_6 : decode cX5_note 6 = .ok (.iadd, 1) := by decide +kernel
theorem dX5_note_7 : decode cX5_note 7 = .ok (.bipush 9, 2) := by decide +kernel
theorem dX5_note_9 : decode cX5_note 9 = .ok (.irem, 1) := by decide +kernel
theorem dX5_note_10 : decode cX5_note 10 = .ok (.invokevirtual 23, 3) := by decide +kernel
theorem dX5_note_13 : decode cX5_note 13 = .ok (.astore_n 2, 1) := by decide +kernel
theorem dX5_note_14 : decode cX5_note 14 = .ok (.aload_n 2, 1) := by decide +kernel
theorem dX5_note_15 : decode cX5_note 15 = .ok (.ifnull 8, 3) := by decide +kernel
theorem dX5_note_18 : decode cX5_note 18 = .ok (.aload_n 2, 1) := by decide +kernel
theorem dX5_note_19 : decode cX5_note 19 = .ok (.aload_n 1, 1) := by decide +kernel
theorem dX5_note_20 : decode cX5_note 20 = .ok (.invokevirtual 27, 3) := by decide +kernel
theorem dX5_note_23 : decode cX5_note 23 = .ok (.return_, 1) := by decide +kernel
theorem dX5_keepNoted_0 : decode cX5_keepNoted 0 = .ok (.aload_n 0, 1) := by decide +kernel
theorem dX5_keepNoted_1 : decode cX5_keepNoted 1 = .ok (.aload_n 0, 1) := by decide +kernel
theorem dX5_keepNoted_2 : decode cX5_keepNoted 2 = .ok (.getfield 20, 3) := by decide +kernel
theorem dX5_keepNoted_5 : decode cX5_keepNoted 5 = .ok (.iconst 1, 1) := by decide +kernel
theorem dX5_keepNoted_6 : decode cX5_keepNoted 6 = .ok (.iadd, 1) := by decide +kernel
theorem dX5_keepNoted_7 : decode cX5_keepNoted 7 = .ok (.bipush 9, 2) := by decide +kernel
theorem dX5_keepNoted_9 : decode cX5_keepNoted 9 = .ok (.irem, 1) := by decide +kernel
theorem dX5_keepNoted_10 : decode cX5_keepNoted 10 = .ok (.putfield 20, 3) := by decide +kernel
theorem dX5_keepNoted_13 : decode cX5_keepNoted 13 = .ok (.aload_n 0, 1) := by decide +kernel
theorem dX5_keepNoted_14 : decode cX5_keepNoted 14 = .ok (.bipush 8, 2) := by decide +kernel
theorem dX5_keepNoted_16 : decode cX5_keepNoted 16 = .ok (.aload_n 0, 1) := by decide +kernel
theorem dX5_keepNoted_17 : decode cX5_keepNoted 17 = .ok (.getfield 16, 3) := by decide +kernel
theorem dX5_keepNoted_20 : decode cX5_keepNoted 20 = .ok (.iconst 1, 1) := by decide +kernel
theorem dX5_keepNoted_21 : decode cX5_keepNoted 21 = .ok (.iadd, 1) := by decide +kernel
theorem dX5_keepNoted_22 : decode cX5_keepNoted 22 = .ok (.invokestatic 31, 3) := by decide +kernel
theorem dX5_keepNoted_25 : decode cX5_keepNoted 25 = .ok (.putfield 16, 3) := by decide +kernel
theorem dX5_keepNoted_28 : decode cX5_keepNoted 28 = .ok (.return_, 1) := by decide +kernel
theorem dX5_giveLatest_0 : decode cX5_giveLatest 0 = .ok (.aload_n 0, 1) := by decide +kernel
theorem dX5_giveLatest_1 : decode cX5_giveLatest 1 = .ok (.aload_n 0, 1) := by decide +kernel
theorem dX5_giveLatest_2 : decode cX5_giveLatest 2 = .ok (.getfield 20, 3) := by decide +kernel
theorem dX5_giveLatest_5 : decode cX5_giveLatest 5 = .ok (.invokevirtual 23, 3) := by decide +kernel
theorem dX5_giveLatest_8 : decode cX5_giveLatest 8 = .ok (.astore_n 2, 1) := by decide +kernel
theorem dX5_giveLatest_9 : decode cX5_giveLatest 9 = .ok (.aload_n 0, 1) := by decide +kernel
theorem dX5_giveLatest_10 : decode cX5_giveLatest 10 = .ok (.getfield 16, 3) := by decide +kernel
theorem dX5_giveLatest_13 : decode cX5_giveLatest 13 = .ok (.ifCond .le 7, 3) := by decide +kernel
theorem dX5_giveLatest_16 : decode cX5_giveLatest 16 = .ok (.aload_n 2, 1) := by decide +kernel
theorem dX5_giveLatest_17 : decode cX5_giveLatest 17 = .ok (.ifnonnull 5, 3) := by decide +kernel
theorem dX5_giveLatest_20 : decode cX5_giveLatest 20 = .ok (.iconst 0, 1) := by decide +kernel
theorem dX5_giveLatest_21 : decode cX5_giveLatest 21 = .ok (.ireturn, 1) := by decide +kernel
theorem dX5_giveLatest_22 : decode cX5_giveLatest 22 = .ok (.aload_n 1, 1) := by decide +kernel
theorem dX5_giveLatest_23 : decode cX5_giveLatest 23 = .ok (.aload_n 2, 1) := by decide +kernel
theorem dX5_giveLatest_24 : decode cX5_giveLatest 24 = .ok (.invokevirtual 27, 3) := by decide +kernel
theorem dX5_giveLatest_27 : decode cX5_giveLatest 27 = .ok (.aload_n 0, 1) := by decide +kernel
theorem dX5_giveLatest_28 : decode cX5_giveLatest 28 = .ok (.aload_n 0, 1) := by decide +kernel
theorem dX5_giveLatest_29 : decode cX5_giveLatest 29 = .ok (.getfield 20, 3) := by decide +kernel
theorem dX5_giveLatest_32 : decode cX5_giveLatest 32 = .ok (.bipush 9, 2) := by decide +kernel
theorem dX5_giveLatest_34 : decode cX5_giveLatest 34 = .ok (.iadd, 1) := by decide +kernel
theorem dX5_giveLatest_35 : decode cX5_giveLatest 35 = .ok (.iconst 1, 1) := by decide +kernel
theorem dX5_giveLatest_36 : decode cX5_giveLatest 36 = .ok (.isub, 1) := by decide +kernel
theorem dX5_giveLatest_37 : decode cX5_giveLatest 37 = .ok (.bipush 9, 2) := by decide +kernel
theorem dX5_giveLatest_39 : decode cX5_giveLatest 39 = .ok (.irem, 1) := by decide +kernel
theorem dX5_giveLatest_40 : decode cX5_giveLatest 40 = .ok (.putfield 20, 3) := by decide +kernel
theorem dX5_giveLatest_43 : decode cX5_giveLatest 43 = .ok (.aload_n 0, 1) := by decide +kernel
theorem dX5_giveLatest_44 : decode cX5_giveLatest 44 = .ok (.dup, 1) := by decide +kernel
theorem dX5_giveLatest_45 : decode cX5_giveLatest 45 = .ok (.getfield 16, 3) := by decide +kernel
theorem dX5_giveLatest_48 : decode cX5_giveLatest 48 = .ok (.iconst 1, 1) := by decide +kernel
theorem dX5_giveLatest_49 : decode cX5_giveLatest 49 = .ok (.isub, 1) := by decide +kernel
theorem dX5_giveLatest_50 : decode cX5_giveLatest 50 = .ok (.putfield 16, 3) := by decide +kernel
theorem dX5_giveLatest_53 : decode cX5_giveLatest 53 = .ok (.iconst 1, 1) := by decide +kernel
theorem dX5_giveLatest_54 : decode cX5_giveLatest 54 = .ok (.ireturn, 1) := by decide +kernel
theorem dX6_init_0 : decode cX6_init 0 = .ok (.aload_n 0, 1) := by decide +kernel
theorem dX6_init_1 : decode cX6_init 1 = .ok (.invokespecial 5, 3) := by decide +kernel
theorem dX6_init_4 : decode cX6_init 4 = .ok (.aload_n 0, 1) := by decide +kernel
theorem dX6_init_5 : decode cX6_init 5 = .ok (.new 11, 3) := by decide +kernel
theorem dX6_init_8 : decode cX6_init 8 = .ok (.dup, 1) := by decide +kernel
theorem dX6_init_9 : decode cX6_init 9 = .ok (.invokespecial 13, 3) := by decide +kernel
theorem dX6_init_12 : decode cX6_init 12 = .ok (.putfield 14, 3) := by decide +kernel
theorem dX6_init_15 : decode cX6_init 15 = .ok (.aload_n 0, 1) := by decide +kernel
theorem dX6_init_16 : decode cX6_init 16 = .ok (.bipush 12, 2) := by decide +kernel
theorem dX6_init_18 : decode cX6_init 18 = .ok (.newarray .long, 2) := by decide +kernel
theorem dX6_init_20 : decode cX6_init 20 = .ok (.putfield 18, 3) := by decide +kernel
theorem dX6_init_23 : decode cX6_init 23 = .ok (.return_, 1) := by decide +kernel
theorem dX6_readAll_0 : decode cX6_readAll 0 = .ok (.aload_n 0, 1) := by decide +kernel
theorem dX6_readAll_1 : decode cX6_readAll 1 = .ok (.getfield 14, 3) := by decide +kernel
theorem dX6_readAll_4 : decode cX6_readAll 4 = .ok (.invokevirtual 22, 3) := by decide +kernel
theorem dX6_readAll_7 : decode cX6_readAll 7 = .ok (.aload_n 0, 1) := by decide +kernel
theorem dX6_readAll_8 : decode cX6_readAll 8 = .ok (.iconst 0, 1) := by decide +kernel
theorem dX6_readAll_9 : decode cX6_readAll 9 = .ok (.putfield 25, 3) := by decide +kernel
theorem dX6_readAll_12 : decode cX6_readAll 12 = .ok (.aload_n 0, 1) := by decide +kernel
theorem dX6_readAll_13 : decode cX6_readAll 13 = .ok (.iconst 0, 1) := by decide +kernel
theorem dX6_readAll_14 : decode cX6_readAll 14 = .ok (.putfield 29, 3) := by decide +kernel
theorem dX6_readAll_17 : decode cX6_readAll 17 = .ok (.aload_n 0, 1) := by decide +kernel
theorem dX6_readAll_18 : decode cX6_readAll 18 = .ok (.iconst (-1), 1) := by decide +kernel
theorem dX6_readAll_19 : decode cX6_readAll 19 = .ok (.putfield 32, 3) := by decide +kernel
theorem dX6_readAll_22 : decode cX6_readAll 22 = .ok (.aload_n 1, 1) := by decide +kernel
theorem dX6_readAll_23 : decode cX6_readAll 23 = .ok (.getfield 35, 3) := by decide +kernel
theorem dX6_readAll_26 : decode cX6_readAll 26 = .ok (.sipush 600, 3) := by decide +kernel
theorem dX6_readAll_29 : decode cX6_readAll 29 = .ok (.invokestatic 40, 3) := by decide +kernel
theorem dX6_readAll_32 : decode cX6_readAll 32 = .ok (.istore_n 2, 1) := by decide +kernel
theorem dX6_readAll_33 : decode cX6_readAll 33 = .ok (.aload_n 0, 1) := by decide +kernel
theorem dX6_readAll_34 : decode cX6_readAll 34 = .ok (.iconst 0, 1) := by decide +kernel
theorem dX6_readAll_35 : decode cX6_readAll 35 = .ok (.putfield 46, 3) := by decide +kernel
theorem dX6_readAll_38 : decode cX6_readAll 38 = .ok (.iconst 0, 1) := by decide +kernel
theorem dX6_readAll_39 : decode cX6_readAll 39 = .ok (.istore_n 3, 1) := by decide +kernel
theorem dX6_readAll_40 : decode cX6_readAll 40 = .ok (.iload_n 3, 1) := by decide +kernel
theorem dX6_readAll_41 : decode cX6_readAll 41 = .ok (.sipush 640, 3) := by decide +kernel
theorem dX6_readAll_44 : decode cX6_readAll 44 = .ok (.if_icmp .ge 78, 3) := by decide +kernel
theorem dX6_readAll_47 : decode cX6_readAll 47 = .ok (.aload_n 0, 1) := by decide +kernel
theorem dX6_readAll_48 : decode cX6_readAll 48 = .ok (.getfield 46, 3) := by decide +kernel
theorem dX6_readAll_51 : decode cX6_readAll 51 = .ok (.iload_n 2, 1) := by decide +kernel
theorem dX6_readAll_52 : decode cX6_readAll 52 = .ok (.if_icmp .ge 70, 3) := by decide +kernel
theorem dX6_readAll_55 : decode cX6_readAll 55 = .ok (.aload_n 1, 1) := by decide +kernel
theorem dX6_readAll_56 : decode cX6_readAll 56 = .ok (.aload_n 0, 1) := by decide +kernel
theorem dX6_readAll_57 : decode cX6_readAll 57 = .ok (.getfield 46, 3) := by decide +kernel
theorem dX6_readAll_60 : decode cX6_readAll 60 = .ok (.invokevirtual 49, 3) := by decide +kernel
theorem dX6_readAll_63 : decode cX6_readAll 63 = .ok (.istore 4, 2) := by decide +kernel
theorem dX6_readAll_65 : decode cX6_readAll 65 = .ok (.aload_n 0, 1) := by decide +kernel
theorem dX6_readAll_66 : decode cX6_readAll 66 = .ok (.aload_n 0, 1) := by decide +kernel
theorem dX6_readAll_67 : decode cX6_readAll 67 = .ok (.getfield 46, 3) := by decide +kernel
theorem dX6_readAll_70 : decode cX6_readAll 70 = .ok (.iconst 1, 1) := by decide +kernel
theorem dX6_readAll_71 : decode cX6_readAll 71 = .ok (.iadd, 1) := by decide +kernel
theorem dX6_readAll_72 : decode cX6_readAll 72 = .ok (.putfield 53, 3) := by decide +kernel
theorem dX6_readAll_75 : decode cX6_readAll 75 = .ok (.iload 4, 2) := by decide +kernel
theorem dX6_readAll_77 : decode cX6_readAll 77 = .ok (.bipush 32, 2) := by decide +kernel
theorem dX6_readAll_79 : decode cX6_readAll 79 = .ok (.if_icmp .eq 29, 3) := by decide +kernel
theorem dX6_readAll_82 : decode cX6_readAll 82 = .ok (.iload 4, 2) := by decide +kernel
theorem dX6_readAll_84 : decode cX6_readAll 84 = .ok (.bipush 10, 2) := by decide +kernel
theorem dX6_readAll_86 : decode cX6_readAll 86 = .ok (.if_icmp .eq 22, 3) := by decide +kernel
theorem dX6_readAll_89 : decode cX6_readAll 89 = .ok (.aload_n 0, 1) := by decide +kernel
theorem dX6_readAll_90 : decode cX6_readAll 90 = .ok (.aload_n 1, 1) := by decide +kernel
theorem dX6_readAll_91 : decode cX6_readAll 91 = .ok (.invokevirtual 56, 3) := by decide +kernel
theorem dX6_readAll_94 : decode cX6_readAll 94 = .ok (.aload_n 0, 1) := by decide +kernel
theorem dX6_readAll_95 : decode cX6_readAll 95 = .ok (.invokevirtual 60, 3) := by decide +kernel
theorem dX6_readAll_98 : decode cX6_readAll 98 = .ok (.istore 5, 2) := by decide +kernel
theorem dX6_readAll_100 : decode cX6_readAll 100 = .ok (.iload 5, 2) := by decide +kernel
theorem dX6_readAll_102 : decode cX6_readAll 102 = .ok (.ifCond .eq 6, 3) := by decide +kernel
theorem dX6_readAll_105 : decode cX6_readAll 105 = .ok (.iload 5, 2) := by decide +kernel
theorem dX6_readAll_107 : decode cX6_readAll 107 = .ok (.ireturn, 1) := by decide +kernel
theorem dX6_readAll_108 : decode cX6_readAll 108 = .ok (.aload_n 0, 1) := by decide +kernel
theorem dX6_readAll_109 : decode cX6_readAll 109 = .ok (.aload_n 0, 1) := by decide +kernel
theorem dX6_readAll_110 : decode cX6_readAll 110 = .ok (.getfield 53, 3) := by decide +kernel
theorem dX6_readAll_113 : decode cX6_readAll 113 = .ok (.putfield 46, 3) := by decide +kernel
theorem dX6_readAll_116 : decode cX6_readAll 116 = .ok (.iinc 3 1, 3) := by decide +kernel
theorem dX6_readAll_119 : decode cX6_readAll 119 = .ok (.goto (-79), 3) := by decide +kernel
theorem dX6_readAll_122 : decode cX6_readAll 122 = .ok (.aload_n 0, 1) := by decide +kernel
theorem dX6_readAll_123 : decode cX6_readAll 123 = .ok (.iload_n 2, 1) := by decide +kernel
theorem dX6_readAll_124 : decode cX6_readAll 124 = .ok (.putfield 46, 3) := by decide +kernel
theorem dX6_readAll_127 : decode cX6_readAll 127 = .ok (.aload_n 1, 1) := by decide +kernel
theorem dX6_readAll_128 : decode cX6_readAll 128 = .ok (.getfield 35, 3) := by decide +kernel
theorem dX6_readAll_131 : decode cX6_readAll 131 = .ok (.sipush 600, 3) := by decide +kernel
theorem dX6_readAll_134 : decode cX6_readAll 134 = .ok (.if_icmp .gt 10, 3) := by decide +kernel
theorem dX6_readAll_137 : decode cX6_readAll 137 = .ok (.aload_n 0, 1) := by decide +kernel
theorem dX6_readAll_138 : decode cX6_readAll 138 = .ok (.getfield 29, 3) := by decide +kernel
theorem dX6_readAll_141 : decode cX6_readAll 141 = .ok (.ifCond .eq 7, 3) := by decide +kernel
theorem dX6_readAll_144 : decode cX6_readAll 144 = .ok (.iconst 1, 1) := by decide +kernel
theorem dX6_readAll_145 : decode cX6_readAll 145 = .ok (.goto 4, 3) := by decide +kernel
theorem dX6_readAll_148 : decode cX6_readAll 148 = .ok (.iconst 0, 1) := by decide +kernel
theorem dX6_readAll_149 : decode cX6_readAll 149 = .ok (.ireturn, 1) := by decide +kernel
theorem dX6_readToken_0 : decode cX6_readToken 0 = .ok (.aload_n 1, 1) := by decide +kernel
theorem dX6_readToken_1 : decode cX6_readToken 1 = .ok (.aload_n 0, 1) := by decide +kernel
theorem dX6_readToken_2 : decode cX6_readToken 2 = .ok (.getfield 46, 3) := by decide +kernel
theorem dX6_readToken_5 : decode cX6_readToken 5 = .ok (.invokevirtual 49, 3) := by decide +kernel
theorem dX6_readToken_8 : decode cX6_readToken 8 = .ok (.istore_n 2, 1) := by decide +kernel
theorem dX6_readToken_9 : decode cX6_readToken 9 = .ok (.aload_n 0, 1) := by decide +kernel
theorem dX6_readToken_10 : decode cX6_readToken 10 = .ok (.iload_n 2, 1) := by decide +kernel
theorem dX6_readToken_11 : decode cX6_readToken 11 = .ok (.bipush 59, 2) := by decide +kernel
theorem dX6_readToken_13 : decode cX6_readToken 13 = .ok (.if_icmp .ne 7, 3) := by decide +kernel
theorem dX6_readToken_16 : decode cX6_readToken 16 = .ok (.iconst 3, 1) := by decide +kernel
theorem dX6_readToken_17 : decode cX6_readToken 17 = .ok (.goto 4, 3) := by decide +kernel
theorem dX6_readToken_20 : decode cX6_readToken 20 = .ok (.iconst 0, 1) := by decide +kernel
theorem dX6_readToken_21 : decode cX6_readToken 21 = .ok (.putfield 64, 3) := by decide +kernel
theorem dX6_readToken_24 : decode cX6_readToken 24 = .ok (.aload_n 0, 1) := by decide +kernel
theorem dX6_readToken_25 : decode cX6_readToken 25 = .ok (.lconst 0, 1) := by decide +kernel
theorem dX6_readToken_26 : decode cX6_readToken 26 = .ok (.putfield 67, 3) := by decide +kernel
theorem dX6_readToken_29 : decode cX6_readToken 29 = .ok (.iload_n 2, 1) := by decide +kernel
theorem dX6_readToken_30 : decode cX6_readToken 30 = .ok (.invokestatic 71, 3) := by decide +kernel
theorem dX6_readToken_33 : decode cX6_readToken 33 = .ok (.ifCond .ne 11, 3) := by decide +kernel
theorem dX6_readToken_36 : decode cX6_readToken 36 = .ok (.iload_n 2, 1) := by decide +kernel
theorem dX6_readToken_37 : decode cX6_readToken 37 = .ok (.invokestatic 75, 3) := by decide +kernel
theorem dX6_readToken_40 : decode cX6_readToken 40 = .ok (.ifCond .ne 4, 3) := by decide +kernel
theorem dX6_readToken_43 : decode cX6_readToken 43 = .ok (.return_, 1) := by decide +kernel
theorem dX6_readToken_44 : decode cX6_readToken 44 = .ok (.iconst 1, 1) := by decide +kernel
theorem dX6_readToken_45 : decode cX6_readToken 45 = .ok (.istore_n 3, 1) := by decide +kernel
theorem dX6_readToken_46 : decode cX6_readToken 46 = .ok (.iconst 1, 1) := by decide +kernel
theorem dX6_readToken_47 : decode cX6_readToken 47 = .ok (.istore 4, 2) := by decide +kernel
theorem dX6_readToken_49 : decode cX6_readToken 49 = .ok (.iconst 0, 1) := by decide +kernel
theorem dX6_readToken_50 : decode cX6_readToken 50 = .ok (.istore 5, 2) := by decide +kernel
theorem dX6_readToken_52 : decode cX6_readToken 52 = .ok (.aload_n 0, 1) := by decide +kernel
theorem dX6_readToken_53 : decode cX6_readToken 53 = .ok (.getfield 46, 3) := by decide +kernel
theorem dX6_readToken_56 : decode cX6_readToken 56 = .ok (.istore 6, 2) := by decide +kernel
theorem dX6_readToken_58 : decode cX6_readToken 58 = .ok (.iload 6, 2) := by decide +kernel
theorem dX6_readToken_60 : decode cX6_readToken 60 = .ok (.sipush 640, 3) := by decide +kernel
theorem dX6_readToken_63 : decode cX6_readToken 63 = .ok (.if_icmp .ge 107, 3) := by decide +kernel
theorem dX6_readToken_66 : decode cX6_readToken 66 = .ok (.aload_n 1, 1) := by decide +kernel
theorem dX6_readToken_67 : decode cX6_readToken 67 = .ok (.iload 6, 2) := by decide +kernel
theorem dX6_readToken_69 : decode cX6_readToken 69 = .ok (.invokevirtual 49, 3) := by decide +kernel
theorem dX6_readToken_72 : decode cX6_readToken 72 = .ok (.invokestatic 71, 3) := by decide +kernel
theorem dX6_readToken_75 : decode cX6_readToken 75 = .ok (.ifCond .ne 15, 3) := by decide +kernel
theorem dX6_readToken_78 : decode cX6_readToken 78 = .ok (.aload_n 1, 1) := by decide +kernel
theorem dX6_readToken_79 : decode cX6_readToken 79 = .ok (.iload 6, 2) := by decide +kernel
theorem dX6_readToken_81 : decode cX6_readToken 81 = .ok (.invokevirtual 49, 3) := by decide +kernel
theorem dX6_readToken_84 : decode cX6_readToken 84 = .ok (.invokestatic 75, 3) := by decide +kernel
theorem dX6_readToken_87 : decode cX6_readToken 87 = .ok (.ifCond .eq 83, 3) := by decide +kernel
theorem dX6_readToken_90 : decode cX6_readToken 90 = .ok (.aload_n 1, 1) := by decide +kernel
theorem dX6_readToken_91 : decode cX6_readToken 91 = .ok (.iload 6, 2) := by decide +kernel
theorem dX6_readToken_93 : decode cX6_readToken 93 = .ok (.invokevirtual 49, 3) := by decide +kernel
theorem dX6_readToken_96 : decode cX6_readToken 96 = .ok (.istore_n 2, 1) := by decide +kernel
theorem dX6_readToken_97 : decode cX6_readToken 97 = .ok (.iload_n 3, 1) := by decide +kernel
theorem dX6_readToken_98 : decode cX6_readToken 98 = .ok (.iload_n 2, 1) := by decide +kernel
theorem dX6_readToken_99 : decode cX6_readToken 99 = .ok (.invokestatic 71, 3) := by decide +kernel
theorem dX6_readToken_102 : decode cX6_readToken 102 = .ok (.iand, 1) := by decide +kernel
theorem dX6_readToken_103 : decode cX6_readToken 103 = .ok (.istore_n 3, 1) := by decide +kernel
theorem dX6_readToken_104 : decode cX6_readToken 104 = .ok (.iload 4, 2) := by decide +kernel
theorem dX6_readToken_106 : decode cX6_readToken 106 = .ok (.iload_n 2, 1) := by decide +kernel
theorem dX6_readToken_107 : decode cX6_readToken 107 = .ok (.invokestatic 75, 3) := by decide +kernel
theorem dX6_readToken_110 : decode cX6_readToken 110 = .ok (.iand, 1) := by decide +kernel
theorem dX6_readToken_111 : decode cX6_readToken 111 = .ok (.istore 4, 2) := by decide +kernel
theorem dX6_readToken_113 : decode cX6_readToken 113 = .ok (.iinc 5 1, 3) := by decide +kernel
theorem dX6_readToken_116 : decode cX6_readToken 116 = .ok (.iload 5, 2) := by decide +kernel
theorem dX6_readToken_118 : decode cX6_readToken 118 = .ok (.bipush 7, 2) := by decide +kernel
theorem dX6_readToken_120 : decode cX6_readToken 120 = .ok (.if_icmp .gt 44, 3) := by decide +kernel
theorem dX6_readToken_123 : decode cX6_readToken 123 = .ok (.aload_n 0, 1) := by decide +kernel
theorem dX6_readToken_124 : decode cX6_readToken 124 = .ok (.iload_n 3, 1) := by decide +kernel
theorem dX6_readToken_125 : decode cX6_readToken 125 = .ok (.ifCond .eq 22, 3) := by decide +kernel
theorem dX6_readToken_128 : decode cX6_readToken 128 = .ok (.aload_n 0, 1) := by decide +kernel
theorem dX6_readToken_129 : decode cX6_readToken 129 = .ok (.getfield 67, 3) := by decide +kernel
theorem dX6_readToken_132 : decode cX6_readToken 132 = .ok (.ldc2_w 78, 3) := by decide +kernel
theorem dX6_readToken_135 : decode cX6_readToken 135 = .ok (.lmul, 1) := by decide +kernel
theorem dX6_readToken_136 : decode cX6_readToken 136 = .ok (.iload_n 2, 1) := by decide +kernel
theorem dX6_readToken_137 : decode cX6_readToken 137 = .ok (.bipush 97, 2) := by decide +kernel
theorem dX6_readToken_139 : decode cX6_readToken 139 = .ok (.isub, 1) := by decide +kernel
theorem dX6_readToken_140 : decode cX6_readToken 140 = .ok (.iconst 1, 1) := by decide +kernel
theorem dX6_readToken_141 : decode cX6_readToken 141 = .ok (.iadd, 1) := by decide +kernel
theorem dX6_readToken_142 : decode cX6_readToken 142 = .ok (.i2l, 1) := by decide +kernel
theorem dX6_readToken_143 : decode cX6_readToken 143 = .ok (.ladd, 1) := by decide +kernel
theorem dX6_readToken_144 : decode cX6_readToken 144 = .ok (.goto 17, 3) := by decide +kernel
theorem dX6_readToken_147 : decode cX6_readToken 147 = .ok (.aload_n 0, 1) := by decide +kernel
theorem dX6_readToken_148 : decode cX6_readToken 148 = .ok (.getfield 67, 3) := by decide +kernel
theorem dX6_readToken_151 : decode cX6_readToken 151 = .ok (.ldc2_w 80, 3) := by decide +kernel
theorem dX6_readToken_154 : decode cX6_readToken 154 = .ok (.lmul, 1) := by decide +kernel
theorem dX6_readToken_155 : decode cX6_readToken 155 = .ok (.iload_n 2, 1) := by decide +kernel
theorem dX6_readToken_156 : decode cX6_readToken 156 = .ok (.bipush 48, 2) := by decide +kernel
theorem dX6_readToken_158 : decode cX6_readToken 158 = .ok (.isub, 1) := by decide +kernel
theorem dX6_readToken_159 : decode cX6_readToken 159 = .ok (.i2l, 1) := by decide +kernel
theorem dX6_readToken_160 : decode cX6_readToken 160 = .ok (.ladd, 1) := by decide +kernel
theorem dX6_readToken_161 : decode cX6_readToken 161 = .ok (.putfield 67, 3) := by decide +kernel
theorem dX6_readToken_164 : decode cX6_readToken 164 = .ok (.iinc 6 1, 3) := by decide +kernel
theorem dX6_readToken_167 : decode cX6_readToken 167 = .ok (.goto (-109), 3) := by decide +kernel
theorem dX6_readToken_170 : decode cX6_readToken 170 = .ok (.aload_n 0, 1) := by decide +kernel
theorem dX6_readToken_171 : decode cX6_readToken 171 = .ok (.aload_n 0, 1) := by decide +kernel
theorem dX6_readToken_172 : decode cX6_readToken 172 = .ok (.getfield 46, 3) := by decide +kernel
theorem dX6_readToken_175 : decode cX6_readToken 175 = .ok (.iload 5, 2) := by decide +kernel
theorem dX6_readToken_177 : decode cX6_readToken 177 = .ok (.iadd, 1) := by decide +kernel
theorem dX6_readToken_178 : decode cX6_readToken 178 = .ok (.putfield 53, 3) := by decide +kernel
theorem dX6_readToken_181 : decode cX6_readToken 181 = .ok (.iload_n 3, 1) := by decide +kernel
theorem dX6_readToken_182 : decode cX6_readToken 182 = .ok (.ifCond .eq 18, 3) := by decide +kernel
theorem dX6_readToken_185 : decode cX6_readToken 185 = .ok (.iload 5, 2) := by decide +kernel
theorem dX6_readToken_187 : decode cX6_readToken 187 = .ok (.bipush 7, 2) := by decide +kernel
theorem dX6_readToken_189 : decode cX6_readToken 189 = .ok (.if_icmp .gt 11, 3) := by decide +kernel
theorem dX6_readToken_192 : decode cX6_readToken 192 = .ok (.aload_n 0, 1) := by decide +kernel
theorem dX6_readToken_193 : decode cX6_readToken 193 = .ok (.iconst 1, 1) := by decide +kernel
theorem dX6_readToken_194 : decode cX6_readToken 194 = .ok (.putfield 64, 3) := by decide +kernel
theorem dX6_readToken_197 : decode cX6_readToken 197 = .ok (.goto 19, 3) := by decide +kernel
theorem dX6_readToken_200 : decode cX6_readToken 200 = .ok (.iload 4, 2) := by decide +kernel
theorem dX6_readToken_202 : decode cX6_readToken 202 = .ok (.ifCond .eq 14, 3) := by decide +kernel
theorem dX6_readToken_205 : decode cX6_readToken 205 = .ok (.iload 5, 2) := by decide +kernel
theorem dX6_readToken_207 : decode cX6_readToken 207 = .ok (.iconst 2, 1) := by decide +kernel
theorem dX6_readToken_208 : decode cX6_readToken 208 = .ok (.if_icmp .gt 8, 3) := by decide +kernel
theorem dX6_readToken_211 : decode cX6_readToken 211 = .ok (.aload_n 0, 1) := by decide +kernel
theorem dX6_readToken_212 : decode cX6_readToken 212 = .ok (.iconst 2, 1) := by decide +kernel
theorem dX6_readToken_213 : decode cX6_readToken 213 = .ok (.putfield 64, 3) := by decide +kernel
theorem dX6_readToken_216 : decode cX6_readToken 216 = .ok (.return_, 1) := by decide +kernel
theorem dX6_isLetter_0 : decode cX6_isLetter 0 = .ok (.iload_n 0, 1) := by decide +kernel
theorem dX6_isLetter_1 : decode cX6_isLetter 1 = .ok (.bipush 97, 2) := by decide +kernel
theorem dX6_isLetter_3 : decode cX6_isLetter 3 = .ok (.if_icmp .lt 13, 3) := by decide +kernel
theorem dX6_isLetter_6 : decode cX6_isLetter 6 = .ok (.iload_n 0, 1) := by decide +kernel
theorem dX6_isLetter_7 : decode cX6_isLetter 7 = .ok (.bipush 122, 2) := by decide +kernel
theorem dX6_isLetter_9 : decode cX6_isLetter 9 = .ok (.if_icmp .gt 7, 3) := by decide +kernel
theorem dX6_isLetter_12 : decode cX6_isLetter 12 = .ok (.iconst 1, 1) := by decide +kernel
theorem dX6_isLetter_13 : decode cX6_isLetter 13 = .ok (.goto 4, 3) := by decide +kernel
theorem dX6_isLetter_16 : decode cX6_isLetter 16 = .ok (.iconst 0, 1) := by decide +kernel
theorem dX6_isLetter_17 : decode cX6_isLetter 17 = .ok (.ireturn, 1) := by decide +kernel
theorem dX6_isDigit_0 : decode cX6_isDigit 0 = .ok (.iload_n 0, 1) := by decide +kernel
theorem dX6_isDigit_1 : decode cX6_isDigit 1 = .ok (.bipush 48, 2) := by decide +kernel
theorem dX6_isDigit_3 : decode cX6_isDigit 3 = .ok (.if_icmp .lt 13, 3) := by decide +kernel
theorem dX6_isDigit_6 : decode cX6_isDigit 6 = .ok (.iload_n 0, 1) := by decide +kernel
theorem dX6_isDigit_7 : decode cX6_isDigit 7 = .ok (.bipush 57, 2) := by decide +kernel
theorem dX6_isDigit_9 : decode cX6_isDigit 9 = .ok (.if_icmp .gt 7, 3) := by decide +kernel
theorem dX6_isDigit_12 : decode cX6_isDigit 12 = .ok (.iconst 1, 1) := by decide +kernel
theorem dX6_isDigit_13 : decode cX6_isDigit 13 = .ok (.goto 4, 3) := by decide +kernel
theorem dX6_isDigit_16 : decode cX6_isDigit 16 = .ok (.iconst 0, 1) := by decide +kernel
theorem dX6_isDigit_17 : decode cX6_isDigit 17 = .ok (.ireturn, 1) := by decide +kernel
theorem dX6_takeToken_0 : decode cX6_takeToken 0 = .ok (.aload_n 0, 1) := by decide +kernel
theorem dX6_takeToken_1 : decode cX6_takeToken 1 = .ok (.getfield 29, 3) := by decide +kernel
theorem dX6_takeToken_4 : decode cX6_takeToken 4 = .ok (.tableswitch 80 0 5 #[40, 45, 50, 80, 70, 75], 40) := by decide +kernel
theorem dX6_takeToken_44 : decode cX6_takeToken 44 = .ok (.aload_n 0, 1) := by decide +kernel
theorem dX6_takeToken_45 : decode cX6_takeToken 45 = .ok (.invokevirtual 82, 3) := by decide +kernel
theorem dX6_takeToken_48 : decode cX6_takeToken 48 = .ok (.ireturn, 1) := by decide +kernel
theorem dX6_takeToken_49 : decode cX6_takeToken 49 = .ok (.aload_n 0, 1) := by decide +kernel
theorem dX6_takeToken_50 : decode cX6_takeToken 50 = .ok (.invokevirtual 85, 3) := by decide +kernel
theorem dX6_takeToken_53 : decode cX6_takeToken 53 = .ok (.ireturn, 1) := by decide +kernel
theorem dX6_takeToken_54 : decode cX6_takeToken 54 = .ok (.aload_n 0, 1) := by decide +kernel
theorem dX6_takeToken_55 : decode cX6_takeToken 55 = .ok (.getfield 64, 3) := by decide +kernel
theorem dX6_takeToken_58 : decode cX6_takeToken 58 = .ok (.iconst 2, 1) := by decide +kernel
theorem dX6_takeToken_59 : decode cX6_takeToken 59 = .ok (.if_icmp .ne 10, 3) := by decide +kernel
theorem dX6_takeToken_62 : decode cX6_takeToken 62 = .ok (.aload_n 0, 1) := by decide +kernel
theorem dX6_takeToken_63 : decode cX6_takeToken 63 = .ok (.invokevirtual 88, 3) := by decide +kernel
theorem dX6_takeToken_66 : decode cX6_takeToken 66 = .ok (.goto 7, 3) := by decide +kernel
theorem dX6_takeToken_69 : decode cX6_takeToken 69 = .ok (.aload_n 0, 1) := by decide +kernel
theorem dX6_takeToken_70 : decode cX6_takeToken 70 = .ok (.invokevirtual 91, 3) := by decide +kernel
theorem dX6_takeToken_73 : decode cX6_takeToken 73 = .ok (.ireturn, 1) := by decide +kernel
theorem dX6_takeToken_74 : decode cX6_takeToken 74 = .ok (.aload_n 0, 1) := by decide +kernel
theorem dX6_takeToken_75 : decode cX6_takeToken 75 = .ok (.invokevirtual 94, 3) := by decide +kernel
theorem dX6_takeToken_78 : decode cX6_takeToken 78 = .ok (.ireturn, 1) := by decide +kernel
theorem dX6_takeToken_79 : decode cX6_takeToken 79 = .ok (.aload_n 0, 1) := by decide +kernel
theorem dX6_takeToken_80 : decode cX6_takeToken 80 = .ok (.invokevirtual 97, 3) := by decide +kernel
theorem dX6_takeToken_83 : decode cX6_takeToken 83 = .ok (.ireturn, 1) := by decide +kernel
theorem dX6_takeToken_84 : decode cX6_takeToken 84 = .ok (.aload_n 0, 1) := by decide +kernel
theorem dX6_takeToken_85 : decode cX6_takeToken 85 = .ok (.invokevirtual 91, 3) := by decide +kernel
theorem dX6_takeToken_88 : decode cX6_takeToken 88 = .ok (.ireturn, 1) := by decide +kernel
theorem dX6_beginRow_0 : decode cX6_beginRow 0 = .ok (.aload_n 0, 1) := by decide +kernel
theorem dX6_beginRow_1 : decode cX6_beginRow 1 = .ok (.getfield 64, 3) := by decide +kernel
theorem dX6_beginRow_4 : decode cX6_beginRow 4 = .ok (.iconst 1, 1) := by decide +kernel
theorem dX6_beginRow_5 : decode cX6_beginRow 5 = .ok (.if_icmp .ne 25, 3) := by decide +kernel
theorem dX6_beginRow_8 : decode cX6_beginRow 8 = .ok (.aload_n 0, 1) := by decide +kernel
theorem dX6_beginRow_9 : decode cX6_beginRow 9 = .ok (.getfield 67, 3) := by decide +kernel
theorem dX6_beginRow_12 : decode cX6_beginRow 12 = .ok (.ldc2_w 100, 3) := by decide +kernel
theorem dX6_beginRow_15 : decode cX6_beginRow 15 = .ok (.lcmp, 1) := by decide +kernel
theorem dX6_beginRow_16 : decode cX6_beginRow 16 = .ok (.ifCond .eq 16, 3) := by decide +kernel
theorem dX6_beginRow_19 : decode cX6_beginRow 19 = .ok (.aload_n 0, 1) := by decide +kernel
theorem dX6_beginRow_20 : decode cX6_beginRow 20 = .ok (.getfield 67, 3) := by decide +kernel
theorem dX6_beginRow_23 : decode cX6_beginRow 23 = .ok (.ldc2_w 102, 3) := by decide +kernel
theorem dX6_beginRow_26 : decode cX6_beginRow 26 = .ok (.lcmp, 1) := by decide +kernel
theorem dX6_beginRow_27 : decode cX6_beginRow 27 = .ok (.ifCond .eq 5, 3) := by decide +kernel
theorem dX6_beginRow_30 : decode cX6_beginRow 30 = .ok (.iconst 1, 1) := by decide +kernel
theorem dX6_beginRow_31 : decode cX6_beginRow 31 = .ok (.ireturn, 1) := by decide +kernel
theorem dX6_beginRow_32 : decode cX6_beginRow 32 = .ok (.aload_n 0, 1) := by decide +kernel
theorem dX6_beginRow_33 : decode cX6_beginRow 33 = .ok (.getfield 67, 3) := by decide +kernel
theorem dX6_beginRow_36 : decode cX6_beginRow 36 = .ok (.ldc2_w 100, 3) := by decide +kernel
theorem dX6_beginRow_39 : decode cX6_beginRow 39 = .ok (.lcmp, 1) := by decide +kernel
theorem dX6_beginRow_40 : decode cX6_beginRow 40 = .ok (.ifCond .ne 7, 3) := by decide +kernel
theorem dX6_beginRow_43 : decode cX6_beginRow 43 = .ok (.iconst 1, 1) := by decide +kernel
theorem dX6_beginRow_44 : decode cX6_beginRow 44 = .ok (.goto 4, 3) := by decide +kernel
theorem dX6_beginRow_47 : decode cX6_beginRow 47 = .ok (.iconst 0, 1) := by decide +kernel
theorem dX6_beginRow_48 : decode cX6_beginRow 48 = .ok (.istore_n 1, 1) := by decide +kernel
theorem dX6_beginRow_49 : decode cX6_beginRow 49 = .ok (.iload_n 1, 1) := by decide +kernel
theorem dX6_beginRow_50 : decode cX6_beginRow 50 = .ok (.ifCond .eq 18, 3) := by decide +kernel
theorem dX6_beginRow_53 : decode cX6_beginRow 53 = .ok (.aload_n 0, 1) := by decide +kernel
theorem dX6_beginRow_54 : decode cX6_beginRow 54 = .ok (.getfield 14, 3) := by decide +kernel
theorem dX6_beginRow_57 : decode cX6_beginRow 57 = .ok (.getfield 104, 3) := by decide +kernel
theorem dX6_beginRow_60 : decode cX6_beginRow 60 = .ok (.bipush 12, 2) := by decide +kernel
theorem dX6_beginRow_62 : decode cX6_beginRow 62 = .ok (.if_icmp .lt 20, 3) := by decide +kernel
theorem dX6_beginRow_65 : decode cX6_beginRow 65 = .ok (.goto 15, 3) := by decide +kernel
theorem dX6_beginRow_68 : decode cX6_beginRow 68 = .ok (.aload_n 0, 1) := by decide +kernel
theorem dX6_beginRow_69 : decode cX6_beginRow 69 = .ok (.getfield 14, 3) := by decide +kernel
theorem dX6_beginRow_72 : decode cX6_beginRow 72 = .ok (.getfield 107, 3) := by decide +kernel
theorem dX6_beginRow_75 : decode cX6_beginRow 75 = .ok (.bipush 20, 2) := by decide +kernel
theorem dX6_beginRow_77 : decode cX6_beginRow 77 = .ok (.if_icmp .lt 5, 3) := by decide +kernel
theorem dX6_beginRow_80 : decode cX6_beginRow 80 = .ok (.iconst 4, 1) := by decide +kernel
theorem dX6_beginRow_81 : decode cX6_beginRow 81 = .ok (.ireturn, 1) := by decide +kernel
theorem dX6_beginRow_82 : decode cX6_beginRow 82 = .ok (.aload_n 0, 1) := by decide +kernel
theorem dX6_beginRow_83 : decode cX6_beginRow 83 = .ok (.iload_n 1, 1) := by decide +kernel
theorem dX6_beginRow_84 : decode cX6_beginRow 84 = .ok (.ifCond .eq 7, 3) := by decide +kernel
theorem dX6_beginRow_87 : decode cX6_beginRow 87 = .ok (.iconst 1, 1) := by decide +kernel
theorem dX6_beginRow_88 : decode cX6_beginRow 88 = .ok (.goto 4, 3) := by decide +kernel
theorem dX6_beginRow_91 : decode cX6_beginRow 91 = .ok (.iconst 4, 1) := by decide +kernel
theorem dX6_beginRow_92 : decode cX6_beginRow 92 = .ok (.putfield 29, 3) := by decide +kernel
theorem dX6_beginRow_95 : decode cX6_beginRow 95 = .ok (.iconst 0, 1) := by decide +kernel
theorem dX6_beginRow_96 : decode cX6_beginRow 96 = .ok (.ireturn, 1) := by decide +kernel
theorem dX6_isName_0 : decode cX6_isName 0 = .ok (.aload_n 0, 1) := by decide +kernel
theorem dX6_isName_1 : decode cX6_isName 1 = .ok (.getfield 64, 3) := by decide +kernel
theorem dX6_isName_4 : decode cX6_isName 4 = .ok (.iconst 1, 1) := by decide +kernel
theorem dX6_isName_5 : decode cX6_isName 5 = .ok (.if_icmp .ne 29, 3) := by decide +kernel
theorem dX6_isName_8 : decode cX6_isName 8 = .ok (.aload_n 0, 1) := by decide +kernel
theorem dX6_isName_9 : decode cX6_isName 9 = .ok (.getfield 67, 3) := by decide +kernel
theorem dX6_isName_12 : decode cX6_isName 12 = .ok (.ldc2_w 100, 3) := by decide +kernel
theorem dX6_isName_15 : decode cX6_isName 15 = .ok (.lcmp, 1) := by decide +kernel
theorem dX6_isName_16 : decode cX6_isName 16 = .ok (.ifCond .eq 18, 3) := by decide +kernel
theorem dX6_isName_19 : decode cX6_isName 19 = .ok (.aload_n 0, 1) := by decide +kernel
theorem dX6_isName_20 : decode cX6_isName 20 = .ok (.getfield 67, 3) := by decide +kernel
theorem dX6_isName_23 : decode cX6_isName 23 = .ok (.ldc2_w 102, 3) := by decide +kernel
theorem dX6_isName_26 : decode cX6_isName 26 = .ok (.lcmp, 1) := by decide +kernel
theorem dX6_isName_27 : decode cX6_isName 27 = .ok (.ifCond .eq 7, 3) := by decide +kernel
theorem dX6_isName_30 : decode cX6_isName 30 = .ok (.iconst 1, 1) := by decide +kernel
theorem dX6_isName_31 : decode cX6_isName 31 = .ok (.goto 4, 3) := by decide +kernel
theorem dX6_isName_34 : decode cX6_isName 34 = .ok (.iconst 0, 1) := by decide +kernel
theorem dX6_isName_35 : decode cX6_isName 35 = .ok (.ireturn, 1) := by decide +kernel
theorem dX6_pointNamed_0 : decode cX6_pointNamed 0 = .ok (.iconst 0, 1) := by decide +kernel
theorem dX6_pointNamed_1 : decode cX6_pointNamed 1 = .ok (.istore_n 3, 1) := by decide +kernel
theorem dX6_pointNamed_2 : decode cX6_pointNamed 2 = .ok (.iload_n 3, 1) := by decide +kernel
theorem dX6_pointNamed_3 : decode cX6_pointNamed 3 = .ok (.aload_n 0, 1) := by decide +kernel
theorem dX6_pointNamed_4 : decode cX6_pointNamed 4 = .ok (.getfield 18, 3) := by decide +kernel
theorem dX6_pointNamed_7 : decode cX6_pointNamed 7 = .ok (.arraylength, 1) := by decide +kernel
theorem dX6_pointNamed_8 : decode cX6_pointNamed 8 = .ok (.if_icmp .ge 33, 3) := by decide +kernel
theorem dX6_pointNamed_11 : decode cX6_pointNamed 11 = .ok (.iload_n 3, 1) := by decide +kernel
theorem dX6_pointNamed_12 : decode cX6_pointNamed 12 = .ok (.aload_n 0, 1) := by decide +kernel
theorem dX6_pointNamed_13 : decode cX6_pointNamed 13 = .ok (.getfield 14, 3) := by decide +kernel
theorem dX6_pointNamed_16 : decode cX6_pointNamed 16 = .ok (.getfield 104, 3) := by decide +kernel
theorem dX6_pointNamed_19 : decode cX6_pointNamed 19 = .ok (.if_icmp .ge 22, 3) := by decide +kernel
theorem dX6_pointNamed_22 : decode cX6_pointNamed 22 = .ok (.aload_n 0, 1) := by decide +kernel
theorem dX6_pointNamed_23 : decode cX6_pointNamed 23 = .ok (.getfield 18, 3) := by decide +kernel
theorem dX6_pointNamed_26 : decode cX6_pointNamed 26 = .ok (.iload_n 3, 1) := by decide +kernel
theorem dX6_pointNamed_27 : decode cX6_pointNamed 27 = .ok (.laload, 1) := by decide +kernel
theorem dX6_pointNamed_28 : decode cX6_pointNamed 28 = .ok (.lload_n 1, 1) := by decide +kernel
theorem dX6_pointNamed_29 : decode cX6_pointNamed 29 = .ok (.lcmp, 1) := by decide +kernel
theorem dX6_pointNamed_30 : decode cX6_pointNamed 30 = .ok (.ifCond .ne 5, 3) := by decide +kernel
theorem dX6_pointNamed_33 : decode cX6_pointNamed 33 = .ok (.iload_n 3, 1) := by decide +kernel
theorem dX6_pointNamed_34 : decode cX6_pointNamed 34 = .ok (.ireturn, 1) := by decide +kernel
theorem dX6_pointNamed_35 : decode cX6_pointNamed 35 = .ok (.iinc 3 1, 3) := by decide +kernel
theorem dX6_pointNamed_38 : decode cX6_pointNamed 38 = .ok (.goto (-36), 3) := by decide +kernel
theorem dX6_pointNamed_41 : decode cX6_pointNamed 41 = .ok (.iconst (-1), 1) := by decide +kernel
theorem dX6_pointNamed_42 : decode cX6_pointNamed 42 = .ok (.ireturn, 1) := by decide +kernel
theorem dX6_takeName_0 : decode cX6_takeName 0 = .ok (.aload_n 0, 1) := by decide +kernel
theorem dX6_takeName_1 : decode cX6_takeName 1 = .ok (.invokevirtual 110, 3) := by decide +kernel
theorem dX6_takeName_4 : decode cX6_takeName 4 = .ok (.ifCond .ne 5, 3) := by decide +kernel
theorem dX6_takeName_7 : decode cX6_takeName 7 = .ok (.iconst 1, 1) := by decide +kernel
theorem dX6_takeName_8 : decode cX6_takeName 8 = .ok (.ireturn, 1) := by decide +kernel
theorem dX6_takeName_9 : decode cX6_takeName 9 = .ok (.aload_n 0, 1) := by decide +kernel
theorem dX6_takeName_10 : decode cX6_takeName 10 = .ok (.getfield 14, 3) := by decide +kernel
theorem dX6_takeName_13 : decode cX6_takeName 13 = .ok (.getfield 104, 3) := by decide +kernel
theorem dX6_takeName_16 : decode cX6_takeName 16 = .ok (.istore_n 1, 1) := by decide +kernel
theorem dX6_takeName_17 : decode cX6_takeName 17 = .ok (.aload_n 0, 1) := by decide +kernel
theorem dX6_takeName_18 : decode cX6_takeName 18 = .ok (.aload_n 0, 1) := by decide +kernel
theorem dX6_takeName_19 : decode cX6_takeName 19 = .ok (.getfield 67, 3) := by decide +kernel
theorem dX6_takeName_22 : decode cX6_takeName 22 = .ok (.invokevirtual 114, 3) := by decide +kernel
theorem dX6_takeName_25 : decode cX6_takeName 25 = .ok (.iconst (-1), 1) := by decide +kernel
theorem dX6_takeName_26 : decode cX6_takeName 26 = .ok (.if_icmp .eq 5, 3) := by decide +kernel
theorem dX6_takeName_29 : decode cX6_takeName 29 = .ok (.iconst 3, 1) := by decide +kernel
theorem dX6_takeName_30 : decode cX6_takeName 30 = .ok (.ireturn, 1) := by decide +kernel
theorem dX6_takeName_31 : decode cX6_takeName 31 = .ok (.iload_n 1, 1) := by decide +kernel
theorem dX6_takeName_32 : decode cX6_takeName 32 = .ok (.ifCond .lt 12, 3) := by decide +kernel
theorem dX6_takeName_35 : decode cX6_takeName 35 = .ok (.iload_n 1, 1) := by decide +kernel
theorem dX6_takeName_36 : decode cX6_takeName 36 = .ok (.aload_n 0, 1) := by decide +kernel
theorem dX6_takeName_37 : decode cX6_takeName 37 = .ok (.getfield 18, 3) := by decide +kernel
theorem dX6_takeName_40 : decode cX6_takeName 40 = .ok (.arraylength, 1) := by decide +kernel
theorem dX6_takeName_41 : decode cX6_takeName 41 = .ok (.if_icmp .lt 5, 3) := by decide +kernel
theorem dX6_takeName_44 : decode cX6_takeName 44 = .ok (.iconst 4, 1) := by decide +kernel
theorem dX6_takeName_45 : decode cX6_takeName 45 = .ok (.ireturn, 1) := by decide +kernel
theorem dX6_takeName_46 : decode cX6_takeName 46 = .ok (.aload_n 0, 1) := by decide +kernel
theorem dX6_takeName_47 : decode cX6_takeName 47 = .ok (.getfield 18, 3) := by decide +kernel
theorem dX6_takeName_50 : decode cX6_takeName 50 = .ok (.iload_n 1, 1) := by decide +kernel
theorem dX6_takeName_51 : decode cX6_takeName 51 = .ok (.aload_n 0, 1) := by decide +kernel
theorem dX6_takeName_52 : decode cX6_takeName 52 = .ok (.getfield 67, 3) := by decide +kernel
theorem dX6_takeName_55 : decode cX6_takeName 55 = .ok (.lastore, 1) := by decide +kernel
theorem dX6_takeName_56 : decode cX6_takeName 56 = .ok (.aload_n 0, 1) := by decide +kernel
theorem dX6_takeName_57 : decode cX6_takeName 57 = .ok (.getfield 14, 3) := by decide +kernel
theorem dX6_takeName_60 : decode cX6_takeName 60 = .ok (.invokevirtual 118, 3) := by decide +kernel
theorem dX6_takeName_63 : decode cX6_takeName 63 = .ok (.aload_n 0, 1) := by decide +kernel
theorem dX6_takeName_64 : decode cX6_takeName 64 = .ok (.iconst 2, 1) := by decide +kernel
theorem dX6_takeName_65 : decode cX6_takeName 65 = .ok (.putfield 29, 3) := by decide +kernel
theorem dX6_takeName_68 : decode cX6_takeName 68 = .ok (.iconst 0, 1) := by decide +kernel
theorem dX6_takeName_69 : decode cX6_takeName 69 = .ok (.ireturn, 1) := by decide +kernel
theorem dX6_takeWeight_0 : decode cX6_takeWeight 0 = .ok (.aload_n 0, 1) := by decide +kernel
theorem dX6_takeWeight_1 : decode cX6_takeWeight 1 = .ok (.getfield 67, 3) := by decide +kernel
theorem dX6_takeWeight_4 : decode cX6_takeWeight 4 = .ok (.lconst 1, 1) := by decide +kernel
theorem dX6_takeWeight_5 : decode cX6_takeWeight 5 = .ok (.lcmp, 1) := by decide +kernel
theorem dX6_takeWeight_6 : decode cX6_takeWeight 6 = .ok (.ifCond .lt 14, 3) := by decide +kernel
theorem dX6_takeWeight_9 : decode cX6_takeWeight 9 = .ok (.aload_n 0, 1) := by decide +kernel
theorem dX6_takeWeight_10 : decode cX6_takeWeight 10 = .ok (.getfield 67, 3) := by decide +kernel
theorem dX6_takeWeight_13 : decode cX6_takeWeight 13 = .ok (.ldc2_w 121, 3) := by decide +kernel
theorem dX6_takeWeight_16 : decode cX6_takeWeight 16 = .ok (.lcmp, 1) := by decide +kernel
theorem dX6_takeWeight_17 : decode cX6_takeWeight 17 = .ok (.ifCond .le 5, 3) := by decide +kernel
theorem dX6_takeWeight_20 : decode cX6_takeWeight 20 = .ok (.iconst 2, 1) := by decide +kernel
theorem dX6_takeWeight_21 : decode cX6_takeWeight 21 = .ok (.ireturn, 1) := by decide +kernel
theorem dX6_takeWeight_22 : decode cX6_takeWeight 22 = .ok (.aload_n 0, 1) := by decide +kernel
theorem dX6_takeWeight_23 : decode cX6_takeWeight 23 = .ok (.getfield 14, 3) := by decide +kernel
theorem dX6_takeWeight_26 : decode cX6_takeWeight 26 = .ok (.aload_n 0, 1) := by decide +kernel
theorem dX6_takeWeight_27 : decode cX6_takeWeight 27 = .ok (.getfield 14, 3) := by decide +kernel
theorem dX6_takeWeight_30 : decode cX6_takeWeight 30 = .ok (.getfield 104, 3) := by decide +kernel
theorem dX6_takeWeight_33 : decode cX6_takeWeight 33 = .ok (.iconst 1, 1) := by decide +kernel
theorem dX6_takeWeight_34 : decode cX6_takeWeight 34 = .ok (.isub, 1) := by decide +kernel
theorem dX6_takeWeight_35 : decode cX6_takeWeight 35 = .ok (.aload_n 0, 1) := by decide +kernel
theorem dX6_takeWeight_36 : decode cX6_takeWeight 36 = .ok (.getfield 67, 3) := by decide +kernel
theorem dX6_takeWeight_39 : decode cX6_takeWeight 39 = .ok (.l2i, 1) := by decide +kernel
theorem dX6_takeWeight_40 : decode cX6_takeWeight 40 = .ok (.invokevirtual 123, 3) := by decide +kernel
theorem dX6_takeWeight_43 : decode cX6_takeWeight 43 = .ok (.pop, 1) := by decide +kernel
theorem dX6_takeWeight_44 : decode cX6_takeWeight 44 = .ok (.aload_n 0, 1) := by decide +kernel
theorem dX6_takeWeight_45 : decode cX6_takeWeight 45 = .ok (.iconst 3, 1) := by decide +kernel
theorem dX6_takeWeight_46 : decode cX6_takeWeight 46 = .ok (.putfield 29, 3) := by decide +kernel
theorem dX6_takeWeight_49 : decode cX6_takeWeight 49 = .ok (.iconst 0, 1) := by decide +kernel
theorem dX6_takeWeight_50 : decode cX6_takeWeight 50 = .ok (.ireturn, 1) := by decide +kernel
theorem dX6_takeSign_0 : decode cX6_takeSign 0 = .ok (.aload_n 0, 1) := by decide +kernel
theorem dX6_takeSign_1 : decode cX6_takeSign 1 = .ok (.getfield 64, 3) := by decide +kernel
theorem dX6_takeSign_4 : decode cX6_takeSign 4 = .ok (.iconst 3, 1) := by decide +kernel
theorem dX6_takeSign_5 : decode cX6_takeSign 5 = .ok (.if_icmp .eq 5, 3) := by decide +kernel
theorem dX6_takeSign_8 : decode cX6_takeSign 8 = .ok (.iconst 1, 1) := by decide +kernel
theorem dX6_takeSign_9 : decode cX6_takeSign 9 = .ok (.ireturn, 1) := by decide +kernel
theorem dX6_takeSign_10 : decode cX6_takeSign 10 = .ok (.aload_n 0, 1) := by decide +kernel
theorem dX6_takeSign_11 : decode cX6_takeSign 11 = .ok (.dup, 1) := by decide +kernel
theorem dX6_takeSign_12 : decode cX6_takeSign 12 = .ok (.getfield 25, 3) := by decide +kernel
theorem dX6_takeSign_15 : decode cX6_takeSign 15 = .ok (.iconst 1, 1) := by decide +kernel
theorem dX6_takeSign_16 : decode cX6_takeSign 16 = .ok (.iadd, 1) := by decide +kernel
theorem dX6_takeSign_17 : decode cX6_takeSign 17 = .ok (.putfield 25, 3) := by decide +kernel
theorem dX6_takeSign_20 : decode cX6_takeSign 20 = .ok (.aload_n 0, 1) := by decide +kernel
theorem dX6_takeSign_21 : decode cX6_takeSign 21 = .ok (.iconst 0, 1) := by decide +kernel
theorem dX6_takeSign_22 : decode cX6_takeSign 22 = .ok (.putfield 29, 3) := by decide +kernel
theorem dX6_takeSign_25 : decode cX6_takeSign 25 = .ok (.iconst 0, 1) := by decide +kernel
theorem dX6_takeSign_26 : decode cX6_takeSign 26 = .ok (.ireturn, 1) := by decide +kernel
theorem dX6_takeFirst_0 : decode cX6_takeFirst 0 = .ok (.aload_n 0, 1) := by decide +kernel
theorem dX6_takeFirst_1 : decode cX6_takeFirst 1 = .ok (.invokevirtual 110, 3) := by decide +kernel
theorem dX6_takeFirst_4 : decode cX6_takeFirst 4 = .ok (.ifCond .ne 5, 3) := by decide +kernel
theorem dX6_takeFirst_7 : decode cX6_takeFirst 7 = .ok (.iconst 1, 1) := by decide +kernel
theorem dX6_takeFirst_8 : decode cX6_takeFirst 8 = .ok (.ireturn, 1) := by decide +kernel
theorem dX6_takeFirst_9 : decode cX6_takeFirst 9 = .ok (.aload_n 0, 1) := by decide +kernel
theorem dX6_takeFirst_10 : decode cX6_takeFirst 10 = .ok (.aload_n 0, 1) := by decide +kernel
theorem dX6_takeFirst_11 : decode cX6_takeFirst 11 = .ok (.aload_n 0, 1) := by decide +kernel
theorem dX6_takeFirst_12 : decode cX6_takeFirst 12 = .ok (.getfield 67, 3) := by decide +kernel
theorem dX6_takeFirst_15 : decode cX6_takeFirst 15 = .ok (.invokevirtual 114, 3) := by decide +kernel
theorem dX6_takeFirst_18 : decode cX6_takeFirst 18 = .ok (.putfield 32, 3) := by decide +kernel
theorem dX6_takeFirst_21 : decode cX6_takeFirst 21 = .ok (.aload_n 0, 1) := by decide +kernel
theorem dX6_takeFirst_22 : decode cX6_takeFirst 22 = .ok (.getfield 32, 3) := by decide +kernel
theorem dX6_takeFirst_25 : decode cX6_takeFirst 25 = .ok (.iconst (-1), 1) := by decide +kernel
theorem dX6_takeFirst_26 : decode cX6_takeFirst 26 = .ok (.if_icmp .ne 5, 3) := by decide +kernel
theorem dX6_takeFirst_29 : decode cX6_takeFirst 29 = .ok (.iconst 3, 1) := by decide +kernel
theorem dX6_takeFirst_30 : decode cX6_takeFirst 30 = .ok (.ireturn, 1) := by decide +kernel
theorem dX6_takeFirst_31 : decode cX6_takeFirst 31 = .ok (.aload_n 0, 1) := by decide +kernel
theorem dX6_takeFirst_32 : decode cX6_takeFirst 32 = .ok (.getfield 14, 3) := by decide +kernel
theorem dX6_takeFirst_35 : decode cX6_takeFirst 35 = .ok (.aload_n 0, 1) := by decide +kernel
theorem dX6_takeFirst_36 : decode cX6_takeFirst 36 = .ok (.getfield 32, 3) := by decide +kernel
theorem dX6_takeFirst_39 : decode cX6_takeFirst 39 = .ok (.aload_n 0, 1) := by decide +kernel
theorem dX6_takeFirst_40 : decode cX6_takeFirst 40 = .ok (.getfield 14, 3) := by decide +kernel
theorem dX6_takeFirst_43 : decode cX6_takeFirst 43 = .ok (.getfield 127, 3) := by decide +kernel
theorem dX6_takeFirst_46 : decode cX6_takeFirst 46 = .ok (.invokevirtual 130, 3) := by decide +kernel
theorem dX6_takeFirst_49 : decode cX6_takeFirst 49 = .ok (.bipush 6, 2) := by decide +kernel
theorem dX6_takeFirst_51 : decode cX6_takeFirst 51 = .ok (.if_icmp .lt 5, 3) := by decide +kernel
theorem dX6_takeFirst_54 : decode cX6_takeFirst 54 = .ok (.iconst 5, 1) := by decide +kernel
theorem dX6_takeFirst_55 : decode cX6_takeFirst 55 = .ok (.ireturn, 1) := by decide +kernel
theorem dX6_takeFirst_56 : decode cX6_takeFirst 56 = .ok (.aload_n 0, 1) := by decide +kernel
theorem dX6_takeFirst_57 : decode cX6_takeFirst 57 = .ok (.iconst 5, 1) := by decide +kernel
theorem dX6_takeFirst_58 : decode cX6_takeFirst 58 = .ok (.putfield 29, 3) := by decide +kernel
theorem dX6_takeFirst_61 : decode cX6_takeFirst 61 = .ok (.iconst 0, 1) := by decide +kernel
theorem dX6_takeFirst_62 : decode cX6_takeFirst 62 = .ok (.ireturn, 1) := by decide +kernel
theorem dX6_takeSecond_0 : decode cX6_takeSecond 0 = .ok (.aload_n 0, 1) := by decide +kernel
theorem dX6_takeSecond_1 : decode cX6_takeSecond 1 = .ok (.invokevirtual 110, 3) := by decide +kernel
theorem dX6_takeSecond_4 : decode cX6_takeSecond 4 = .ok (.ifCond .ne 5, 3) := by decide +kernel
theorem dX6_takeSecond_7 : decode cX6_takeSecond 7 = .ok (.iconst 1, 1) := by decide +kernel
theorem dX6_takeSecond_8 : decode cX6_takeSecond 8 = .ok (.ireturn, 1) := by decide +kernel
theorem dX6_takeSecond_9 : decode cX6_takeSecond 9 = .ok (.aload_n 0, 1) := by decide +kernel
theorem dX6_takeSecond_10 : decode cX6_takeSecond 10 = .ok (.aload_n 0, 1) := by decide +kernel
theorem dX6_takeSecond_11 : decode cX6_takeSecond 11 = .ok (.getfield 67, 3) := by decide +kernel
theorem dX6_takeSecond_14 : decode cX6_takeSecond 14 = .ok (.invokevirtual 114, 3) := by decide +kernel
theorem dX6_takeSecond_17 : decode cX6_takeSecond 17 = .ok (.istore_n 1, 1) := by decide +kernel
theorem dX6_takeSecond_18 : decode cX6_takeSecond 18 = .ok (.iload_n 1, 1) := by decide +kernel
theorem dX6_takeSecond_19 : decode cX6_takeSecond 19 = .ok (.iconst (-1), 1) := by decide +kernel
theorem dX6_takeSecond_20 : decode cX6_takeSecond 20 = .ok (.if_icmp .ne 5, 3) := by decide +kernel
theorem dX6_takeSecond_23 : decode cX6_takeSecond 23 = .ok (.iconst 3, 1) := by decide +kernel
theorem dX6_takeSecond_24 : decode cX6_takeSecond 24 = .ok (.ireturn, 1) := by decide +kernel
theorem dX6_takeSecond_25 : decode cX6_takeSecond 25 = .ok (.aload_n 0, 1) := by decide +kernel
theorem dX6_takeSecond_26 : decode cX6_takeSecond 26 = .ok (.getfield 14, 3) := by decide +kernel
theorem dX6_takeSecond_29 : decode cX6_takeSecond 29 = .ok (.aload_n 0, 1) := by decide +kernel
theorem dX6_takeSecond_30 : decode cX6_takeSecond 30 = .ok (.getfield 32, 3) := by decide +kernel
theorem dX6_takeSecond_33 : decode cX6_takeSecond 33 = .ok (.iload_n 1, 1) := by decide +kernel
theorem dX6_takeSecond_34 : decode cX6_takeSecond 34 = .ok (.invokevirtual 133, 3) := by decide +kernel
theorem dX6_takeSecond_37 : decode cX6_takeSecond 37 = .ok (.ifCond .ne 5, 3) := by decide +kernel
theorem dX6_takeSecond_40 : decode cX6_takeSecond 40 = .ok (.iconst 5, 1) := by decide +kernel
theorem dX6_takeSecond_41 : decode cX6_takeSecond 41 = .ok (.ireturn, 1) := by decide +kernel
theorem dX6_takeSecond_42 : decode cX6_takeSecond 42 = .ok (.aload_n 0, 1) := by decide +kernel
theorem dX6_takeSecond_43 : decode cX6_takeSecond 43 = .ok (.iconst 3, 1) := by decide +kernel
theorem dX6_takeSecond_44 : decode cX6_takeSecond 44 = .ok (.putfield 29, 3) := by decide +kernel
theorem dX6_takeSecond_47 : decode cX6_takeSecond 47 = .ok (.iconst 0, 1) := by decide +kernel
theorem dX6_takeSecond_48 : decode cX6_takeSecond 48 = .ok (.ireturn, 1) := by decide +kernel
theorem dX7_of_0 : decode cX7_of 0 = .ok (.lconst 0, 1) := by decide +kernel
theorem dX7_of_1 : decode cX7_of 1 = .ok (.lstore_n 1, 1) := by decide +kernel
theorem dX7_of_2 : decode cX7_of 2 = .ok (.lconst 0, 1) := by decide +kernel
theorem dX7_of_3 : decode cX7_of 3 = .ok (.lstore_n 3, 1) := by decide +kernel
theorem dX7_of_4 : decode cX7_of 4 = .ok (.iconst 0, 1) := by decide +kernel
theorem dX7_of_5 : decode cX7_of 5 = .ok (.istore 5, 2) := by decide +kernel
theorem dX7_of_7 : decode cX7_of 7 = .ok (.iload 5, 2) := by decide +kernel
theorem dX7_of_9 : decode cX7_of 9 = .ok (.bipush 12, 2) := by decide +kernel
theorem dX7_of_11 : decode cX7_of 11 = .ok (.if_icmp .ge 88, 3) := by decide +kernel
theorem dX7_of_14 : decode cX7_of 14 = .ok (.lload_n 1, 1) := by decide +kernel
theorem dX7_of_15 : decode cX7_of 15 = .ok (.aload_n 0, 1) := by decide +kernel
theorem dX7_of_16 : decode cX7_of 16 = .ok (.iload 5, 2) := by decide +kernel
theorem dX7_of_18 : decode cX7_of 18 = .ok (.iload 5, 2) := by decide +kernel
theorem dX7_of_20 : decode cX7_of 20 = .ok (.invokevirtual 9, 3) := by decide +kernel
theorem dX7_of_23 : decode cX7_of 23 = .ok (.i2l, 1) := by decide +kernel
theorem dX7_of_24 : decode cX7_of 24 = .ok (.ladd, 1) := by decide +kernel
theorem dX7_of_25 : decode cX7_of 25 = .ok (.lstore_n 1, 1) := by decide +kernel
theorem dX7_of_26 : decode cX7_of 26 = .ok (.iload 5, 2) := by decide +kernel
theorem dX7_of_28 : decode cX7_of 28 = .ok (.iconst 1, 1) := by decide +kernel
theorem dX7_of_29 : decode cX7_of 29 = .ok (.iadd, 1) := by decide +kernel
theorem dX7_of_30 : decode cX7_of 30 = .ok (.istore 6, 2) := by decide +kernel
theorem dX7_of_32 : decode cX7_of 32 = .ok (.iload 6, 2) := by decide +kernel
theorem dX7_of_34 : decode cX7_of 34 = .ok (.bipush 12, 2) := by decide +kernel
theorem dX7_of_36 : decode cX7_of 36 = .ok (.if_icmp .ge 32, 3) := by decide +kernel
theorem dX7_of_39 : decode cX7_of 39 = .ok (.aload_n 0, 1) := by decide +kernel
theorem dX7_of_40 : decode cX7_of 40 = .ok (.iload 5, 2) := by decide +kernel
theorem dX7_of_42 : decode cX7_of 42 = .ok (.iload 6, 2) := by decide +kernel
theorem dX7_of_44 : decode cX7_of 44 = .ok (.invokevirtual 9, 3) := by decide +kernel
theorem dX7_of_47 : decode cX7_of 47 = .ok (.istore 7, 2) := by decide +kernel
theorem dX7_of_49 : decode cX7_of 49 = .ok (.lload_n 1, 1) := by decide +kernel
theorem dX7_of_50 : decode cX7_of 50 = .ok (.iload 7, 2) := by decide +kernel
theorem dX7_of_52 : decode cX7_of 52 = .ok (.iload 7, 2) := by decide +kernel
theorem dX7_of_54 : decode cX7_of 54 = .ok (.iconst 1, 1) := by decide +kernel
theorem dX7_of_55 : decode cX7_of 55 = .ok (.isub, 1) := by decide +kernel
theorem dX7_of_56 : decode cX7_of 56 = .ok (.imul, 1) := by decide +kernel
theorem dX7_of_57 : decode cX7_of 57 = .ok (.iconst 2, 1) := by decide +kernel
theorem dX7_of_58 : decode cX7_of 58 = .ok (.idiv, 1) := by decide +kernel
theorem dX7_of_59 : decode cX7_of 59 = .ok (.i2l, 1) := by decide +kernel
theorem dX7_of_60 : decode cX7_of 60 = .ok (.ladd, 1) := by decide +kernel
theorem dX7_of_61 : decode cX7_of 61 = .ok (.lstore_n 1, 1) := by decide +kernel
theorem dX7_of_62 : decode cX7_of 62 = .ok (.iinc 6 1, 3) := by decide +kernel
theorem dX7_of_65 : decode cX7_of 65 = .ok (.goto (-33), 3) := by decide +kernel
theorem dX7_of_68 : decode cX7_of 68 = .ok (.aload_n 0, 1) := by decide +kernel
theorem dX7_of_69 : decode cX7_of 69 = .ok (.iload 5, 2) := by decide +kernel
theorem dX7_of_71 : decode cX7_of 71 = .ok (.invokevirtual 15, 3) := by decide +kernel
theorem dX7_of_74 : decode cX7_of 74 = .ok (.ifCond .eq 19, 3) := by decide +kernel
theorem dX7_of_77 : decode cX7_of 77 = .ok (.lload_n 3, 1) := by decide +kernel
theorem dX7_of_78 : decode cX7_of 78 = .ok (.aload_n 0, 1) := by decide +kernel
theorem dX7_of_79 : decode cX7_of 79 = .ok (.iload 5, 2) := by decide +kernel
theorem dX7_of_81 : decode cX7_of 81 = .ok (.iload 5, 2) := by decide +kernel
theorem dX7_of_83 : decode cX7_of 83 = .ok (.iconst 1, 1) := by decide +kernel
theorem dX7_of_84 : decode cX7_of 84 = .ok (.iload 5, 2) := by decide +kernel
theorem dX7_of_86 : decode cX7_of 86 = .ok (.ishl, 1) := by decide +kernel
theorem dX7_of_87 : decode cX7_of 87 = .ok (.iconst 1, 1) := by decide +kernel
theorem dX7_of_88 : decode cX7_of 88 = .ok (.invokestatic 19, 3) := by decide +kernel
theorem dX7_of_91 : decode cX7_of 91 = .ok (.ladd, 1) := by decide +kernel
theorem dX7_of_92 : decode cX7_of 92 = .ok (.lstore_n 3, 1) := by decide +kernel
theorem dX7_of_93 : decode cX7_of 93 = .ok (.iinc 5 1, 3) := by decide +kernel
theorem dX7_of_96 : decode cX7_of 96 = .ok (.goto (-89), 3) := by decide +kernel
theorem dX7_of_99 : decode cX7_of 99 = .ok (.lload_n 1, 1) := by decide +kernel
theorem dX7_of_100 : decode cX7_of 100 = .ok (.lload_n 3, 1) := by decide +kernel
theorem dX7_of_101 : decode cX7_of 101 = .ok (.ldc2_w 25, 3) := by decide +kernel
theorem dX7_of_104 : decode cX7_of 104 = .ok (.ldiv, 1) := by decide +kernel
theorem dX7_of_105 : decode cX7_of 105 = .ok (.ladd, 1) := by decide +kernel
theorem dX7_of_106 : decode cX7_of 106 = .ok (.lreturn, 1) := by decide +kernel
theorem dX7_waysBack_0 : decode cX7_waysBack 0 = .ok (.iload 4, 2) := by decide +kernel
theorem dX7_waysBack_2 : decode cX7_waysBack 2 = .ok (.bipush 12, 2) := by decide +kernel
theorem dX7_waysBack_4 : decode cX7_waysBack 4 = .ok (.if_icmp .le 5, 3) := by decide +kernel
theorem dX7_waysBack_7 : decode cX7_waysBack 7 = .ok (.lconst 0, 1) := by decide +kernel
theorem dX7_waysBack_8 : decode cX7_waysBack 8 = .ok (.lreturn, 1) := by decide +kernel
theorem dX7_waysBack_9 : decode cX7_waysBack 9 = .ok (.iload 4, 2) := by decide +kernel
theorem dX7_waysBack_11 : decode cX7_waysBack 11 = .ok (.iconst 2, 1) := by decide +kernel
theorem dX7_waysBack_12 : decode cX7_waysBack 12 = .ok (.if_icmp .le 13, 3) := by decide +kernel
theorem dX7_waysBack_15 : decode cX7_waysBack 15 = .ok (.aload_n 0, 1) := by decide +kernel
theorem dX7_waysBack_16 : decode cX7_waysBack 16 = .ok (.iload_n 2, 1) := by decide +kernel
theorem dX7_waysBack_17 : decode cX7_waysBack 17 = .ok (.iload_n 1, 1) := by decide +kernel
theorem dX7_waysBack_18 : decode cX7_waysBack 18 = .ok (.invokevirtual 9, 3) := by decide +kernel
theorem dX7_waysBack_21 : decode cX7_waysBack 21 = .ok (.i2l, 1) := by decide +kernel
theorem dX7_waysBack_22 : decode cX7_waysBack 22 = .ok (.goto 4, 3) := by decide +kernel
theorem dX7_waysBack_25 : decode cX7_waysBack 25 = .ok (.lconst 0, 1) := by decide +kernel
theorem dX7_waysBack_26 : decode cX7_waysBack 26 = .ok (.lstore 5, 2) := by decide +kernel
theorem dX7_waysBack_28 : decode cX7_waysBack 28 = .ok (.iload_n 1, 1) := by decide +kernel
theorem dX7_waysBack_29 : decode cX7_waysBack 29 = .ok (.iconst 1, 1) := by decide +kernel
theorem dX7_waysBack_30 : decode cX7_waysBack 30 = .ok (.iadd, 1) := by decide +kernel
theorem dX7_waysBack_31 : decode cX7_waysBack 31 = .ok (.istore 7, 2) := by decide +kernel
theorem dX7_waysBack_33 : decode cX7_waysBack 33 = .ok (.iload 7, 2) := by decide +kernel
theorem dX7_waysBack_35 : decode cX7_waysBack 35 = .ok (.bipush 12, 2) := by decide +kernel
theorem dX7_waysBack_37 : decode cX7_waysBack 37 = .ok (.if_icmp .ge 58, 3) := by decide +kernel
theorem dX7_waysBack_40 : decode cX7_waysBack 40 = .ok (.aload_n 0, 1) := by decide +kernel
theorem dX7_waysBack_41 : decode cX7_waysBack 41 = .ok (.iload_n 2, 1) := by decide +kernel
theorem dX7_waysBack_42 : decode cX7_waysBack 42 = .ok (.iload 7, 2) := by decide +kernel
theorem dX7_waysBack_44 : decode cX7_waysBack 44 = .ok (.invokevirtual 9, 3) := by decide +kernel
theorem dX7_waysBack_47 : decode cX7_waysBack 47 = .ok (.istore 8, 2) := by decide +kernel
theorem dX7_waysBack_49 : decode cX7_waysBack 49 = .ok (.iload 8, 2) := by decide +kernel
theorem dX7_waysBack_51 : decode cX7_waysBack 51 = .ok (.ifCond .le 38, 3) := by decide +kernel
theorem dX7_waysBack_54 : decode cX7_waysBack 54 = .ok (.iload_n 3, 1) := by decide +kernel
theorem dX7_waysBack_55 : decode cX7_waysBack 55 = .ok (.iload 7, 2) := by decide +kernel
theorem dX7_waysBack_57 : decode cX7_waysBack 57 = .ok (.invokestatic 27, 3) := by decide +kernel
theorem dX7_waysBack_60 : decode cX7_waysBack 60 = .ok (.ifCond .ne 29, 3) := by decide +kernel
theorem dX7_waysBack_63 : decode cX7_waysBack 63 = .ok (.lload 5, 2) := by decide +kernel
theorem dX7_waysBack_65 : decode cX7_waysBack 65 = .ok (.iload 8, 2) := by decide +kernel
theorem dX7_waysBack_67 : decode cX7_waysBack 67 = .ok (.i2l, 1) := by decide +kernel
theorem dX7_waysBack_68 : decode cX7_waysBack 68 = .ok (.aload_n 0, 1) := by decide +kernel
theorem dX7_waysBack_69 : decode cX7_waysBack 69 = .ok (.iload_n 1, 1) := by decide +kernel
theorem dX7_waysBack_70 : decode cX7_waysBack 70 = .ok (.iload 7, 2) := by decide +kernel
theorem dX7_waysBack_72 : decode cX7_waysBack 72 = .ok (.iload_n 3, 1) := by decide +kernel
theorem dX7_waysBack_73 : decode cX7_waysBack 73 = .ok (.iconst 1, 1) := by decide +kernel
theorem dX7_waysBack_74 : decode cX7_waysBack 74 = .ok (.iload 7, 2) := by decide +kernel
theorem dX7_waysBack_76 : decode cX7_waysBack 76 = .ok (.ishl, 1) := by decide +kernel
theorem dX7_waysBack_77 : decode cX7_waysBack 77 = .ok (.ior, 1) := by decide +kernel
theorem dX7_waysBack_78 : decode cX7_waysBack 78 = .ok (.iload 4, 2) := by decide +kernel
theorem dX7_waysBack_80 : decode cX7_waysBack 80 = .ok (.iconst 1, 1) := by decide +kernel
theorem dX7_waysBack_81 : decode cX7_waysBack 81 = .ok (.iadd, 1) := by decide +kernel
theorem dX7_waysBack_82 : decode cX7_waysBack 82 = .ok (.invokestatic 19, 3) := by decide +kernel
theorem dX7_waysBack_85 : decode cX7_waysBack 85 = .ok (.lmul, 1) := by decide +kernel
theorem dX7_waysBack_86 : decode cX7_waysBack 86 = .ok (.ladd, 1) := by decide +kernel
theorem dX7_waysBack_87 : decode cX7_waysBack 87 = .ok (.lstore 5, 2) := by decide +kernel
theorem dX7_waysBack_89 : decode cX7_waysBack 89 = .ok (.iinc 7 1, 3) := by decide +kernel
theorem dX7_waysBack_92 : decode cX7_waysBack 92 = .ok (.goto (-59), 3) := by decide +kernel
theorem dX7_waysBack_95 : decode cX7_waysBack 95 = .ok (.lload 5, 2) := by decide +kernel
theorem dX7_waysBack_97 : decode cX7_waysBack 97 = .ok (.lreturn, 1) := by decide +kernel
theorem dX8_init_0 : decode cX8_init 0 = .ok (.aload_n 0, 1) := by decide +kernel
theorem dX8_init_1 : decode cX8_init 1 = .ok (.invokespecial 3, 3) := by decide +kernel
theorem dX8_init_4 : decode cX8_init 4 = .ok (.aload_n 0, 1) := by decide +kernel
theorem dX8_init_5 : decode cX8_init 5 = .ok (.sipush 4096, 3) := by decide +kernel
theorem dX8_init_8 : decode cX8_init 8 = .ok (.newarray .boolean, 2) := by decide +kernel
theorem dX8_init_10 : decode cX8_init 10 = .ok (.putfield 9, 3) := by decide +kernel
theorem dX8_init_13 : decode cX8_init 13 = .ok (.aload_n 0, 1) := by decide +kernel
theorem dX8_init_14 : decode cX8_init 14 = .ok (.bipush 12, 2) := by decide +kernel
theorem dX8_init_16 : decode cX8_init 16 = .ok (.newarray .int, 2) := by decide +kernel
theorem dX8_init_18 : decode cX8_init 18 = .ok (.putfield 15, 3) := by decide +kernel
theorem dX8_init_21 : decode cX8_init 21 = .ok (.aload_n 0, 1) := by decide +kernel
theorem dX8_init_22 : decode cX8_init 22 = .ok (.bipush 12, 2) := by decide +kernel
theorem dX8_init_24 : decode cX8_init 24 = .ok (.newarray .int, 2) := by decide +kernel
theorem dX8_init_26 : decode cX8_init 26 = .ok (.putfield 19, 3) := by decide +kernel
theorem dX8_init_29 : decode cX8_init 29 = .ok (.aload_n 0, 1) := by decide +kernel
theorem dX8_init_30 : decode cX8_init 30 = .ok (.sipush 924, 3) := by decide +kernel
theorem dX8_init_33 : decode cX8_init 33 = .ok (.newarray .int, 2) := by decide +kernel
theorem dX8_init_35 : decode cX8_init 35 = .ok (.putfield 22, 3) := by decide +kernel
theorem dX8_init_38 : decode cX8_init 38 = .ok (.aload_n 0, 1) := by decide +kernel
theorem dX8_init_39 : decode cX8_init 39 = .ok (.bipush 12, 2) := by decide +kernel
theorem dX8_init_41 : decode cX8_init 41 = .ok (.newarray .int, 2) := by decide +kernel
theorem dX8_init_43 : decode cX8_init 43 = .ok (.putfield 25, 3) := by decide +kernel
theorem dX8_init_46 : decode cX8_init 46 = .ok (.return_, 1) := by decide +kernel
theorem dX8_lowest_0 : decode cX8_lowest 0 = .ok (.iload_n 0, 1) := by decide +kernel
theorem dX8_lowest_1 : decode cX8_lowest 1 = .ok (.ifCond .ne 7, 3) := by decide +kernel
theorem dX8_lowest_4 : decode cX8_lowest 4 = .ok (.iconst (-1), 1) := by decide +kernel
theorem dX8_lowest_5 : decode cX8_lowest 5 = .ok (.goto 12, 3) := by decide +kernel
theorem dX8_lowest_8 : decode cX8_lowest 8 = .ok (.iload_n 0, 1) := by decide +kernel
theorem dX8_lowest_9 : decode cX8_lowest 9 = .ok (.iload_n 0, 1) := by decide +kernel
theorem dX8_lowest_10 : decode cX8_lowest 10 = .ok (.ineg, 1) := by decide +kernel
theorem dX8_lowest_11 : decode cX8_lowest 11 = .ok (.iand, 1) := by decide +kernel
theorem dX8_lowest_12 : decode cX8_lowest 12 = .ok (.iconst 1, 1) := by decide +kernel
theorem dX8_lowest_13 : decode cX8_lowest 13 = .ok (.isub, 1) := by decide +kernel
theorem dX8_lowest_14 : decode cX8_lowest 14 = .ok (.invokestatic 28, 3) := by decide +kernel
theorem dX8_lowest_17 : decode cX8_lowest 17 = .ok (.ireturn, 1) := by decide +kernel
theorem dX8_learn_0 : decode cX8_learn 0 = .ok (.iconst 0, 1) := by decide +kernel
theorem dX8_learn_1 : decode cX8_learn 1 = .ok (.istore_n 2, 1) := by decide +kernel
theorem dX8_learn_2 : decode cX8_learn 2 = .ok (.iload_n 2, 1) := by decide +kernel
theorem dX8_learn_3 : decode cX8_learn 3 = .ok (.aload_n 0, 1) := by decide +kernel
theorem dX8_learn_4 : decode cX8_learn 4 = .ok (.getfield 15, 3) := by decide +kernel
theorem dX8_learn_7 : decode cX8_learn 7 = .ok (.arraylength, 1) := by decide +kernel
theorem dX8_learn_8 : decode cX8_learn 8 = .ok (.if_icmp .ge 61, 3) := by decide +kernel
theorem dX8_learn_11 : decode cX8_learn 11 = .ok (.iload_n 2, 1) := by decide +kernel
theorem dX8_learn_12 : decode cX8_learn 12 = .ok (.aload_n 0, 1) := by decide +kernel
theorem dX8_learn_13 : decode cX8_learn 13 = .ok (.getfield 19, 3) := by decide +kernel
theorem dX8_learn_16 : decode cX8_learn 16 = .ok (.arraylength, 1) := by decide +kernel
theorem dX8_learn_17 : decode cX8_learn 17 = .ok (.if_icmp .ge 52, 3) := by decide +kernel
theorem dX8_learn_20 : decode cX8_learn 20 = .ok (.aload_n 1, 1) := by decide +kernel
theorem dX8_learn_21 : decode cX8_learn 21 = .ok (.iload_n 2, 1) := by decide +kernel
theorem dX8_learn_22 : decode cX8_learn 22 = .ok (.iload_n 2, 1) := by decide +kernel
theorem dX8_learn_23 : decode cX8_learn 23 = .ok (.invokevirtual 34, 3) := by decide +kernel
theorem dX8_learn_26 : decode cX8_learn 26 = .ok (.ifCond .le 9, 3) := by decide +kernel
theorem dX8_learn_29 : decode cX8_learn 29 = .ok (.iconst 1, 1) := by decide +kernel
theorem dX8_learn_30 : decode cX8_learn 30 = .ok (.iload_n 2, 1) := by decide +kernel
theorem dX8_learn_31 : decode cX8_learn 31 = .ok (.ishl, 1) := by decide +kernel
theorem dX8_learn_32 : decode cX8_learn 32 = .ok (.goto 4, 3) := by decide +kernel
theorem dX8_learn_35 : decode cX8_learn 35 = .ok (.iconst 0, 1) := by decide +kernel
theorem dX8_learn_36 : decode cX8_learn 36 = .ok (.istore_n 3, 1) := by decide +kernel
theorem dX8_learn_37 : decode cX8_learn 37 = .ok (.aload_n 0, 1) := by decide +kernel
theorem dX8_learn_38 : decode cX8_learn 38 = .ok (.getfield 15, 3) := by decide +kernel
theorem dX8_learn_41 : decode cX8_learn 41 = .ok (.iload_n 2, 1) := by decide +kernel
theorem dX8_learn_42 : decode cX8_learn 42 = .ok (.aload_n 1, 1) := by decide +kernel
theorem dX8_learn_43 : decode cX8_learn 43 = .ok (.iload_n 2, 1) := by decide +kernel
theorem dX8_learn_44 : decode cX8_learn 44 = .ok (.iconst 1, 1) := by decide +kernel
theorem dX8_learn_45 : decode cX8_learn 45 = .ok (.invokevirtual 40, 3) := by decide +kernel
theorem dX8_learn_48 : decode cX8_learn 48 = .ok (.iastore, 1) := by decide +kernel
theorem dX8_learn_49 : decode cX8_learn 49 = .ok (.aload_n 0, 1) := by decide +kernel
theorem dX8_learn_50 : decode cX8_learn 50 = .ok (.getfield 19, 3) := by decide +kernel
theorem dX8_learn_53 : decode cX8_learn 53 = .ok (.iload_n 2, 1) := by decide +kernel
theorem dX8_learn_54 : decode cX8_learn 54 = .ok (.aload_n 1, 1) := by decide +kernel
theorem dX8_learn_55 : decode cX8_learn 55 = .ok (.iload_n 2, 1) := by decide +kernel
theorem dX8_learn_56 : decode cX8_learn 56 = .ok (.iconst 2, 1) := by decide +kernel
theorem dX8_learn_57 : decode cX8_learn 57 = .ok (.invokevirtual 40, 3) := by decide +kernel
theorem dX8_learn_60 : decode cX8_learn 60 = .ok (.iload_n 3, 1) := by decide +kernel
theorem dX8_learn_61 : decode cX8_learn 61 = .ok (.ior, 1) := by decide +kernel
theorem dX8_learn_62 : decode cX8_learn 62 = .ok (.iastore, 1) := by decide +kernel
theorem dX8_learn_63 : decode cX8_learn 63 = .ok (.iinc 2 1, 3) := by decide +kernel
theorem dX8_learn_66 : decode cX8_learn 66 = .ok (.goto (-64), 3) := by decide +kernel
theorem dX8_learn_69 : decode cX8_learn 69 = .ok (.iconst 0, 1) := by decide +kernel
theorem dX8_learn_70 : decode cX8_learn 70 = .ok (.istore_n 2, 1) := by decide +kernel
theorem dX8_learn_71 : decode cX8_learn 71 = .ok (.iload_n 2, 1) := by decide +kernel
theorem dX8_learn_72 : decode cX8_learn 72 = .ok (.aload_n 1, 1) := by decide +kernel
theorem dX8_learn_73 : decode cX8_learn 73 = .ok (.getfield 43, 3) := by decide +kernel
theorem dX8_learn_76 : decode cX8_learn 76 = .ok (.if_icmp .gt 61, 3) := by decide +kernel
theorem dX8_learn_79 : decode cX8_learn 79 = .ok (.iload_n 2, 1) := by decide +kernel
theorem dX8_learn_80 : decode cX8_learn 80 = .ok (.aload_n 0, 1) := by decide +kernel
theorem dX8_learn_81 : decode cX8_learn 81 = .ok (.getfield 9, 3) := by decide +kernel
theorem dX8_learn_84 : decode cX8_learn 84 = .ok (.arraylength, 1) := by decide +kernel
theorem dX8_learn_85 : decode cX8_learn 85 = .ok (.if_icmp .ge 52, 3) := by decide +kernel
theorem dX8_learn_88 : decode cX8_learn 88 = .ok (.aload_n 1, 1) := by decide +kernel
theorem dX8_learn_89 : decode cX8_learn 89 = .ok (.iload_n 2, 1) := by decide +kernel
theorem dX8_learn_90 : decode cX8_learn 90 = .ok (.invokevirtual 47, 3) := by decide +kernel
theorem dX8_learn_93 : decode cX8_learn 93 = .ok (.ifCond .eq 38, 3) := by decide +kernel
theorem dX8_learn_96 : decode cX8_learn 96 = .ok (.aload_n 0, 1) := by decide +kernel
theorem dX8_learn_97 : decode cX8_learn 97 = .ok (.getfield 9, 3) := by decide +kernel
theorem dX8_learn_100 : decode cX8_learn 100 = .ok (.iload_n 2, 1) := by decide +kernel
theorem dX8_learn_101 : decode cX8_learn 101 = .ok (.iload_n 2, 1) := by decide +kernel
theorem dX8_learn_102 : decode cX8_learn 102 = .ok (.ifCond .eq 23, 3) := by decide +kernel
theorem dX8_learn_105 : decode cX8_learn 105 = .ok (.aload_n 0, 1) := by decide +kernel
theorem dX8_learn_106 : decode cX8_learn 106 = .ok (.iload_n 2, 1) := by decide +kernel
theorem dX8_learn_107 : decode cX8_learn 107 = .ok (.iload_n 2, 1) := by decide +kernel
theorem dX8_learn_108 : decode cX8_learn 108 = .ok (.iconst 1, 1) := by decide +kernel
theorem dX8_learn_109 : decode cX8_learn 109 = .ok (.isub, 1) := by decide +kernel
theorem dX8_learn_110 : decode cX8_learn 110 = .ok (.iand, 1) := by decide +kernel
theorem dX8_learn_111 : decode cX8_learn 111 = .ok (.invokevirtual 51, 3) := by decide +kernel
theorem dX8_learn_114 : decode cX8_learn 114 = .ok (.ifCond .eq 15, 3) := by decide +kernel
theorem dX8_learn_117 : decode cX8_learn 117 = .ok (.aload_n 0, 1) := by decide +kernel
theorem dX8_learn_118 : decode cX8_learn 118 = .ok (.iload_n 2, 1) := by decide +kernel
theorem dX8_learn_119 : decode cX8_learn 119 = .ok (.invokevirtual 54, 3) := by decide +kernel
theorem dX8_learn_122 : decode cX8_learn 122 = .ok (.ifCond .eq 7, 3) := by decide +kernel
theorem dX8_learn_125 : decode cX8_learn 125 = .ok (.iconst 1, 1) := by decide +kernel
theorem dX8_learn_126 : decode cX8_learn 126 = .ok (.goto 4, 3) := by decide +kernel
theorem dX8_learn_129 : decode cX8_learn 129 = .ok (.iconst 0, 1) := by decide +kernel
theorem dX8_learn_130 : decode cX8_learn 130 = .ok (.bastore, 1) := by decide +kernel
theorem dX8_learn_131 : decode cX8_learn 131 = .ok (.iinc 2 1, 3) := by decide +kernel
theorem dX8_learn_134 : decode cX8_learn 134 = .ok (.goto (-63), 3) := by decide +kernel
theorem dX8_learn_137 : decode cX8_learn 137 = .ok (.aload_n 0, 1) := by decide +kernel
theorem dX8_learn_138 : decode cX8_learn 138 = .ok (.aload_n 1, 1) := by decide +kernel
theorem dX8_learn_139 : decode cX8_learn 139 = .ok (.getfield 43, 3) := by decide +kernel
theorem dX8_learn_142 : decode cX8_learn 142 = .ok (.invokevirtual 57, 3) := by decide +kernel
theorem dX8_learn_145 : decode cX8_learn 145 = .ok (.return_, 1) := by decide +kernel
theorem dX8_isFreeByTip_0 : decode cX8_isFreeByTip 0 = .ok (.iconst 0, 1) := by decide +kernel
theorem dX8_isFreeByTip_1 : decode cX8_isFreeByTip 1 = .ok (.istore_n 2, 1) := by decide +kernel
theorem dX8_isFreeByTip_2 : decode cX8_isFreeByTip 2 = .ok (.iload_n 2, 1) := by decide +kernel
theorem dX8_isFreeByTip_3 : decode cX8_isFreeByTip 3 = .ok (.aload_n 0, 1) := by decide +kernel
theorem dX8_isFreeByTip_4 : decode cX8_isFreeByTip 4 = .ok (.getfield 15, 3) := by decide +kernel
theorem dX8_isFreeByTip_7 : decode cX8_isFreeByTip 7 = .ok (.arraylength, 1) := by decide +kernel
theorem dX8_isFreeByTip_8 : decode cX8_isFreeByTip 8 = .ok (.if_icmp .ge 66, 3) := by decide +kernel
theorem dX8_isFreeByTip_11 : decode cX8_isFreeByTip 11 = .ok (.iload_n 2, 1) := by decide +kernel
theorem dX8_isFreeByTip_12 : decode cX8_isFreeByTip 12 = .ok (.aload_n 0, 1) := by decide +kernel
theorem dX8_isFreeByTip_13 : decode cX8_isFreeByTip 13 = .ok (.getfield 19, 3) := by decide +kernel
theorem dX8_isFreeByTip_16 : decode cX8_isFreeByTip 16 = .ok (.arraylength, 1) := by decide +kernel
theorem dX8_isFreeByTip_17 : decode cX8_isFreeByTip 17 = .ok (.if_icmp .ge 57, 3) := by decide +kernel
theorem dX8_isFreeByTip_20 : decode cX8_isFreeByTip 20 = .ok (.aload_n 0, 1) := by decide +kernel
theorem dX8_isFreeByTip_21 : decode cX8_isFreeByTip 21 = .ok (.getfield 15, 3) := by decide +kernel
theorem dX8_isFreeByTip_24 : decode cX8_isFreeByTip 24 = .ok (.iload_n 2, 1) := by decide +kernel
theorem dX8_isFreeByTip_25 : decode cX8_isFreeByTip 25 = .ok (.iaload, 1) := by decide +kernel
theorem dX8_isFreeByTip_26 : decode cX8_isFreeByTip 26 = .ok (.iload_n 1, 1) := by decide +kernel
theorem dX8_isFreeByTip_27 : decode cX8_isFreeByTip 27 = .ok (.iand, 1) := by decide +kernel
theorem dX8_isFreeByTip_28 : decode cX8_isFreeByTip 28 = .ok (.istore_n 3, 1) := by decide +kernel
theorem dX8_isFreeByTip_29 : decode cX8_isFreeByTip 29 = .ok (.iload_n 1, 1) := by decide +kernel
theorem dX8_isFreeByTip_30 : decode cX8_isFreeByTip 30 = .ok (.iload_n 2, 1) := by decide +kernel
theorem dX8_isFreeByTip_31 : decode cX8_isFreeByTip 31 = .ok (.invokestatic 61, 3) := by decide +kernel
theorem dX8_isFreeByTip_34 : decode cX8_isFreeByTip 34 = .ok (.ifCond .eq 34, 3) := by decide +kernel
theorem dX8_isFreeByTip_37 : decode cX8_isFreeByTip 37 = .ok (.aload_n 0, 1) := by decide +kernel
theorem dX8_isFreeByTip_38 : decode cX8_isFreeByTip 38 = .ok (.getfield 19, 3) := by decide +kernel
theorem dX8_isFreeByTip_41 : decode cX8_isFreeByTip 41 = .ok (.iload_n 2, 1) := by decide +kernel
theorem dX8_isFreeByTip_42 : decode cX8_isFreeByTip 42 = .ok (.iaload, 1) := by decide +kernel
theorem dX8_isFreeByTip_43 : decode cX8_isFreeByTip 43 = .ok (.iload_n 1, 1) := by decide +kernel
theorem dX8_isFreeByTip_44 : decode cX8_isFreeByTip 44 = .ok (.iand, 1) := by decide +kernel
theorem dX8_isFreeByTip_45 : decode cX8_isFreeByTip 45 = .ok (.ifCond .ne 23, 3) := by decide +kernel
theorem dX8_isFreeByTip_48 : decode cX8_isFreeByTip 48 = .ok (.iload_n 3, 1) := by decide +kernel
theorem dX8_isFreeByTip_49 : decode cX8_isFreeByTip 49 = .ok (.iload_n 3, 1) := by decide +kernel
theorem dX8_isFreeByTip_50 : decode cX8_isFreeByTip 50 = .ok (.iconst 1, 1) := by decide +kernel
theorem dX8_isFreeByTip_51 : decode cX8_isFreeByTip 51 = .ok (.isub, 1) := by decide +kernel
theorem dX8_isFreeByTip_52 : decode cX8_isFreeByTip 52 = .ok (.iand, 1) := by decide +kernel
theorem dX8_isFreeByTip_53 : decode cX8_isFreeByTip 53 = .ok (.ifCond .ne 15, 3) := by decide +kernel
theorem dX8_isFreeByTip_56 : decode cX8_isFreeByTip 56 = .ok (.aload_n 0, 1) := by decide +kernel
theorem dX8_isFreeByTip_57 : decode cX8_isFreeByTip 57 = .ok (.iload_n 1, 1) := by decide +kernel
theorem dX8_isFreeByTip_58 : decode cX8_isFreeByTip 58 = .ok (.iconst 1, 1) := by decide +kernel
theorem dX8_isFreeByTip_59 : decode cX8_isFreeByTip 59 = .ok (.iload_n 2, 1) := by decide +kernel
theorem dX8_isFreeByTip_60 : decode cX8_isFreeByTip 60 = .ok (.ishl, 1) := by decide +kernel
theorem dX8_isFreeByTip_61 : decode cX8_isFreeByTip 61 = .ok (.iconst (-1), 1) := by decide +kernel
theorem dX8_isFreeByTip_62 : decode cX8_isFreeByTip 62 = .ok (.ixor, 1) := by decide +kernel
theorem dX8_isFreeByTip_63 : decode cX8_isFreeByTip 63 = .ok (.iand, 1) := by decide +kernel
theorem dX8_isFreeByTip_64 : decode cX8_isFreeByTip 64 = .ok (.invokevirtual 51, 3) := by decide +kernel
theorem dX8_isFreeByTip_67 : decode cX8_isFreeByTip 67 = .ok (.ireturn, 1) := by decide +kernel
theorem dX8_isFreeByTip_68 : decode cX8_isFreeByTip 68 = .ok (.iinc 2 1, 3) := by decide +kernel
theorem dX8_isFreeByTip_71 : decode cX8_isFreeByTip 71 = .ok (.goto (-69), 3) := by decide +kernel
theorem dX8_isFreeByTip_74 : decode cX8_isFreeByTip 74 = .ok (.iconst 0, 1) := by decide +kernel
theorem dX8_isFreeByTip_75 : decode cX8_isFreeByTip 75 = .ok (.ireturn, 1) := by decide +kernel
theorem dX8_learnRings_0 : decode cX8_learnRings 0 = .ok (.aload_n 0, 1) := by decide +kernel
theorem dX8_learnRings_1 : decode cX8_learnRings 1 = .ok (.iconst 0, 1) := by decide +kernel
theorem dX8_learnRings_2 : decode cX8_learnRings 2 = .ok (.putfield 65, 3) := by decide +kernel
theorem dX8_learnRings_5 : decode cX8_learnRings 5 = .ok (.iconst 0, 1) := by decide +kernel
theorem dX8_learnRings_6 : decode cX8_learnRings 6 = .ok (.istore_n 2, 1) := by decide +kernel
theorem dX8_learnRings_7 : decode cX8_learnRings 7 = .ok (.iload_n 2, 1) := by decide +kernel
theorem dX8_learnRings_8 : decode cX8_learnRings 8 = .ok (.aload_n 0, 1) := by decide +kernel
theorem dX8_learnRings_9 : decode cX8_learnRings 9 = .ok (.getfield 25, 3) := by decide +kernel
theorem dX8_learnRings_12 : decode cX8_learnRings 12 = .ok (.arraylength, 1) := by decide +kernel
theorem dX8_learnRings_13 : decode cX8_learnRings 13 = .ok (.if_icmp .ge 94, 3) := by decide +kernel
theorem dX8_learnRings_16 : decode cX8_learnRings 16 = .ok (.aload_n 0, 1) := by decide +kernel
theorem dX8_learnRings_17 : decode cX8_learnRings 17 = .ok (.getfield 25, 3) := by decide +kernel
theorem dX8_learnRings_20 : decode cX8_learnRings 20 = .ok (.iload_n 2, 1) := by decide +kernel
theorem dX8_learnRings_21 : decode cX8_learnRings 21 = .ok (.aload_n 0, 1) := by decide +kernel
theorem dX8_learnRings_22 : decode cX8_learnRings 22 = .ok (.getfield 65, 3) := by decide +kernel
theorem dX8_learnRings_25 : decode cX8_learnRings 25 = .ok (.iastore, 1) := by decide +kernel
theorem dX8_learnRings_26 : decode cX8_learnRings 26 = .ok (.iconst 1, 1) := by decide +kernel
theorem dX8_learnRings_27 : decode cX8_learnRings 27 = .ok (.iload_n 2, 1) := by decide +kernel
theorem dX8_learnRings_28 : decode cX8_learnRings 28 = .ok (.ishl, 1) := by decide +kernel
theorem dX8_learnRings_29 : decode cX8_learnRings 29 = .ok (.istore_n 3, 1) := by decide +kernel
theorem dX8_learnRings_30 : decode cX8_learnRings 30 = .ok (.iload_n 3, 1) := by decide +kernel
theorem dX8_learnRings_31 : decode cX8_learnRings 31 = .ok (.istore 4, 2) := by decide +kernel
theorem dX8_learnRings_33 : decode cX8_learnRings 33 = .ok (.iload 4, 2) := by decide +kernel
theorem dX8_learnRings_35 : decode cX8_learnRings 35 = .ok (.iload_n 1, 1) := by decide +kernel
theorem dX8_learnRings_36 : decode cX8_learnRings 36 = .ok (.if_icmp .gt 65, 3) := by decide +kernel
theorem dX8_learnRings_39 : decode cX8_learnRings 39 = .ok (.iload 4, 2) := by decide +kernel
theorem dX8_learnRings_41 : decode cX8_learnRings 41 = .ok (.iload_n 1, 1) := by decide +kernel
theorem dX8_learnRings_42 : decode cX8_learnRings 42 = .ok (.iconst (-1), 1) := by decide +kernel
theorem dX8_learnRings_43 : decode cX8_learnRings 43 = .ok (.ixor, 1) := by decide +kernel
theorem dX8_learnRings_44 : decode cX8_learnRings 44 = .ok (.iand, 1) := by decide +kernel
theorem dX8_learnRings_45 : decode cX8_learnRings 45 = .ok (.ifCond .ne 45, 3) := by decide +kernel
theorem dX8_learnRings_48 : decode cX8_learnRings 48 = .ok (.aload_n 0, 1) := by decide +kernel
theorem dX8_learnRings_49 : decode cX8_learnRings 49 = .ok (.iload 4, 2) := by decide +kernel
theorem dX8_learnRings_51 : decode cX8_learnRings 51 = .ok (.invokevirtual 68, 3) := by decide +kernel
theorem dX8_learnRings_54 : decode cX8_learnRings 54 = .ok (.ifCond .eq 36, 3) := by decide +kernel
theorem dX8_learnRings_57 : decode cX8_learnRings 57 = .ok (.aload_n 0, 1) := by decide +kernel
theorem dX8_learnRings_58 : decode cX8_learnRings 58 = .ok (.getfield 65, 3) := by decide +kernel
theorem dX8_learnRings_61 : decode cX8_learnRings 61 = .ok (.aload_n 0, 1) := by decide +kernel
theorem dX8_learnRings_62 : decode cX8_learnRings 62 = .ok (.getfield 22, 3) := by decide +kernel
theorem dX8_learnRings_65 : decode cX8_learnRings 65 = .ok (.arraylength, 1) := by decide +kernel
theorem dX8_learnRings_66 : decode cX8_learnRings 66 = .ok (.if_icmp .ge 24, 3) := by decide +kernel
theorem dX8_learnRings_69 : decode cX8_learnRings 69 = .ok (.aload_n 0, 1) := by decide +kernel
theorem dX8_learnRings_70 : decode cX8_learnRings 70 = .ok (.getfield 22, 3) := by decide +kernel
theorem dX8_learnRings_73 : decode cX8_learnRings 73 = .ok (.aload_n 0, 1) := by decide +kernel
theorem dX8_learnRings_74 : decode cX8_learnRings 74 = .ok (.getfield 65, 3) := by decide +kernel
theorem dX8_learnRings_77 : decode cX8_learnRings 77 = .ok (.iload 4, 2) := by decide +kernel
theorem dX8_learnRings_79 : decode cX8_learnRings 79 = .ok (.iastore, 1) := by decide +kernel
theorem dX8_learnRings_80 : decode cX8_learnRings 80 = .ok (.aload_n 0, 1) := by decide +kernel
theorem dX8_learnRings_81 : decode cX8_learnRings 81 = .ok (.dup, 1) := by decide +kernel
theorem dX8_learnRings_82 : decode cX8_learnRings 82 = .ok (.getfield 65, 3) := by decide +kernel
theorem dX8_learnRings_85 : decode cX8_learnRings 85 = .ok (.iconst 1, 1) := by decide +kernel
theorem dX8_learnRings_86 : decode cX8_learnRings 86 = .ok (.iadd, 1) := by decide +kernel
theorem dX8_learnRings_87 : decode cX8_learnRings 87 = .ok (.putfield 65, 3) := by decide +kernel
theorem dX8_learnRings_90 : decode cX8_learnRings 90 = .ok (.iload 4, 2) := by decide +kernel
theorem dX8_learnRings_92 : decode cX8_learnRings 92 = .ok (.iconst 2, 1) := by decide +kernel
theorem dX8_learnRings_93 : decode cX8_learnRings 93 = .ok (.iload_n 3, 1) := by decide +kernel
theorem dX8_learnRings_94 : decode cX8_learnRings 94 = .ok (.imul, 1) := by decide +kernel
theorem dX8_learnRings_95 : decode cX8_learnRings 95 = .ok (.iadd, 1) := by decide +kernel
theorem dX8_learnRings_96 : decode cX8_learnRings 96 = .ok (.istore 4, 2) := by decide +kernel
theorem dX8_learnRings_98 : decode cX8_learnRings 98 = .ok (.goto (-65), 3) := by decide +kernel
theorem dX8_learnRings_101 : decode cX8_learnRings 101 = .ok (.iinc 2 1, 3) := by decide +kernel
theorem dX8_learnRings_104 : decode cX8_learnRings 104 = .ok (.goto (-97), 3) := by decide +kernel
theorem dX8_learnRings_107 : decode cX8_learnRings 107 = .ok (.return_, 1) := by decide +kernel
theorem dX8_isLeastRing_0 : decode cX8_isLeastRing 0 = .ok (.aload_n 0, 1) := by decide +kernel
theorem dX8_isLeastRing_1 : decode cX8_isLeastRing 1 = .ok (.iload_n 1, 1) := by decide +kernel
theorem dX8_isLeastRing_2 : decode cX8_isLeastRing 2 = .ok (.invokevirtual 51, 3) := by decide +kernel
theorem dX8_isLeastRing_5 : decode cX8_isLeastRing 5 = .ok (.ifCond .eq 5, 3) := by decide +kernel
theorem dX8_isLeastRing_8 : decode cX8_isLeastRing 8 = .ok (.iconst 0, 1) := by decide +kernel
theorem dX8_isLeastRing_9 : decode cX8_isLeastRing 9 = .ok (.ireturn, 1) := by decide +kernel
theorem dX8_isLeastRing_10 : decode cX8_isLeastRing 10 = .ok (.iconst 0, 1) := by decide +kernel
theorem dX8_isLeastRing_11 : decode cX8_isLeastRing 11 = .ok (.istore_n 2, 1) := by decide +kernel
theorem dX8_isLeastRing_12 : decode cX8_isLeastRing 12 = .ok (.iload_n 2, 1) := by decide +kernel
theorem dX8_isLeastRing_13 : decode cX8_isLeastRing 13 = .ok (.bipush 12, 2) := by decide +kernel
theorem dX8_isLeastRing_15 : decode cX8_isLeastRing 15 = .ok (.if_icmp .ge 33, 3) := by decide +kernel
theorem dX8_isLeastRing_18 : decode cX8_isLeastRing 18 = .ok (.iload_n 1, 1) := by decide +kernel
theorem dX8_isLeastRing_19 : decode cX8_isLeastRing 19 = .ok (.iload_n 2, 1) := by decide +kernel
theorem dX8_isLeastRing_20 : decode cX8_isLeastRing 20 = .ok (.invokestatic 61, 3) := by decide +kernel
theorem dX8_isLeastRing_23 : decode cX8_isLeastRing 23 = .ok (.ifCond .eq 19, 3) := by decide +kernel
theorem dX8_isLeastRing_26 : decode cX8_isLeastRing 26 = .ok (.aload_n 0, 1) := by decide +kernel
theorem dX8_isLeastRing_27 : decode cX8_isLeastRing 27 = .ok (.iload_n 1, 1) := by decide +kernel
theorem dX8_isLeastRing_28 : decode cX8_isLeastRing 28 = .ok (.iconst 1, 1) := by decide +kernel
theorem dX8_isLeastRing_29 : decode cX8_isLeastRing 29 = .ok (.iload_n 2, 1) := by decide +kernel
theorem dX8_isLeastRing_30 : decode cX8_isLeastRing 30 = .ok (.ishl, 1) := by decide +kernel
theorem dX8_isLeastRing_31 : decode cX8_isLeastRing 31 = .ok (.iconst (-1), 1) := by decide +kernel
theorem dX8_isLeastRing_32 : decode cX8_isLeastRing 32 = .ok (.ixor, 1) := by decide +kernel
theorem dX8_isLeastRing_33 : decode cX8_isLeastRing 33 = .ok (.iand, 1) := by decide +kernel
theorem dX8_isLeastRing_34 : decode cX8_isLeastRing 34 = .ok (.invokevirtual 51, 3) := by decide +kernel
theorem dX8_isLeastRing_37 : decode cX8_isLeastRing 37 = .ok (.ifCond .ne 5, 3) := by decide +kernel
theorem dX8_isLeastRing_40 : decode cX8_isLeastRing 40 = .ok (.iconst 0, 1) := by decide +kernel
theorem dX8_isLeastRing_41 : decode cX8_isLeastRing 41 = .ok (.ireturn, 1) := by decide +kernel
theorem dX8_isLeastRing_42 : decode cX8_isLeastRing 42 = .ok (.iinc 2 1, 3) := by decide +kernel
theorem dX8_isLeastRing_45 : decode cX8_isLeastRing 45 = .ok (.goto (-33), 3) := by decide +kernel
theorem dX8_isLeastRing_48 : decode cX8_isLeastRing 48 = .ok (.iconst 1, 1) := by decide +kernel
theorem dX8_isLeastRing_49 : decode cX8_isLeastRing 49 = .ok (.ireturn, 1) := by decide +kernel
theorem dX8_isFree_0 : decode cX8_isFree 0 = .ok (.iload_n 1, 1) := by decide +kernel
theorem dX8_isFree_1 : decode cX8_isFree 1 = .ok (.ifCond .lt 25, 3) := by decide +kernel
theorem dX8_isFree_4 : decode cX8_isFree 4 = .ok (.iload_n 1, 1) := by decide +kernel
theorem dX8_isFree_5 : decode cX8_isFree 5 = .ok (.aload_n 0, 1) := by decide +kernel
theorem dX8_isFree_6 : decode cX8_isFree 6 = .ok (.getfield 9, 3) := by decide +kernel
theorem dX8_isFree_9 : decode cX8_isFree 9 = .ok (.arraylength, 1) := by decide +kernel
theorem dX8_isFree_10 : decode cX8_isFree 10 = .ok (.if_icmp .ge 16, 3) := by decide +kernel
theorem dX8_isFree_13 : decode cX8_isFree 13 = .ok (.aload_n 0, 1) := by decide +kernel
theorem dX8_isFree_14 : decode cX8_isFree 14 = .ok (.getfield 9, 3) := by decide +kernel
theorem dX8_isFree_17 : decode cX8_isFree 17 = .ok (.iload_n 1, 1) := by decide +kernel
theorem dX8_isFree_18 : decode cX8_isFree 18 = .ok (.baload, 1) := by decide +kernel
theorem dX8_isFree_19 : decode cX8_isFree 19 = .ok (.ifCond .eq 7, 3) := by decide +kernel
theorem dX8_isFree_22 : decode cX8_isFree 22 = .ok (.iconst 1, 1) := by decide +kernel
theorem dX8_isFree_23 : decode cX8_isFree 23 = .ok (.goto 4, 3) := by decide +kernel
theorem dX8_isFree_26 : decode cX8_isFree 26 = .ok (.iconst 0, 1) := by decide +kernel
theorem dX8_isFree_27 : decode cX8_isFree 27 = .ok (.ireturn, 1) := by decide +kernel
theorem dX8_ringAt_0 : decode cX8_ringAt 0 = .ok (.iload_n 1, 1) := by decide +kernel
theorem dX8_ringAt_1 : decode cX8_ringAt 1 = .ok (.ifCond .lt 29, 3) := by decide +kernel
theorem dX8_ringAt_4 : decode cX8_ringAt 4 = .ok (.iload_n 1, 1) := by decide +kernel
theorem dX8_ringAt_5 : decode cX8_ringAt 5 = .ok (.aload_n 0, 1) := by decide +kernel
theorem dX8_ringAt_6 : decode cX8_ringAt 6 = .ok (.getfield 22, 3) := by decide +kernel
theorem dX8_ringAt_9 : decode cX8_ringAt 9 = .ok (.arraylength, 1) := by decide +kernel
theorem dX8_ringAt_10 : decode cX8_ringAt 10 = .ok (.if_icmp .ge 20, 3) := by decide +kernel
theorem dX8_ringAt_13 : decode cX8_ringAt 13 = .ok (.iload_n 1, 1) := by decide +kernel
theorem dX8_ringAt_14 : decode cX8_ringAt 14 = .ok (.aload_n 0, 1) := by decide +kernel
theorem dX8_ringAt_15 : decode cX8_ringAt 15 = .ok (.getfield 65, 3) := by decide +kernel
theorem dX8_ringAt_18 : decode cX8_ringAt 18 = .ok (.if_icmp .ge 12, 3) := by decide +kernel
theorem dX8_ringAt_21 : decode cX8_ringAt 21 = .ok (.aload_n 0, 1) := by decide +kernel
theorem dX8_ringAt_22 : decode cX8_ringAt 22 = .ok (.getfield 22, 3) := by decide +kernel
theorem dX8_ringAt_25 : decode cX8_ringAt 25 = .ok (.iload_n 1, 1) := by decide +kernel
theorem dX8_ringAt_26 : decode cX8_ringAt 26 = .ok (.iaload, 1) := by decide +kernel
theorem dX8_ringAt_27 : decode cX8_ringAt 27 = .ok (.goto 4, 3) := by decide +kernel
theorem dX8_ringAt_30 : decode cX8_ringAt 30 = .ok (.iconst 0, 1) := by decide +kernel
theorem dX8_ringAt_31 : decode cX8_ringAt 31 = .ok (.ireturn, 1) := by decide +kernel
theorem dX8_startOf_0 : decode cX8_startOf 0 = .ok (.iload_n 1, 1) := by decide +kernel
theorem dX8_startOf_1 : decode cX8_startOf 1 = .ok (.ifCond .lt 21, 3) := by decide +kernel
theorem dX8_startOf_4 : decode cX8_startOf 4 = .ok (.iload_n 1, 1) := by decide +kernel
theorem dX8_startOf_5 : decode cX8_startOf 5 = .ok (.aload_n 0, 1) := by decide +kernel
theorem dX8_startOf_6 : decode cX8_startOf 6 = .ok (.getfield 25, 3) := by decide +kernel
theorem dX8_startOf_9 : decode cX8_startOf 9 = .ok (.arraylength, 1) := by decide +kernel
theorem dX8_startOf_10 : decode cX8_startOf 10 = .ok (.if_icmp .ge 12, 3) := by decide +kernel
theorem dX8_startOf_13 : decode cX8_startOf 13 = .ok (.aload_n 0, 1) := by decide +kernel
theorem dX8_startOf_14 : decode cX8_startOf 14 = .ok (.getfield 25, 3) := by decide +kernel
theorem dX8_startOf_17 : decode cX8_startOf 17 = .ok (.iload_n 1, 1) := by decide +kernel
theorem dX8_startOf_18 : decode cX8_startOf 18 = .ok (.iaload, 1) := by decide +kernel
theorem dX8_startOf_19 : decode cX8_startOf 19 = .ok (.goto 7, 3) := by decide +kernel
theorem dX8_startOf_22 : decode cX8_startOf 22 = .ok (.aload_n 0, 1) := by decide +kernel
theorem dX8_startOf_23 : decode cX8_startOf 23 = .ok (.getfield 65, 3) := by decide +kernel
theorem dX8_startOf_26 : decode cX8_startOf 26 = .ok (.ireturn, 1) := by decide +kernel
theorem dX8_fewestOf_0 : decode cX8_fewestOf 0 = .ok (.iconst (-1), 1) := by decide +kernel
theorem dX8_fewestOf_1 : decode cX8_fewestOf 1 = .ok (.istore_n 3, 1) := by decide +kernel
theorem dX8_fewestOf_2 : decode cX8_fewestOf 2 = .ok (.bipush 13, 2) := by decide +kernel
theorem dX8_fewestOf_4 : decode cX8_fewestOf 4 = .ok (.istore 4, 2) := by decide +kernel
theorem dX8_fewestOf_6 : decode cX8_fewestOf 6 = .ok (.iconst 0, 1) := by decide +kernel
theorem dX8_fewestOf_7 : decode cX8_fewestOf 7 = .ok (.istore 5, 2) := by decide +kernel
theorem dX8_fewestOf_9 : decode cX8_fewestOf 9 = .ok (.iload 5, 2) := by decide +kernel
theorem dX8_fewestOf_11 : decode cX8_fewestOf 11 = .ok (.iload_n 1, 1) := by decide +kernel
theorem dX8_fewestOf_12 : decode cX8_fewestOf 12 = .ok (.if_icmp .gt 58, 3) := by decide +kernel
theorem dX8_fewestOf_15 : decode cX8_fewestOf 15 = .ok (.iload 5, 2) := by decide +kernel
theorem dX8_fewestOf_17 : decode cX8_fewestOf 17 = .ok (.iload_n 1, 1) := by decide +kernel
theorem dX8_fewestOf_18 : decode cX8_fewestOf 18 = .ok (.iconst (-1), 1) := by decide +kernel
theorem dX8_fewestOf_19 : decode cX8_fewestOf 19 = .ok (.ixor, 1) := by decide +kernel
theorem dX8_fewestOf_20 : decode cX8_fewestOf 20 = .ok (.iand, 1) := by decide +kernel
theorem dX8_fewestOf_21 : decode cX8_fewestOf 21 = .ok (.ifCond .ne 43, 3) := by decide +kernel
theorem dX8_fewestOf_24 : decode cX8_fewestOf 24 = .ok (.iload 5, 2) := by decide +kernel
theorem dX8_fewestOf_26 : decode cX8_fewestOf 26 = .ok (.iload_n 2, 1) := by decide +kernel
theorem dX8_fewestOf_27 : decode cX8_fewestOf 27 = .ok (.iand, 1) := by decide +kernel
theorem dX8_fewestOf_28 : decode cX8_fewestOf 28 = .ok (.ifCond .ne 36, 3) := by decide +kernel
theorem dX8_fewestOf_31 : decode cX8_fewestOf 31 = .ok (.iload 5, 2) := by decide +kernel
theorem dX8_fewestOf_33 : decode cX8_fewestOf 33 = .ok (.invokestatic 28, 3) := by decide +kernel
theorem dX8_fewestOf_36 : decode cX8_fewestOf 36 = .ok (.iload 4, 2) := by decide +kernel
theorem dX8_fewestOf_38 : decode cX8_fewestOf 38 = .ok (.if_icmp .ge 26, 3) := by decide +kernel
theorem dX8_fewestOf_41 : decode cX8_fewestOf 41 = .ok (.aload_n 0, 1) := by decide +kernel
theorem dX8_fewestOf_42 : decode cX8_fewestOf 42 = .ok (.iload_n 1, 1) := by decide +kernel
theorem dX8_fewestOf_43 : decode cX8_fewestOf 43 = .ok (.iload 5, 2) := by decide +kernel
theorem dX8_fewestOf_45 : decode cX8_fewestOf 45 = .ok (.iconst (-1), 1) := by decide +kernel
theorem dX8_fewestOf_46 : decode cX8_fewestOf 46 = .ok (.ixor, 1) := by decide +kernel
theorem dX8_fewestOf_47 : decode cX8_fewestOf 47 = .ok (.iand, 1) := by decide +kernel
theorem dX8_fewestOf_48 : decode cX8_fewestOf 48 = .ok (.invokevirtual 51, 3) := by decide +kernel
theorem dX8_fewestOf_51 : decode cX8_fewestOf 51 = .ok (.ifCond .eq 13, 3) := by decide +kernel
theorem dX8_fewestOf_54 : decode cX8_fewestOf 54 = .ok (.iload 5, 2) := by decide +kernel
theorem dX8_fewestOf_56 : decode cX8_fewestOf 56 = .ok (.istore_n 3, 1) := by decide +kernel
theorem dX8_fewestOf_57 : decode cX8_fewestOf 57 = .ok (.iload 5, 2) := by decide +kernel
theorem dX8_fewestOf_59 : decode cX8_fewestOf 59 = .ok (.invokestatic 28, 3) := by decide +kernel
theorem dX8_fewestOf_62 : decode cX8_fewestOf 62 = .ok (.istore 4, 2) := by decide +kernel
theorem dX8_fewestOf_64 : decode cX8_fewestOf 64 = .ok (.iinc 5 1, 3) := by decide +kernel
theorem dX8_fewestOf_67 : decode cX8_fewestOf 67 = .ok (.goto (-58), 3) := by decide +kernel
theorem dX8_fewestOf_70 : decode cX8_fewestOf 70 = .ok (.iload_n 3, 1) := by decide +kernel
theorem dX8_fewestOf_71 : decode cX8_fewestOf 71 = .ok (.ireturn, 1) := by decide +kernel
theorem dX8_shortestRing_0 : decode cX8_shortestRing 0 = .ok (.iconst 0, 1) := by decide +kernel
theorem dX8_shortestRing_1 : decode cX8_shortestRing 1 = .ok (.istore_n 1, 1) := by decide +kernel
theorem dX8_shortestRing_2 : decode cX8_shortestRing 2 = .ok (.iconst 0, 1) := by decide +kernel
theorem dX8_shortestRing_3 : decode cX8_shortestRing 3 = .ok (.istore_n 2, 1) := by decide +kernel
theorem dX8_shortestRing_4 : decode cX8_shortestRing 4 = .ok (.iload_n 2, 1) := by decide +kernel
theorem dX8_shortestRing_5 : decode cX8_shortestRing 5 = .ok (.aload_n 0, 1) := by decide +kernel
theorem dX8_shortestRing_6 : decode cX8_shortestRing 6 = .ok (.getfield 65, 3) := by decide +kernel
theorem dX8_shortestRing_9 : decode cX8_shortestRing 9 = .ok (.if_icmp .ge 47, 3) := by decide +kernel
theorem dX8_shortestRing_12 : decode cX8_shortestRing 12 = .ok (.aload_n 0, 1) := by decide +kernel
theorem dX8_shortestRing_13 : decode cX8_shortestRing 13 = .ok (.iload_n 2, 1) := by decide +kernel
theorem dX8_shortestRing_14 : decode cX8_shortestRing 14 = .ok (.invokevirtual 71, 3) := by decide +kernel
theorem dX8_shortestRing_17 : decode cX8_shortestRing 17 = .ok (.istore_n 3, 1) := by decide +kernel
theorem dX8_shortestRing_18 : decode cX8_shortestRing 18 = .ok (.iload_n 3, 1) := by decide +kernel
theorem dX8_shortestRing_19 : decode cX8_shortestRing 19 = .ok (.invokestatic 28, 3) := by decide +kernel
theorem dX8_shortestRing_22 : decode cX8_shortestRing 22 = .ok (.iload_n 1, 1) := by decide +kernel
theorem dX8_shortestRing_23 : decode cX8_shortestRing 23 = .ok (.invokestatic 28, 3) := by decide +kernel
theorem dX8_shortestRing_26 : decode cX8_shortestRing 26 = .ok (.isub, 1) := by decide +kernel
theorem dX8_shortestRing_27 : decode cX8_shortestRing 27 = .ok (.istore 4, 2) := by decide +kernel
theorem dX8_shortestRing_29 : decode cX8_shortestRing 29 = .ok (.iload_n 1, 1) := by decide +kernel
theorem dX8_shortestRing_30 : decode cX8_shortestRing 30 = .ok (.ifCond .eq 18, 3) := by decide +kernel
theorem dX8_shortestRing_33 : decode cX8_shortestRing 33 = .ok (.iload 4, 2) := by decide +kernel
theorem dX8_shortestRing_35 : decode cX8_shortestRing 35 = .ok (.ifCond .lt 13, 3) := by decide +kernel
theorem dX8_shortestRing_38 : decode cX8_shortestRing 38 = .ok (.iload 4, 2) := by decide +kernel
theorem dX8_shortestRing_40 : decode cX8_shortestRing 40 = .ok (.ifCond .ne 10, 3) := by decide +kernel
theorem dX8_shortestRing_43 : decode cX8_shortestRing 43 = .ok (.iload_n 3, 1) := by decide +kernel
theorem dX8_shortestRing_44 : decode cX8_shortestRing 44 = .ok (.iload_n 1, 1) := by decide +kernel
theorem dX8_shortestRing_45 : decode cX8_shortestRing 45 = .ok (.if_icmp .ge 5, 3) := by decide +kernel
theorem dX8_shortestRing_48 : decode cX8_shortestRing 48 = .ok (.iload_n 3, 1) := by decide +kernel
theorem dX8_shortestRing_49 : decode cX8_shortestRing 49 = .ok (.istore_n 1, 1) := by decide +kernel
theorem dX8_shortestRing_50 : decode cX8_shortestRing 50 = .ok (.iinc 2 1, 3) := by decide +kernel
theorem dX8_shortestRing_53 : decode cX8_shortestRing 53 = .ok (.goto (-49), 3) := by decide +kernel
theorem dX8_shortestRing_56 : decode cX8_shortestRing 56 = .ok (.iload_n 1, 1) := by decide +kernel
theorem dX8_shortestRing_57 : decode cX8_shortestRing 57 = .ok (.ireturn, 1) := by decide +kernel
theorem dX9_step_0 : decode cX9_step 0 = .ok (.aload_n 0, 1) := by decide +kernel
theorem dX9_step_1 : decode cX9_step 1 = .ok (.invokestatic 9, 3) := by decide +kernel
theorem dX9_step_4 : decode cX9_step 4 = .ok (.istore_n 1, 1) := by decide +kernel
theorem dX9_step_5 : decode cX9_step 5 = .ok (.iload_n 1, 1) := by decide +kernel
theorem dX9_step_6 : decode cX9_step 6 = .ok (.iconst (-1), 1) := by decide +kernel
theorem dX9_step_7 : decode cX9_step 7 = .ok (.if_icmp .eq 5, 3) := by decide +kernel
theorem dX9_step_10 : decode cX9_step 10 = .ok (.iload_n 1, 1) := by decide +kernel
theorem dX9_step_11 : decode cX9_step 11 = .ok (.ireturn, 1) := by decide +kernel
theorem dX9_step_12 : decode cX9_step 12 = .ok (.aload_n 0, 1) := by decide +kernel
theorem dX9_step_13 : decode cX9_step 13 = .ok (.invokestatic 15, 3) := by decide +kernel
theorem dX9_step_16 : decode cX9_step 16 = .ok (.istore_n 1, 1) := by decide +kernel
theorem dX9_step_17 : decode cX9_step 17 = .ok (.iload_n 1, 1) := by decide +kernel
theorem dX9_step_18 : decode cX9_step 18 = .ok (.iconst (-1), 1) := by decide +kernel
theorem dX9_step_19 : decode cX9_step 19 = .ok (.if_icmp .eq 8, 3) := by decide +kernel
theorem dX9_step_22 : decode cX9_step 22 = .ok (.bipush 16, 2) := by decide +kernel
theorem dX9_step_24 : decode cX9_step 24 = .ok (.iload_n 1, 1) := by decide +kernel
theorem dX9_step_25 : decode cX9_step 25 = .ok (.iadd, 1) := by decide +kernel
theorem dX9_step_26 : decode cX9_step 26 = .ok (.ireturn, 1) := by decide +kernel
theorem dX9_step_27 : decode cX9_step 27 = .ok (.aload_n 0, 1) := by decide +kernel
theorem dX9_step_28 : decode cX9_step 28 = .ok (.invokestatic 18, 3) := by decide +kernel
theorem dX9_step_31 : decode cX9_step 31 = .ok (.istore_n 1, 1) := by decide +kernel
theorem dX9_step_32 : decode cX9_step 32 = .ok (.iload_n 1, 1) := by decide +kernel
theorem dX9_step_33 : decode cX9_step 33 = .ok (.iconst (-1), 1) := by decide +kernel
theorem dX9_step_34 : decode cX9_step 34 = .ok (.if_icmp .eq 8, 3) := by decide +kernel
theorem dX9_step_37 : decode cX9_step 37 = .ok (.bipush 32, 2) := by decide +kernel
theorem dX9_step_39 : decode cX9_step 39 = .ok (.iload_n 1, 1) := by decide +kernel
theorem dX9_step_40 : decode cX9_step 40 = .ok (.iadd, 1) := by decide +kernel
theorem dX9_step_41 : decode cX9_step 41 = .ok (.ireturn, 1) := by decide +kernel
theorem dX9_step_42 : decode cX9_step 42 = .ok (.aload_n 0, 1) := by decide +kernel
theorem dX9_step_43 : decode cX9_step 43 = .ok (.invokestatic 21, 3) := by decide +kernel
theorem dX9_step_46 : decode cX9_step 46 = .ok (.istore_n 1, 1) := by decide +kernel
theorem dX9_step_47 : decode cX9_step 47 = .ok (.iload_n 1, 1) := by decide +kernel
theorem dX9_step_48 : decode cX9_step 48 = .ok (.iconst (-1), 1) := by decide +kernel
theorem dX9_step_49 : decode cX9_step 49 = .ok (.if_icmp .eq 10, 3) := by decide +kernel
theorem dX9_step_52 : decode cX9_step 52 = .ok (.bipush 48, 2) := by decide +kernel
theorem dX9_step_54 : decode cX9_step 54 = .ok (.iload_n 1, 1) := by decide +kernel
theorem dX9_step_55 : decode cX9_step 55 = .ok (.iadd, 1) := by decide +kernel
theorem dX9_step_56 : decode cX9_step 56 = .ok (.goto 4, 3) := by decide +kernel
theorem dX9_step_59 : decode cX9_step 59 = .ok (.iconst (-1), 1) := by decide +kernel
theorem dX9_step_60 : decode cX9_step 60 = .ok (.ireturn, 1) := by decide +kernel
theorem dX9_takeLooped_0 : decode cX9_takeLooped 0 = .ok (.iconst 0, 1) := by decide +kernel
theorem dX9_takeLooped_1 : decode cX9_takeLooped 1 = .ok (.istore_n 1, 1) := by decide +kernel
theorem dX9_takeLooped_2 : decode cX9_takeLooped 2 = .ok (.iload_n 1, 1) := by decide +kernel
theorem dX9_takeLooped_3 : decode cX9_takeLooped 3 = .ok (.bipush 12, 2) := by decide +kernel
theorem dX9_takeLooped_5 : decode cX9_takeLooped 5 = .ok (.if_icmp .ge 46, 3) := by decide +kernel
theorem dX9_takeLooped_8 : decode cX9_takeLooped 8 = .ok (.aload_n 0, 1) := by decide +kernel
theorem dX9_takeLooped_9 : decode cX9_takeLooped 9 = .ok (.iload_n 1, 1) := by decide +kernel
theorem dX9_takeLooped_10 : decode cX9_takeLooped 10 = .ok (.invokevirtual 24, 3) := by decide +kernel
theorem dX9_takeLooped_13 : decode cX9_takeLooped 13 = .ok (.ifCond .eq 32, 3) := by decide +kernel
theorem dX9_takeLooped_16 : decode cX9_takeLooped 16 = .ok (.aload_n 0, 1) := by decide +kernel
theorem dX9_takeLooped_17 : decode cX9_takeLooped 17 = .ok (.iload_n 1, 1) := by decide +kernel
theorem dX9_takeLooped_18 : decode cX9_takeLooped 18 = .ok (.iload_n 1, 1) := by decide +kernel
theorem dX9_takeLooped_19 : decode cX9_takeLooped 19 = .ok (.invokevirtual 30, 3) := by decide +kernel
theorem dX9_takeLooped_22 : decode cX9_takeLooped 22 = .ok (.ifCond .le 23, 3) := by decide +kernel
theorem dX9_takeLooped_25 : decode cX9_takeLooped 25 = .ok (.aload_n 0, 1) := by decide +kernel
theorem dX9_takeLooped_26 : decode cX9_takeLooped 26 = .ok (.iload_n 1, 1) := by decide +kernel
theorem dX9_takeLooped_27 : decode cX9_takeLooped 27 = .ok (.invokevirtual 34, 3) := by decide +kernel
theorem dX9_takeLooped_30 : decode cX9_takeLooped 30 = .ok (.pop, 1) := by decide +kernel
theorem dX9_takeLooped_31 : decode cX9_takeLooped 31 = .ok (.aload_n 0, 1) := by decide +kernel
theorem dX9_takeLooped_32 : decode cX9_takeLooped 32 = .ok (.dup, 1) := by decide +kernel
theorem dX9_takeLooped_33 : decode cX9_takeLooped 33 = .ok (.getfield 37, 3) := by decide +kernel
theorem dX9_takeLooped_36 : decode cX9_takeLooped 36 = .ok (.iconst 1, 1) := by decide +kernel
theorem dX9_takeLooped_37 : decode cX9_takeLooped 37 = .ok (.iload_n 1, 1) := by decide +kernel
theorem dX9_takeLooped_38 : decode cX9_takeLooped 38 = .ok (.ishl, 1) := by decide +kernel
theorem dX9_takeLooped_39 : decode cX9_takeLooped 39 = .ok (.ior, 1) := by decide +kernel
theorem dX9_takeLooped_40 : decode cX9_takeLooped 40 = .ok (.putfield 37, 3) := by decide +kernel
theorem dX9_takeLooped_43 : decode cX9_takeLooped 43 = .ok (.iload_n 1, 1) := by decide +kernel
theorem dX9_takeLooped_44 : decode cX9_takeLooped 44 = .ok (.ireturn, 1) := by decide +kernel
theorem dX9_takeLooped_45 : decode cX9_takeLooped 45 = .ok (.iinc 1 1, 3) := by decide +kernel
theorem dX9_takeLooped_48 : decode cX9_takeLooped 48 = .ok (.goto (-46), 3) := by decide +kernel
theorem dX9_takeLooped_51 : decode cX9_takeLooped 51 = .ok (.iconst (-1), 1) := by decide +kernel
theorem dX9_takeLooped_52 : decode cX9_takeLooped 52 = .ok (.ireturn, 1) := by decide +kernel
theorem dX9_removeTip_0 : decode cX9_removeTip 0 = .ok (.iconst 0, 1) := by decide +kernel
theorem dX9_removeTip_1 : decode cX9_removeTip 1 = .ok (.istore_n 1, 1) := by decide +kernel
theorem dX9_removeTip_2 : decode cX9_removeTip 2 = .ok (.iload_n 1, 1) := by decide +kernel
theorem dX9_removeTip_3 : decode cX9_removeTip 3 = .ok (.bipush 12, 2) := by decide +kernel
theorem dX9_removeTip_5 : decode cX9_removeTip 5 = .ok (.if_icmp .ge 38, 3) := by decide +kernel
theorem dX9_removeTip_8 : decode cX9_removeTip 8 = .ok (.aload_n 0, 1) := by decide +kernel
theorem dX9_removeTip_9 : decode cX9_removeTip 9 = .ok (.iload_n 1, 1) := by decide +kernel
theorem dX9_removeTip_10 : decode cX9_removeTip 10 = .ok (.invokevirtual 24, 3) := by decide +kernel
theorem dX9_removeTip_13 : decode cX9_removeTip 13 = .ok (.ifCond .eq 24, 3) := by decide +kernel
theorem dX9_removeTip_16 : decode cX9_removeTip 16 = .ok (.aload_n 0, 1) := by decide +kernel
theorem dX9_removeTip_17 : decode cX9_removeTip 17 = .ok (.iload_n 1, 1) := by decide +kernel
theorem dX9_removeTip_18 : decode cX9_removeTip 18 = .ok (.aload_n 0, 1) := by decide +kernel
theorem dX9_removeTip_19 : decode cX9_removeTip 19 = .ok (.getfield 41, 3) := by decide +kernel
theorem dX9_removeTip_22 : decode cX9_removeTip 22 = .ok (.invokevirtual 44, 3) := by decide +kernel
theorem dX9_removeTip_25 : decode cX9_removeTip 25 = .ok (.iconst 1, 1) := by decide +kernel
theorem dX9_removeTip_26 : decode cX9_removeTip 26 = .ok (.if_icmp .gt 11, 3) := by decide +kernel
theorem dX9_removeTip_29 : decode cX9_removeTip 29 = .ok (.aload_n 0, 1) := by decide +kernel
theorem dX9_removeTip_30 : decode cX9_removeTip 30 = .ok (.iload_n 1, 1) := by decide +kernel
theorem dX9_removeTip_31 : decode cX9_removeTip 31 = .ok (.invokevirtual 34, 3) := by decide +kernel
theorem dX9_removeTip_34 : decode cX9_removeTip 34 = .ok (.pop, 1) := by decide +kernel
theorem dX9_removeTip_35 : decode cX9_removeTip 35 = .ok (.iload_n 1, 1) := by decide +kernel
theorem dX9_removeTip_36 : decode cX9_removeTip 36 = .ok (.ireturn, 1) := by decide +kernel
theorem dX9_removeTip_37 : decode cX9_removeTip 37 = .ok (.iinc 1 1, 3) := by decide +kernel
theorem dX9_removeTip_40 : decode cX9_removeTip 40 = .ok (.goto (-38), 3) := by decide +kernel
theorem dX9_removeTip_43 : decode cX9_removeTip 43 = .ok (.iconst (-1), 1) := by decide +kernel
theorem dX9_removeTip_44 : decode cX9_removeTip 44 = .ok (.ireturn, 1) := by decide +kernel
theorem dX9_thinLines_0 : decode cX9_thinLines 0 = .ok (.iconst 0, 1) := by decide +kernel
theorem dX9_thinLines_1 : decode cX9_thinLines 1 = .ok (.istore_n 1, 1) := by decide +kernel
theorem dX9_thinLines_2 : decode cX9_thinLines 2 = .ok (.iload_n 1, 1) := by decide +kernel
theorem dX9_thinLines_3 : decode cX9_thinLines 3 = .ok (.bipush 12, 2) := by decide +kernel
theorem dX9_thinLines_5 : decode cX9_thinLines 5 = .ok (.if_icmp .ge 44, 3) := by decide +kernel
theorem dX9_thinLines_8 : decode cX9_thinLines 8 = .ok (.iload_n 1, 1) := by decide +kernel
theorem dX9_thinLines_9 : decode cX9_thinLines 9 = .ok (.iconst 1, 1) := by decide +kernel
theorem dX9_thinLines_10 : decode cX9_thinLines 10 = .ok (.iadd, 1) := by decide +kernel
theorem dX9_thinLines_11 : decode cX9_thinLines 11 = .ok (.istore_n 2, 1) := by decide +kernel
theorem dX9_thinLines_12 : decode cX9_thinLines 12 = .ok (.iload_n 2, 1) := by decide +kernel
theorem dX9_thinLines_13 : decode cX9_thinLines 13 = .ok (.bipush 12, 2) := by decide +kernel
theorem dX9_thinLines_15 : decode cX9_thinLines 15 = .ok (.if_icmp .ge 28, 3) := by decide +kernel
theorem dX9_thinLines_18 : decode cX9_thinLines 18 = .ok (.aload_n 0, 1) := by decide +kernel
theorem dX9_thinLines_19 : decode cX9_thinLines 19 = .ok (.iload_n 1, 1) := by decide +kernel
theorem dX9_thinLines_20 : decode cX9_thinLines 20 = .ok (.iload_n 2, 1) := by decide +kernel
theorem dX9_thinLines_21 : decode cX9_thinLines 21 = .ok (.invokevirtual 30, 3) := by decide +kernel
theorem dX9_thinLines_24 : decode cX9_thinLines 24 = .ok (.iconst 2, 1) := by decide +kernel
theorem dX9_thinLines_25 : decode cX9_thinLines 25 = .ok (.if_icmp .le 12, 3) := by decide +kernel
theorem dX9_thinLines_28 : decode cX9_thinLines 28 = .ok (.aload_n 0, 1) := by decide +kernel
theorem dX9_thinLines_29 : decode cX9_thinLines 29 = .ok (.iload_n 1, 1) := by decide +kernel
theorem dX9_thinLines_30 : decode cX9_thinLines 30 = .ok (.iload_n 2, 1) := by decide +kernel
theorem dX9_thinLines_31 : decode cX9_thinLines 31 = .ok (.iconst 2, 1) := by decide +kernel
theorem dX9_thinLines_32 : decode cX9_thinLines 32 = .ok (.invokevirtual 47, 3) := by decide +kernel
theorem dX9_thinLines_35 : decode cX9_thinLines 35 = .ok (.iload_n 1, 1) := by decide +kernel
theorem dX9_thinLines_36 : decode cX9_thinLines 36 = .ok (.ireturn, 1) := by decide +kernel
theorem dX9_thinLines_37 : decode cX9_thinLines 37 = .ok (.iinc 2 1, 3) := by decide +kernel
theorem dX9_thinLines_40 : decode cX9_thinLines 40 = .ok (.goto (-28), 3) := by decide +kernel
theorem dX9_thinLines_43 : decode cX9_thinLines 43 = .ok (.iinc 1 1, 3) := by decide +kernel
theorem dX9_thinLines_46 : decode cX9_thinLines 46 = .ok (.goto (-44), 3) := by decide +kernel
theorem dX9_thinLines_49 : decode cX9_thinLines 49 = .ok (.iconst (-1), 1) := by decide +kernel
theorem dX9_thinLines_50 : decode cX9_thinLines 50 = .ok (.ireturn, 1) := by decide +kernel
theorem dX9_passBy_0 : decode cX9_passBy 0 = .ok (.iconst 0, 1) := by decide +kernel
theorem dX9_passBy_1 : decode cX9_passBy 1 = .ok (.istore_n 1, 1) := by decide +kernel
theorem dX9_passBy_2 : decode cX9_passBy 2 = .ok (.iload_n 1, 1) := by decide +kernel
theorem dX9_passBy_3 : decode cX9_passBy 3 = .ok (.bipush 12, 2) := by decide +kernel
theorem dX9_passBy_5 : decode cX9_passBy 5 = .ok (.if_icmp .ge 99, 3) := by decide +kernel
theorem dX9_passBy_8 : decode cX9_passBy 8 = .ok (.aload_n 0, 1) := by decide +kernel
theorem dX9_passBy_9 : decode cX9_passBy 9 = .ok (.iload_n 1, 1) := by decide +kernel
theorem dX9_passBy_10 : decode cX9_passBy 10 = .ok (.invokevirtual 24, 3) := by decide +kernel
theorem dX9_passBy_13 : decode cX9_passBy 13 = .ok (.ifCond .eq 85, 3) := by decide +kernel
theorem dX9_passBy_16 : decode cX9_passBy 16 = .ok (.aload_n 0, 1) := by decide +kernel
theorem dX9_passBy_17 : decode cX9_passBy 17 = .ok (.iload_n 1, 1) := by decide +kernel
theorem dX9_passBy_18 : decode cX9_passBy 18 = .ok (.aload_n 0, 1) := by decide +kernel
theorem dX9_passBy_19 : decode cX9_passBy 19 = .ok (.getfield 41, 3) := by decide +kernel
theorem dX9_passBy_22 : decode cX9_passBy 22 = .ok (.invokevirtual 44, 3) := by decide +kernel
theorem dX9_passBy_25 : decode cX9_passBy 25 = .ok (.iconst 2, 1) := by decide +kernel
theorem dX9_passBy_26 : decode cX9_passBy 26 = .ok (.if_icmp .ne 72, 3) := by decide +kernel
theorem dX9_passBy_29 : decode cX9_passBy 29 = .ok (.aload_n 0, 1) := by decide +kernel
theorem dX9_passBy_30 : decode cX9_passBy 30 = .ok (.iload_n 1, 1) := by decide +kernel
theorem dX9_passBy_31 : decode cX9_passBy 31 = .ok (.iconst 1, 1) := by decide +kernel
theorem dX9_passBy_32 : decode cX9_passBy 32 = .ok (.invokevirtual 51, 3) := by decide +kernel
theorem dX9_passBy_35 : decode cX9_passBy 35 = .ok (.istore_n 2, 1) := by decide +kernel
theorem dX9_passBy_36 : decode cX9_passBy 36 = .ok (.iload_n 2, 1) := by decide +kernel
theorem dX9_passBy_37 : decode cX9_passBy 37 = .ok (.invokestatic 54, 3) := by decide +kernel
theorem dX9_passBy_40 : decode cX9_passBy 40 = .ok (.istore_n 3, 1) := by decide +kernel
theorem dX9_passBy_41 : decode cX9_passBy 41 = .ok (.iload_n 2, 1) := by decide +kernel
theorem dX9_passBy_42 : decode cX9_passBy 42 = .ok (.iload_n 2, 1) := by decide +kernel
theorem dX9_passBy_43 : decode cX9_passBy 43 = .ok (.iconst 1, 1) := by decide +kernel
theorem dX9_passBy_44 : decode cX9_passBy 44 = .ok (.isub, 1) := by decide +kernel
theorem dX9_passBy_45 : decode cX9_passBy 45 = .ok (.iand, 1) := by decide +kernel
theorem dX9_passBy_46 : decode cX9_passBy 46 = .ok (.invokestatic 54, 3) := by decide +kernel
theorem dX9_passBy_49 : decode cX9_passBy 49 = .ok (.istore 4, 2) := by decide +kernel
theorem dX9_passBy_51 : decode cX9_passBy 51 = .ok (.iload 4, 2) := by decide +kernel
theorem dX9_passBy_53 : decode cX9_passBy 53 = .ok (.iconst (-1), 1) := by decide +kernel
theorem dX9_passBy_54 : decode cX9_passBy 54 = .ok (.if_icmp .ne 6, 3) := by decide +kernel
theorem dX9_passBy_57 : decode cX9_passBy 57 = .ok (.iload_n 3, 1) := by decide +kernel
theorem dX9_passBy_58 : decode cX9_passBy 58 = .ok (.istore 4, 2) := by decide +kernel
theorem dX9_passBy_60 : decode cX9_passBy 60 = .ok (.aload_n 0, 1) := by decide +kernel
theorem dX9_passBy_61 : decode cX9_passBy 61 = .ok (.iload_n 1, 1) := by decide +kernel
theorem dX9_passBy_62 : decode cX9_passBy 62 = .ok (.invokevirtual 60, 3) := by decide +kernel
theorem dX9_passBy_65 : decode cX9_passBy 65 = .ok (.aload_n 0, 1) := by decide +kernel
theorem dX9_passBy_66 : decode cX9_passBy 66 = .ok (.iload_n 3, 1) := by decide +kernel
theorem dX9_passBy_67 : decode cX9_passBy 67 = .ok (.invokevirtual 60, 3) := by decide +kernel
theorem dX9_passBy_70 : decode cX9_passBy 70 = .ok (.aload_n 0, 1) := by decide +kernel
theorem dX9_passBy_71 : decode cX9_passBy 71 = .ok (.iload 4, 2) := by decide +kernel
theorem dX9_passBy_73 : decode cX9_passBy 73 = .ok (.invokevirtual 60, 3) := by decide +kernel
theorem dX9_passBy_76 : decode cX9_passBy 76 = .ok (.invokestatic 63, 3) := by decide +kernel
theorem dX9_passBy_79 : decode cX9_passBy 79 = .ok (.if_icmp .lt 19, 3) := by decide +kernel
theorem dX9_passBy_82 : decode cX9_passBy 82 = .ok (.aload_n 0, 1) := by decide +kernel
theorem dX9_passBy_83 : decode cX9_passBy 83 = .ok (.iload_n 1, 1) := by decide +kernel
theorem dX9_passBy_84 : decode cX9_passBy 84 = .ok (.invokevirtual 34, 3) := by decide +kernel
theorem dX9_passBy_87 : decode cX9_passBy 87 = .ok (.pop, 1) := by decide +kernel
theorem dX9_passBy_88 : decode cX9_passBy 88 = .ok (.aload_n 0, 1) := by decide +kernel
theorem dX9_passBy_89 : decode cX9_passBy 89 = .ok (.iload_n 3, 1) := by decide +kernel
theorem dX9_passBy_90 : decode cX9_passBy 90 = .ok (.iload 4, 2) := by decide +kernel
theorem dX9_passBy_92 : decode cX9_passBy 92 = .ok (.invokevirtual 68, 3) := by decide +kernel
theorem dX9_passBy_95 : decode cX9_passBy 95 = .ok (.pop, 1) := by decide +kernel
theorem dX9_passBy_96 : decode cX9_passBy 96 = .ok (.iload_n 1, 1) := by decide +kernel
theorem dX9_passBy_97 : decode cX9_passBy 97 = .ok (.ireturn, 1) := by decide +kernel
theorem dX9_passBy_98 : decode cX9_passBy 98 = .ok (.iinc 1 1, 3) := by decide +kernel
theorem dX9_passBy_101 : decode cX9_passBy 101 = .ok (.goto (-99), 3) := by decide +kernel
theorem dX9_passBy_104 : decode cX9_passBy 104 = .ok (.iconst (-1), 1) := by decide +kernel
theorem dX9_passBy_105 : decode cX9_passBy 105 = .ok (.ireturn, 1) := by decide +kernel
theorem dX10_init_0 : decode cX10_init 0 = .ok (.aload_n 0, 1) := by decide +kernel
theorem dX10_init_1 : decode cX10_init 1 = .ok (.invokespecial 1, 3) := by decide +kernel
theorem dX10_init_4 : decode cX10_init 4 = .ok (.aload_n 0, 1) := by decide +kernel
theorem dX10_init_5 : decode cX10_init 5 = .ok (.sipush 640, 3) := by decide +kernel
theorem dX10_init_8 : decode cX10_init 8 = .ok (.newarray .int, 2) := by decide +kernel
theorem dX10_init_10 : decode cX10_init 10 = .ok (.putfield 9, 3) := by decide +kernel
theorem dX10_init_13 : decode cX10_init 13 = .ok (.return_, 1) := by decide +kernel
theorem dX10_hasRoom_0 : decode cX10_hasRoom 0 = .ok (.aload_n 0, 1) := by decide +kernel
theorem dX10_hasRoom_1 : decode cX10_hasRoom 1 = .ok (.getfield 13, 3) := by decide +kernel
theorem dX10_hasRoom_4 : decode cX10_hasRoom 4 = .ok (.sipush 620, 3) := by decide +kernel
theorem dX10_hasRoom_7 : decode cX10_hasRoom 7 = .ok (.if_icmp .gt 7, 3) := by decide +kernel
theorem dX10_hasRoom_10 : decode cX10_hasRoom 10 = .ok (.iconst 1, 1) := by decide +kernel
theorem dX10_hasRoom_11 : decode cX10_hasRoom 11 = .ok (.goto 4, 3) := by decide +kernel
theorem dX10_hasRoom_14 : decode cX10_hasRoom 14 = .ok (.iconst 0, 1) := by decide +kernel
theorem dX10_hasRoom_15 : decode cX10_hasRoom 15 = .ok (.ireturn, 1) := by decide +kernel
theorem dX10_append_0 : decode cX10_append 0 = .ok (.bipush 24, 2) := by decide +kernel
theorem dX10_append_2 : decode cX10_append 2 = .ok (.istore_n 2, 1) := by decide +kernel
theorem dX10_append_3 : decode cX10_append 3 = .ok (.iload_n 2, 1) := by decide +kernel
theorem dX10_append_4 : decode cX10_append 4 = .ok (.ifCond .lt 54, 3) := by decide +kernel
theorem dX10_append_7 : decode cX10_append 7 = .ok (.aload_n 0, 1) := by decide +kernel
theorem dX10_append_8 : decode cX10_append 8 = .ok (.getfield 13, 3) := by decide +kernel
theorem dX10_append_11 : decode cX10_append 11 = .ok (.ifCond .lt 41, 3) := by decide +kernel
theorem dX10_append_14 : decode cX10_append 14 = .ok (.aload_n 0, 1) := by decide +kernel
theorem dX10_append_15 : decode cX10_append 15 = .ok (.getfield 13, 3) := by decide +kernel
theorem dX10_append_18 : decode cX10_append 18 = .ok (.aload_n 0, 1) := by decide +kernel
theorem dX10_append_19 : decode cX10_append 19 = .ok (.getfield 9, 3) := by decide +kernel
theorem dX10_append_22 : decode cX10_append 22 = .ok (.arraylength, 1) := by decide +kernel
theorem dX10_append_23 : decode cX10_append 23 = .ok (.if_icmp .ge 29, 3) := by decide +kernel
theorem dX10_append_26 : decode cX10_append 26 = .ok (.aload_n 0, 1) := by decide +kernel
theorem dX10_append_27 : decode cX10_append 27 = .ok (.getfield 9, 3) := by decide +kernel
theorem dX10_append_30 : decode cX10_append 30 = .ok (.aload_n 0, 1) := by decide +kernel
theorem dX10_append_31 : decode cX10_append 31 = .ok (.getfield 13, 3) := by decide +kernel
theorem dX10_append_34 : decode cX10_append 34 = .ok (.iload_n 1, 1) := by decide +kernel
theorem dX10_append_35 : decode cX10_append 35 = .ok (.iload_n 2, 1) := by decide +kernel
theorem dX10_append_36 : decode cX10_append 36 = .ok (.iushr, 1) := by decide +kernel
theorem dX10_append_37 : decode cX10_append 37 = .ok (.sipush 255, 3) := by decide +kernel
theorem dX10_append_40 : decode cX10_append 40 = .ok (.iand, 1) := by decide +kernel
theorem dX10_append_41 : decode cX10_append 41 = .ok (.iastore, 1) := by decide +kernel
theorem dX10_append_42 : decode cX10_append 42 = .ok (.aload_n 0, 1) := by decide +kernel
theorem dX10_append_43 : decode cX10_append 43 = .ok (.dup, 1) := by decide +kernel
theorem dX10_append_44 : decode cX10_append 44 = .ok (.getfield 13, 3) := by decide +kernel
theorem dX10_append_47 : decode cX10_append 47 = .ok (.iconst 1, 1) := by decide +kernel
theorem dX10_append_48 : decode cX10_append 48 = .ok (.iadd, 1) := by decide +kernel
theorem dX10_append_49 : decode cX10_append 49 = .ok (.putfield 13, 3) := by decide +kernel
theorem dX10_append_52 : decode cX10_append 52 = .ok (.iinc 2 (-8), 3) := by decide +kernel
theorem dX10_append_55 : decode cX10_append 55 = .ok (.goto (-52), 3) := by decide +kernel
theorem dX10_append_58 : decode cX10_append 58 = .ok (.return_, 1) := by decide +kernel
theorem dX10_byteAt_0 : decode cX10_byteAt 0 = .ok (.iload_n 1, 1) := by decide +kernel
theorem dX10_byteAt_1 : decode cX10_byteAt 1 = .ok (.ifCond .lt 29, 3) := by decide +kernel
theorem dX10_byteAt_4 : decode cX10_byteAt 4 = .ok (.iload_n 1, 1) := by decide +kernel
theorem dX10_byteAt_5 : decode cX10_byteAt 5 = .ok (.aload_n 0, 1) := by decide +kernel
theorem dX10_byteAt_6 : decode cX10_byteAt 6 = .ok (.getfield 13, 3) := by decide +kernel
theorem dX10_byteAt_9 : decode cX10_byteAt 9 = .ok (.if_icmp .ge 21, 3) := by decide +kernel
theorem dX10_byteAt_12 : decode cX10_byteAt 12 = .ok (.iload_n 1, 1) := by decide +kernel
theorem dX10_byteAt_13 : decode cX10_byteAt 13 = .ok (.aload_n 0, 1) := by decide +kernel
theorem dX10_byteAt_14 : decode cX10_byteAt 14 = .ok (.getfield 9, 3) := by decide +kernel
theorem dX10_byteAt_17 : decode cX10_byteAt 17 = .ok (.arraylength, 1) := by decide +kernel
theorem dX10_byteAt_18 : decode cX10_byteAt 18 = .ok (.if_icmp .ge 12, 3) := by decide +kernel
theorem dX10_byteAt_21 : decode cX10_byteAt 21 = .ok (.aload_n 0, 1) := by decide +kernel
theorem dX10_byteAt_22 : decode cX10_byteAt 22 = .ok (.getfield 9, 3) := by decide +kernel
theorem dX10_byteAt_25 : decode cX10_byteAt 25 = .ok (.iload_n 1, 1) := by decide +kernel
theorem dX10_byteAt_26 : decode cX10_byteAt 26 = .ok (.iaload, 1) := by decide +kernel
theorem dX10_byteAt_27 : decode cX10_byteAt 27 = .ok (.goto 4, 3) := by decide +kernel
theorem dX10_byteAt_30 : decode cX10_byteAt 30 = .ok (.iconst 0, 1) := by decide +kernel
theorem dX10_byteAt_31 : decode cX10_byteAt 31 = .ok (.ireturn, 1) := by decide +kernel
theorem dX11_init_0 : decode cX11_init 0 = .ok (.aload_n 0, 1) := by decide +kernel
theorem dX11_init_1 : decode cX11_init 1 = .ok (.invokespecial 3, 3) := by decide +kernel
theorem dX11_init_4 : decode cX11_init 4 = .ok (.aload_n 0, 1) := by decide +kernel
theorem dX11_init_5 : decode cX11_init 5 = .ok (.new 9, 3) := by decide +kernel
theorem dX11_init_8 : decode cX11_init 8 = .ok (.dup, 1) := by decide +kernel
theorem dX11_init_9 : decode cX11_init 9 = .ok (.invokespecial 11, 3) := by decide +kernel
theorem dX11_init_12 : decode cX11_init 12 = .ok (.putfield 12, 3) := by decide +kernel
theorem dX11_init_15 : decode cX11_init 15 = .ok (.aload_n 0, 1) := by decide +kernel
theorem dX11_init_16 : decode cX11_init 16 = .ok (.new 16, 3) := by decide +kernel
theorem dX11_init_19 : decode cX11_init 19 = .ok (.dup, 1) := by decide +kernel
theorem dX11_init_20 : decode cX11_init 20 = .ok (.invokespecial 18, 3) := by decide +kernel
theorem dX11_init_23 : decode cX11_init 23 = .ok (.putfield 19, 3) := by decide +kernel
theorem dX11_init_26 : decode cX11_init 26 = .ok (.aload_n 0, 1) := by decide +kernel
theorem dX11_init_27 : decode cX11_init 27 = .ok (.new 23, 3) := by decide +kernel
theorem dX11_init_30 : decode cX11_init 30 = .ok (.dup, 1) := by decide +kernel
theorem dX11_init_31 : decode cX11_init 31 = .ok (.invokespecial 25, 3) := by decide +kernel
theorem dX11_init_34 : decode cX11_init 34 = .ok (.putfield 26, 3) := by decide +kernel
theorem dX11_init_37 : decode cX11_init 37 = .ok (.aload_n 0, 1) := by decide +kernel
theorem dX11_init_38 : decode cX11_init 38 = .ok (.new 30, 3) := by decide +kernel
theorem dX11_init_41 : decode cX11_init 41 = .ok (.dup, 1) := by decide +kernel
theorem dX11_init_42 : decode cX11_init 42 = .ok (.invokespecial 32, 3) := by decide +kernel
theorem dX11_init_45 : decode cX11_init 45 = .ok (.putfield 33, 3) := by decide +kernel
theorem dX11_init_48 : decode cX11_init 48 = .ok (.aload_n 0, 1) := by decide +kernel
theorem dX11_init_49 : decode cX11_init 49 = .ok (.new 37, 3) := by decide +kernel
theorem dX11_init_52 : decode cX11_init 52 = .ok (.dup, 1) := by decide +kernel
theorem dX11_init_53 : decode cX11_init 53 = .ok (.invokespecial 39, 3) := by decide +kernel
theorem dX11_init_56 : decode cX11_init 56 = .ok (.putfield 40, 3) := by decide +kernel
theorem dX11_init_59 : decode cX11_init 59 = .ok (.aload_n 0, 1) := by decide +kernel
theorem dX11_init_60 : decode cX11_init 60 = .ok (.new 37, 3) := by decide +kernel
theorem dX11_init_63 : decode cX11_init 63 = .ok (.dup, 1) := by decide +kernel
theorem dX11_init_64 : decode cX11_init 64 = .ok (.invokespecial 39, 3) := by decide +kernel
theorem dX11_init_67 : decode cX11_init 67 = .ok (.putfield 44, 3) := by decide +kernel
theorem dX11_init_70 : decode cX11_init 70 = .ok (.aload_n 0, 1) := by decide +kernel
theorem dX11_init_71 : decode cX11_init 71 = .ok (.new 47, 3) := by decide +kernel
theorem dX11_init_74 : decode cX11_init 74 = .ok (.dup, 1) := by decide +kernel
theorem dX11_init_75 : decode cX11_init 75 = .ok (.invokespecial 49, 3) := by decide +kernel
theorem dX11_init_78 : decode cX11_init 78 = .ok (.putfield 50, 3) := by decide +kernel
theorem dX11_init_81 : decode cX11_init 81 = .ok (.aload_n 0, 1) := by decide +kernel
theorem dX11_init_82 : decode cX11_init 82 = .ok (.new 54, 3) := by decide +kernel
theorem dX11_init_85 : decode cX11_init 85 = .ok (.dup, 1) := by decide +kernel
theorem dX11_init_86 : decode cX11_init 86 = .ok (.invokespecial 56, 3) := by decide +kernel
theorem dX11_init_89 : decode cX11_init 89 = .ok (.putfield 57, 3) := by decide +kernel
theorem dX11_init_92 : decode cX11_init 92 = .ok (.aload_n 0, 1) := by decide +kernel
theorem dX11_init_93 : decode cX11_init 93 = .ok (.new 61, 3) := by decide +kernel
theorem dX11_init_96 : decode cX11_init 96 = .ok (.dup, 1) := by decide +kernel
theorem dX11_init_97 : decode cX11_init 97 = .ok (.invokespecial 63, 3) := by decide +kernel
theorem dX11_init_100 : decode cX11_init 100 = .ok (.putfield 64, 3) := by decide +kernel
theorem dX11_init_103 : decode cX11_init 103 = .ok (.aload_n 0, 1) := by decide +kernel
theorem dX11_init_104 : decode cX11_init 104 = .ok (.new 68, 3) := by decide +kernel
theorem dX11_init_107 : decode cX11_init 107 = .ok (.dup, 1) := by decide +kernel
theorem dX11_init_108 : decode cX11_init 108 = .ok (.invokespecial 70, 3) := by decide +kernel
theorem dX11_init_111 : decode cX11_init 111 = .ok (.putfield 71, 3) := by decide +kernel
theorem dX11_init_114 : decode cX11_init 114 = .ok (.aload_n 0, 1) := by decide +kernel
theorem dX11_init_115 : decode cX11_init 115 = .ok (.iconst 1, 1) := by decide +kernel
theorem dX11_init_116 : decode cX11_init 116 = .ok (.putfield 75, 3) := by decide +kernel
theorem dX11_init_119 : decode cX11_init 119 = .ok (.aload_n 0, 1) := by decide +kernel
theorem dX11_init_120 : decode cX11_init 120 = .ok (.iconst 1, 1) := by decide +kernel
theorem dX11_init_121 : decode cX11_init 121 = .ok (.putfield 79, 3) := by decide +kernel
theorem dX11_init_124 : decode cX11_init 124 = .ok (.aload_n 0, 1) := by decide +kernel
theorem dX11_init_125 : decode cX11_init 125 = .ok (.iconst 1, 1) := by decide +kernel
theorem dX11_init_126 : decode cX11_init 126 = .ok (.putfield 82, 3) := by decide +kernel
theorem dX11_init_129 : decode cX11_init 129 = .ok (.return_, 1) := by decide +kernel
theorem dX11_feed_0 : decode cX11_feed 0 = .ok (.aload_n 0, 1) := by decide +kernel
theorem dX11_feed_1 : decode cX11_feed 1 = .ok (.getfield 12, 3) := by decide +kernel
theorem dX11_feed_4 : decode cX11_feed 4 = .ok (.invokevirtual 85, 3) := by decide +kernel
theorem dX11_feed_7 : decode cX11_feed 7 = .ok (.ifCond .ne 5, 3) := by decide +kernel
theorem dX11_feed_10 : decode cX11_feed 10 = .ok (.iconst (-1), 1) := by decide +kernel
theorem dX11_feed_11 : decode cX11_feed 11 = .ok (.ireturn, 1) := by decide +kernel
theorem dX11_feed_12 : decode cX11_feed 12 = .ok (.aload_n 0, 1) := by decide +kernel
theorem dX11_feed_13 : decode cX11_feed 13 = .ok (.getfield 12, 3) := by decide +kernel
theorem dX11_feed_16 : decode cX11_feed 16 = .ok (.iload_n 1, 1) := by decide +kernel
theorem dX11_feed_17 : decode cX11_feed 17 = .ok (.invokevirtual 89, 3) := by decide +kernel
theorem dX11_feed_20 : decode cX11_feed 20 = .ok (.aload_n 0, 1) := by decide +kernel
theorem dX11_feed_21 : decode cX11_feed 21 = .ok (.getfield 12, 3) := by decide +kernel
theorem dX11_feed_24 : decode cX11_feed 24 = .ok (.iload_n 2, 1) := by decide +kernel
theorem dX11_feed_25 : decode cX11_feed 25 = .ok (.invokevirtual 89, 3) := by decide +kernel
theorem dX11_feed_28 : decode cX11_feed 28 = .ok (.aload_n 0, 1) := by decide +kernel
theorem dX11_feed_29 : decode cX11_feed 29 = .ok (.getfield 12, 3) := by decide +kernel
theorem dX11_feed_32 : decode cX11_feed 32 = .ok (.iload_n 3, 1) := by decide +kernel
theorem dX11_feed_33 : decode cX11_feed 33 = .ok (.invokevirtual 89, 3) := by decide +kernel
theorem dX11_feed_36 : decode cX11_feed 36 = .ok (.aload_n 0, 1) := by decide +kernel
theorem dX11_feed_37 : decode cX11_feed 37 = .ok (.getfield 12, 3) := by decide +kernel
theorem dX11_feed_40 : decode cX11_feed 40 = .ok (.iload 4, 2) := by decide +kernel
theorem dX11_feed_42 : decode cX11_feed 42 = .ok (.invokevirtual 89, 3) := by decide +kernel
theorem dX11_feed_45 : decode cX11_feed 45 = .ok (.aload_n 0, 1) := by decide +kernel
theorem dX11_feed_46 : decode cX11_feed 46 = .ok (.getfield 12, 3) := by decide +kernel
theorem dX11_feed_49 : decode cX11_feed 49 = .ok (.iload 5, 2) := by decide +kernel
theorem dX11_feed_51 : decode cX11_feed 51 = .ok (.invokevirtual 89, 3) := by decide +kernel
theorem dX11_feed_54 : decode cX11_feed 54 = .ok (.aload_n 0, 1) := by decide +kernel
theorem dX11_feed_55 : decode cX11_feed 55 = .ok (.getfield 12, 3) := by decide +kernel
theorem dX11_feed_58 : decode cX11_feed 58 = .ok (.getfield 93, 3) := by decide +kernel
theorem dX11_feed_61 : decode cX11_feed 61 = .ok (.ireturn, 1) := by decide +kernel
theorem dX11_end_0 : decode cX11_end 0 = .ok (.iload_n 1, 1) := by decide +kernel
theorem dX11_end_1 : decode cX11_end 1 = .ok (.ifCond .lt 14, 3) := by decide +kernel
theorem dX11_end_4 : decode cX11_end 4 = .ok (.iload_n 1, 1) := by decide +kernel
theorem dX11_end_5 : decode cX11_end 5 = .ok (.aload_n 0, 1) := by decide +kernel
theorem dX11_end_6 : decode cX11_end 6 = .ok (.getfield 12, 3) := by decide +kernel
theorem dX11_end_9 : decode cX11_end 9 = .ok (.getfield 93, 3) := by decide +kernel
theorem dX11_end_12 : decode cX11_end 12 = .ok (.if_icmp .le 5, 3) := by decide +kernel
theorem dX11_end_15 : decode cX11_end 15 = .ok (.iconst 0, 1) := by decide +kernel
theorem dX11_end_16 : decode cX11_end 16 = .ok (.ireturn, 1) := by decide +kernel
theorem dX11_end_17 : decode cX11_end 17 = .ok (.aload_n 0, 1) := by decide +kernel
theorem dX11_end_18 : decode cX11_end 18 = .ok (.getfield 12, 3) := by decide +kernel
theorem dX11_end_21 : decode cX11_end 21 = .ok (.iload_n 1, 1) := by decide +kernel
theorem dX11_end_22 : decode cX11_end 22 = .ok (.putfield 93, 3) := by decide +kernel
theorem dX11_end_25 : decode cX11_end 25 = .ok (.iconst 1, 1) := by decide +kernel
theorem dX11_end_26 : decode cX11_end 26 = .ok (.ireturn, 1) := by decide +kernel
theorem dX11_net_0 : decode cX11_net 0 = .ok (.aload_n 0, 1) := by decide +kernel
theorem dX11_net_1 : decode cX11_net 1 = .ok (.aload_n 0, 1) := by decide +kernel
theorem dX11_net_2 : decode cX11_net 2 = .ok (.getfield 19, 3) := by decide +kernel
theorem dX11_net_5 : decode cX11_net 5 = .ok (.aload_n 0, 1) := by decide +kernel
theorem dX11_net_6 : decode cX11_net 6 = .ok (.getfield 12, 3) := by decide +kernel
theorem dX11_net_9 : decode cX11_net 9 = .ok (.invokevirtual 97, 3) := by decide +kernel
theorem dX11_net_12 : decode cX11_net 12 = .ok (.putfield 101, 3) := by decide +kernel
theorem dX11_net_15 : decode cX11_net 15 = .ok (.aload_n 0, 1) := by decide +kernel
theorem dX11_net_16 : decode cX11_net 16 = .ok (.getfield 12, 3) := by decide +kernel
theorem dX11_net_19 : decode cX11_net 19 = .ok (.iconst 0, 1) := by decide +kernel
theorem dX11_net_20 : decode cX11_net 20 = .ok (.putfield 93, 3) := by decide +kernel
theorem dX11_net_23 : decode cX11_net 23 = .ok (.aload_n 0, 1) := by decide +kernel
theorem dX11_net_24 : decode cX11_net 24 = .ok (.getfield 101, 3) := by decide +kernel
theorem dX11_net_27 : decode cX11_net 27 = .ok (.ifCond .eq 13, 3) := by decide +kernel
theorem dX11_net_30 : decode cX11_net 30 = .ok (.iconst (-1), 1) := by decide +kernel
theorem dX11_net_31 : decode cX11_net 31 = .ok (.aload_n 0, 1) := by decide +kernel
theorem dX11_net_32 : decode cX11_net 32 = .ok (.getfield 19, 3) := by decide +kernel
theorem dX11_net_35 : decode cX11_net 35 = .ok (.getfield 104, 3) := by decide +kernel
theorem dX11_net_38 : decode cX11_net 38 = .ok (.isub, 1) := by decide +kernel
theorem dX11_net_39 : decode cX11_net 39 = .ok (.ireturn, 1) := by decide +kernel
theorem dX11_net_40 : decode cX11_net 40 = .ok (.aload_n 0, 1) := by decide +kernel
theorem dX11_net_41 : decode cX11_net 41 = .ok (.getfield 26, 3) := by decide +kernel
theorem dX11_net_44 : decode cX11_net 44 = .ok (.aload_n 0, 1) := by decide +kernel
theorem dX11_net_45 : decode cX11_net 45 = .ok (.getfield 19, 3) := by decide +kernel
theorem dX11_net_48 : decode cX11_net 48 = .ok (.getfield 107, 3) := by decide +kernel
theorem dX11_net_51 : decode cX11_net 51 = .ok (.invokevirtual 110, 3) := by decide +kernel
theorem dX11_net_54 : decode cX11_net 54 = .ok (.aload_n 0, 1) := by decide +kernel
theorem dX11_net_55 : decode cX11_net 55 = .ok (.getfield 33, 3) := by decide +kernel
theorem dX11_net_58 : decode cX11_net 58 = .ok (.invokevirtual 114, 3) := by decide +kernel
theorem dX11_net_61 : decode cX11_net 61 = .ok (.aload_n 0, 1) := by decide +kernel
theorem dX11_net_62 : decode cX11_net 62 = .ok (.invokevirtual 117, 3) := by decide +kernel
theorem dX11_net_65 : decode cX11_net 65 = .ok (.aload_n 0, 1) := by decide +kernel
theorem dX11_net_66 : decode cX11_net 66 = .ok (.getfield 19, 3) := by decide +kernel
theorem dX11_net_69 : decode cX11_net 69 = .ok (.getfield 120, 3) := by decide +kernel
theorem dX11_net_72 : decode cX11_net 72 = .ok (.ireturn, 1) := by decide +kernel
theorem dX11_fault_0 : decode cX11_fault 0 = .ok (.aload_n 0, 1) := by decide +kernel
theorem dX11_fault_1 : decode cX11_fault 1 = .ok (.getfield 101, 3) := by decide +kernel
theorem dX11_fault_4 : decode cX11_fault 4 = .ok (.ireturn, 1) := by decide +kernel
theorem dX11_now_0 : decode cX11_now 0 = .ok (.iload_n 1, 1) := by decide +kernel
theorem dX11_now_1 : decode cX11_now 1 = .ok (.tableswitch 125 0 7 #[47, 55, 63, 71, 79, 94, 109, 117], 47) := by decide +kernel
theorem dX11_now_48 : decode cX11_now 48 = .ok (.aload_n 0, 1) := by decide +kernel
theorem dX11_now_49 : decode cX11_now 49 = .ok (.getfield 26, 3) := by decide +kernel
theorem dX11_now_52 : decode cX11_now 52 = .ok (.getfield 123, 3) := by decide +kernel
theorem dX11_now_55 : decode cX11_now 55 = .ok (.ireturn, 1) := by decide +kernel
theorem dX11_now_56 : decode cX11_now 56 = .ok (.aload_n 0, 1) := by decide +kernel
theorem dX11_now_57 : decode cX11_now 57 = .ok (.getfield 26, 3) := by decide +kernel
theorem dX11_now_60 : decode cX11_now 60 = .ok (.getfield 126, 3) := by decide +kernel
theorem dX11_now_63 : decode cX11_now 63 = .ok (.ireturn, 1) := by decide +kernel
theorem dX11_now_64 : decode cX11_now 64 = .ok (.aload_n 0, 1) := by decide +kernel
theorem dX11_now_65 : decode cX11_now 65 = .ok (.getfield 26, 3) := by decide +kernel
theorem dX11_now_68 : decode cX11_now 68 = .ok (.getfield 129, 3) := by decide +kernel
theorem dX11_now_71 : decode cX11_now 71 = .ok (.ireturn, 1) := by decide +kernel
theorem dX11_now_72 : decode cX11_now 72 = .ok (.aload_n 0, 1) := by decide +kernel
theorem dX11_now_73 : decode cX11_now 73 = .ok (.getfield 26, 3) := by decide +kernel
theorem dX11_now_76 : decode cX11_now 76 = .ok (.getfield 132, 3) := by decide +kernel
theorem dX11_now_79 : decode cX11_now 79 = .ok (.ireturn, 1) := by decide +kernel
theorem dX11_now_80 : decode cX11_now 80 = .ok (.aload_n 0, 1) := by decide +kernel
theorem dX11_now_81 : decode cX11_now 81 = .ok (.getfield 26, 3) := by decide +kernel
theorem dX11_now_84 : decode cX11_now 84 = .ok (.aload_n 0, 1) := by decide +kernel
theorem dX11_now_85 : decode cX11_now 85 = .ok (.getfield 26, 3) := by decide +kernel
theorem dX11_now_88 : decode cX11_now 88 = .ok (.getfield 126, 3) := by decide +kernel
theorem dX11_now_91 : decode cX11_now 91 = .ok (.invokevirtual 135, 3) := by decide +kernel
theorem dX11_now_94 : decode cX11_now 94 = .ok (.ireturn, 1) := by decide +kernel
theorem dX11_now_95 : decode cX11_now 95 = .ok (.aload_n 0, 1) := by decide +kernel
theorem dX11_now_96 : decode cX11_now 96 = .ok (.getfield 26, 3) := by decide +kernel
theorem dX11_now_99 : decode cX11_now 99 = .ok (.aload_n 0, 1) := by decide +kernel
theorem dX11_now_100 : decode cX11_now 100 = .ok (.getfield 26, 3) := by decide +kernel
theorem dX11_now_103 : decode cX11_now 103 = .ok (.getfield 126, 3) := by decide +kernel
theorem dX11_now_106 : decode cX11_now 106 = .ok (.invokevirtual 139, 3) := by decide +kernel
theorem dX11_now_109 : decode cX11_now 109 = .ok (.ireturn, 1) := by decide +kernel
theorem dX11_now_110 : decode cX11_now 110 = .ok (.aload_n 0, 1) := by decide +kernel
theorem dX11_now_111 : decode cX11_now 111 = .ok (.getfield 33, 3) := by decide +kernel
theorem dX11_now_114 : decode cX11_now 114 = .ok (.getfield 142, 3) := by decide +kernel
theorem dX11_now_117 : decode cX11_now 117 = .ok (.ireturn, 1) := by decide +kernel
theorem dX11_now_118 : decode cX11_now 118 = .ok (.aload_n 0, 1) := by decide +kernel
theorem dX11_now_119 : decode cX11_now 119 = .ok (.getfield 12, 3) := by decide +kernel
theorem dX11_now_122 : decode cX11_now 122 = .ok (.getfield 93, 3) := by decide +kernel
theorem dX11_now_125 : decode cX11_now 125 = .ok (.ireturn, 1) := by decide +kernel
theorem dX11_now_126 : decode cX11_now 126 = .ok (.iconst (-1), 1) := by decide +kernel
theorem dX11_now_127 : decode cX11_now 127 = .ok (.ireturn, 1) := by decide +kernel
theorem dX11_point_0 : decode cX11_point 0 = .ok (.aload_n 0, 1) := by decide +kernel
theorem dX11_point_1 : decode cX11_point 1 = .ok (.getfield 26, 3) := by decide +kernel
theorem dX11_point_4 : decode cX11_point 4 = .ok (.iload_n 1, 1) := by decide +kernel
theorem dX11_point_5 : decode cX11_point 5 = .ok (.invokevirtual 145, 3) := by decide +kernel
theorem dX11_point_8 : decode cX11_point 8 = .ok (.ifCond .eq 12, 3) := by decide +kernel
theorem dX11_point_11 : decode cX11_point 11 = .ok (.iload_n 2, 1) := by decide +kernel
theorem dX11_point_12 : decode cX11_point 12 = .ok (.ifCond .lt 8, 3) := by decide +kernel
theorem dX11_point_15 : decode cX11_point 15 = .ok (.iload_n 2, 1) := by decide +kernel
theorem dX11_point_16 : decode cX11_point 16 = .ok (.iconst 3, 1) := by decide +kernel
theorem dX11_point_17 : decode cX11_point 17 = .ok (.if_icmp .le 13, 3) := by decide +kernel
theorem dX11_point_20 : decode cX11_point 20 = .ok (.new 149, 3) := by decide +kernel
theorem dX11_point_23 : decode cX11_point 23 = .ok (.dup, 1) := by decide +kernel
theorem dX11_point_24 : decode cX11_point 24 = .ok (.ldc 151, 2) := by decide +kernel
theorem dX11_point_26 : decode cX11_point 26 = .ok (.invokespecial 153, 3) := by decide +kernel
theorem dX11_point_29 : decode cX11_point 29 = .ok (.athrow, 1) := by decide +kernel
theorem dX11_point_30 : decode cX11_point 30 = .ok (.iload_n 2, 1) := by decide +kernel
theorem dX11_point_31 : decode cX11_point 31 = .ok (.tableswitch 60 0 2 #[25, 34, 50], 25) := by decide +kernel
theorem dX11_point_56 : decode cX11_point 56 = .ok (.aload_n 0, 1) := by decide +kernel
theorem dX11_point_57 : decode cX11_point 57 = .ok (.getfield 26, 3) := by decide +kernel
theorem dX11_point_60 : decode cX11_point 60 = .ok (.iload_n 1, 1) := by decide +kernel
theorem dX11_point_61 : decode cX11_point 61 = .ok (.invokevirtual 156, 3) := by decide +kernel
theorem dX11_point_64 : decode cX11_point 64 = .ok (.ireturn, 1) := by decide +kernel
theorem dX11_point_65 : decode cX11_point 65 = .ok (.aload_n 0, 1) := by decide +kernel
theorem dX11_point_66 : decode cX11_point 66 = .ok (.getfield 26, 3) := by decide +kernel
theorem dX11_point_69 : decode cX11_point 69 = .ok (.iload_n 1, 1) := by decide +kernel
theorem dX11_point_70 : decode cX11_point 70 = .ok (.aload_n 0, 1) := by decide +kernel
theorem dX11_point_71 : decode cX11_point 71 = .ok (.getfield 26, 3) := by decide +kernel
theorem dX11_point_74 : decode cX11_point 74 = .ok (.getfield 126, 3) := by decide +kernel
theorem dX11_point_77 : decode cX11_point 77 = .ok (.invokevirtual 159, 3) := by decide +kernel
theorem dX11_point_80 : decode cX11_point 80 = .ok (.ireturn, 1) := by decide +kernel
theorem dX11_point_81 : decode cX11_point 81 = .ok (.aload_n 0, 1) := by decide +kernel
theorem dX11_point_82 : decode cX11_point 82 = .ok (.getfield 26, 3) := by decide +kernel
theorem dX11_point_85 : decode cX11_point 85 = .ok (.iload_n 1, 1) := by decide +kernel
theorem dX11_point_86 : decode cX11_point 86 = .ok (.iload_n 1, 1) := by decide +kernel
theorem dX11_point_87 : decode cX11_point 87 = .ok (.invokevirtual 163, 3) := by decide +kernel
theorem dX11_point_90 : decode cX11_point 90 = .ok (.ireturn, 1) := by decide +kernel
theorem dX11_point_91 : decode cX11_point 91 = .ok (.aload_n 0, 1) := by decide +kernel
theorem dX11_point_92 : decode cX11_point 92 = .ok (.getfield 26, 3) := by decide +kernel
theorem dX11_point_95 : decode cX11_point 95 = .ok (.iload_n 1, 1) := by decide +kernel
theorem dX11_point_96 : decode cX11_point 96 = .ok (.iconst 1, 1) := by decide +kernel
theorem dX11_point_97 : decode cX11_point 97 = .ok (.invokevirtual 166, 3) := by decide +kernel
theorem dX11_point_100 : decode cX11_point 100 = .ok (.ireturn, 1) := by decide +kernel
theorem dX11_lines_0 : decode cX11_lines 0 = .ok (.aload_n 0, 1) := by decide +kernel
theorem dX11_lines_1 : decode cX11_lines 1 = .ok (.getfield 26, 3) := by decide +kernel
theorem dX11_lines_4 : decode cX11_lines 4 = .ok (.iload_n 1, 1) := by decide +kernel
theorem dX11_lines_5 : decode cX11_lines 5 = .ok (.invokevirtual 145, 3) := by decide +kernel
theorem dX11_lines_8 : decode cX11_lines 8 = .ok (.ifCond .eq 26, 3) := by decide +kernel
theorem dX11_lines_11 : decode cX11_lines 11 = .ok (.aload_n 0, 1) := by decide +kernel
theorem dX11_lines_12 : decode cX11_lines 12 = .ok (.getfield 26, 3) := by decide +kernel
theorem dX11_lines_15 : decode cX11_lines 15 = .ok (.iload_n 2, 1) := by decide +kernel
theorem dX11_lines_16 : decode cX11_lines 16 = .ok (.invokevirtual 145, 3) := by decide +kernel
theorem dX11_lines_19 : decode cX11_lines 19 = .ok (.ifCond .eq 15, 3) := by decide +kernel
theorem dX11_lines_22 : decode cX11_lines 22 = .ok (.aload_n 0, 1) := by decide +kernel
theorem dX11_lines_23 : decode cX11_lines 23 = .ok (.getfield 26, 3) := by decide +kernel
theorem dX11_lines_26 : decode cX11_lines 26 = .ok (.iload_n 1, 1) := by decide +kernel
theorem dX11_lines_27 : decode cX11_lines 27 = .ok (.iload_n 2, 1) := by decide +kernel
theorem dX11_lines_28 : decode cX11_lines 28 = .ok (.invokevirtual 163, 3) := by decide +kernel
theorem dX11_lines_31 : decode cX11_lines 31 = .ok (.goto 4, 3) := by decide +kernel
theorem dX11_lines_34 : decode cX11_lines 34 = .ok (.iconst (-1), 1) := by decide +kernel
theorem dX11_lines_35 : decode cX11_lines 35 = .ok (.ireturn, 1) := by decide +kernel
theorem dX11_cuts_0 : decode cX11_cuts 0 = .ok (.aload_n 0, 1) := by decide +kernel
theorem dX11_cuts_1 : decode cX11_cuts 1 = .ok (.getfield 26, 3) := by decide +kernel
theorem dX11_cuts_4 : decode cX11_cuts 4 = .ok (.iload_n 1, 1) := by decide +kernel
theorem dX11_cuts_5 : decode cX11_cuts 5 = .ok (.invokevirtual 169, 3) := by decide +kernel
theorem dX11_cuts_8 : decode cX11_cuts 8 = .ok (.ifCond .ne 5, 3) := by decide +kernel
theorem dX11_cuts_11 : decode cX11_cuts 11 = .ok (.iconst (-1), 1) := by decide +kernel
theorem dX11_cuts_12 : decode cX11_cuts 12 = .ok (.ireturn, 1) := by decide +kernel
theorem dX11_cuts_13 : decode cX11_cuts 13 = .ok (.aload_n 0, 1) := by decide +kernel
theorem dX11_cuts_14 : decode cX11_cuts 14 = .ok (.invokevirtual 172, 3) := by decide +kernel
theorem dX11_cuts_17 : decode cX11_cuts 17 = .ok (.aload_n 0, 1) := by decide +kernel
theorem dX11_cuts_18 : decode cX11_cuts 18 = .ok (.getfield 26, 3) := by decide +kernel
theorem dX11_cuts_21 : decode cX11_cuts 21 = .ok (.getfield 126, 3) := by decide +kernel
theorem dX11_cuts_24 : decode cX11_cuts 24 = .ok (.iload_n 1, 1) := by decide +kernel
theorem dX11_cuts_25 : decode cX11_cuts 25 = .ok (.iconst (-1), 1) := by decide +kernel
theorem dX11_cuts_26 : decode cX11_cuts 26 = .ok (.ixor, 1) := by decide +kernel
theorem dX11_cuts_27 : decode cX11_cuts 27 = .ok (.iand, 1) := by decide +kernel
theorem dX11_cuts_28 : decode cX11_cuts 28 = .ok (.invokevirtual 176, 3) := by decide +kernel
theorem dX11_cuts_31 : decode cX11_cuts 31 = .ok (.ifCond .eq 7, 3) := by decide +kernel
theorem dX11_cuts_34 : decode cX11_cuts 34 = .ok (.iconst 1, 1) := by decide +kernel
theorem dX11_cuts_35 : decode cX11_cuts 35 = .ok (.goto 4, 3) := by decide +kernel
theorem dX11_cuts_38 : decode cX11_cuts 38 = .ok (.iconst 0, 1) := by decide +kernel
theorem dX11_cuts_39 : decode cX11_cuts 39 = .ok (.ireturn, 1) := by decide +kernel
theorem dX11_fewest_0 : decode cX11_fewest 0 = .ok (.iload_n 1, 1) := by decide +kernel
theorem dX11_fewest_1 : decode cX11_fewest 1 = .ok (.ifCond .lt 8, 3) := by decide +kernel
theorem dX11_fewest_4 : decode cX11_fewest 4 = .ok (.iload_n 1, 1) := by decide +kernel
theorem dX11_fewest_5 : decode cX11_fewest 5 = .ok (.iconst 2, 1) := by decide +kernel
theorem dX11_fewest_6 : decode cX11_fewest 6 = .ok (.if_icmp .le 7, 3) := by decide +kernel
theorem dX11_fewest_9 : decode cX11_fewest 9 = .ok (.iconst (-1), 1) := by decide +kernel
theorem dX11_fewest_10 : decode cX11_fewest 10 = .ok (.goto 23, 3) := by decide +kernel
theorem dX11_fewest_13 : decode cX11_fewest 13 = .ok (.aload_n 0, 1) := by decide +kernel
theorem dX11_fewest_14 : decode cX11_fewest 14 = .ok (.aload_n 0, 1) := by decide +kernel
theorem dX11_fewest_15 : decode cX11_fewest 15 = .ok (.invokevirtual 172, 3) := by decide +kernel
theorem dX11_fewest_18 : decode cX11_fewest 18 = .ok (.aload_n 0, 1) := by decide +kernel
theorem dX11_fewest_19 : decode cX11_fewest 19 = .ok (.getfield 26, 3) := by decide +kernel
theorem dX11_fewest_22 : decode cX11_fewest 22 = .ok (.getfield 126, 3) := by decide +kernel
theorem dX11_fewest_25 : decode cX11_fewest 25 = .ok (.iconst 0, 1) := by decide +kernel
theorem dX11_fewest_26 : decode cX11_fewest 26 = .ok (.invokevirtual 179, 3) := by decide +kernel
theorem dX11_fewest_29 : decode cX11_fewest 29 = .ok (.iload_n 1, 1) := by decide +kernel
theorem dX11_fewest_30 : decode cX11_fewest 30 = .ok (.invokevirtual 182, 3) := by decide +kernel
theorem dX11_fewest_33 : decode cX11_fewest 33 = .ok (.ireturn, 1) := by decide +kernel
theorem dX11_lightest_0 : decode cX11_lightest 0 = .ok (.iload_n 1, 1) := by decide +kernel
theorem dX11_lightest_1 : decode cX11_lightest 1 = .ok (.ifCond .lt 8, 3) := by decide +kernel
theorem dX11_lightest_4 : decode cX11_lightest 4 = .ok (.iload_n 1, 1) := by decide +kernel
theorem dX11_lightest_5 : decode cX11_lightest 5 = .ok (.iconst 2, 1) := by decide +kernel
theorem dX11_lightest_6 : decode cX11_lightest 6 = .ok (.if_icmp .le 7, 3) := by decide +kernel
theorem dX11_lightest_9 : decode cX11_lightest 9 = .ok (.iconst (-1), 1) := by decide +kernel
theorem dX11_lightest_10 : decode cX11_lightest 10 = .ok (.goto 12, 3) := by decide +kernel
theorem dX11_lightest_13 : decode cX11_lightest 13 = .ok (.aload_n 0, 1) := by decide +kernel
theorem dX11_lightest_14 : decode cX11_lightest 14 = .ok (.aload_n 0, 1) := by decide +kernel
theorem dX11_lightest_15 : decode cX11_lightest 15 = .ok (.invokevirtual 185, 3) := by decide +kernel
theorem dX11_lightest_18 : decode cX11_lightest 18 = .ok (.iload_n 1, 1) := by decide +kernel
theorem dX11_lightest_19 : decode cX11_lightest 19 = .ok (.invokevirtual 182, 3) := by decide +kernel
theorem dX11_lightest_22 : decode cX11_lightest 22 = .ok (.ireturn, 1) := by decide +kernel
theorem dX11_those_0 : decode cX11_those 0 = .ok (.iload_n 1, 1) := by decide +kernel
theorem dX11_those_1 : decode cX11_those 1 = .ok (.ifCond .lt 8, 3) := by decide +kernel
theorem dX11_those_4 : decode cX11_those 4 = .ok (.iload_n 1, 1) := by decide +kernel
theorem dX11_those_5 : decode cX11_those 5 = .ok (.iconst 2, 1) := by decide +kernel
theorem dX11_those_6 : decode cX11_those 6 = .ok (.if_icmp .le 5, 3) := by decide +kernel
theorem dX11_those_9 : decode cX11_those 9 = .ok (.iconst (-1), 1) := by decide +kernel
theorem dX11_those_10 : decode cX11_those 10 = .ok (.ireturn, 1) := by decide +kernel
theorem dX11_those_11 : decode cX11_those 11 = .ok (.aload_n 0, 1) := by decide +kernel
theorem dX11_those_12 : decode cX11_those 12 = .ok (.invokevirtual 172, 3) := by decide +kernel
theorem dX11_those_15 : decode cX11_those 15 = .ok (.astore_n 2, 1) := by decide +kernel
theorem dX11_those_16 : decode cX11_those 16 = .ok (.aload_n 2, 1) := by decide +kernel
theorem dX11_those_17 : decode cX11_those 17 = .ok (.aload_n 0, 1) := by decide +kernel
theorem dX11_those_18 : decode cX11_those 18 = .ok (.getfield 26, 3) := by decide +kernel
theorem dX11_those_21 : decode cX11_those 21 = .ok (.getfield 126, 3) := by decide +kernel
theorem dX11_those_24 : decode cX11_those 24 = .ok (.iconst 0, 1) := by decide +kernel
theorem dX11_those_25 : decode cX11_those 25 = .ok (.invokevirtual 179, 3) := by decide +kernel
theorem dX11_those_28 : decode cX11_those 28 = .ok (.invokestatic 189, 3) := by decide +kernel
theorem dX11_those_31 : decode cX11_those 31 = .ok (.istore_n 3, 1) := by decide +kernel
theorem dX11_those_32 : decode cX11_those 32 = .ok (.iconst 0, 1) := by decide +kernel
theorem dX11_those_33 : decode cX11_those 33 = .ok (.istore 4, 2) := by decide +kernel
theorem dX11_those_35 : decode cX11_those 35 = .ok (.aload_n 0, 1) := by decide +kernel
theorem dX11_those_36 : decode cX11_those 36 = .ok (.getfield 26, 3) := by decide +kernel
theorem dX11_those_39 : decode cX11_those 39 = .ok (.getfield 126, 3) := by decide +kernel
theorem dX11_those_42 : decode cX11_those 42 = .ok (.istore 5, 2) := by decide +kernel
theorem dX11_those_44 : decode cX11_those 44 = .ok (.iconst 0, 1) := by decide +kernel
theorem dX11_those_45 : decode cX11_those 45 = .ok (.istore 6, 2) := by decide +kernel
theorem dX11_those_47 : decode cX11_those 47 = .ok (.iconst 0, 1) := by decide +kernel
theorem dX11_those_48 : decode cX11_those 48 = .ok (.istore 7, 2) := by decide +kernel
theorem dX11_those_50 : decode cX11_those 50 = .ok (.iload 7, 2) := by decide +kernel
theorem dX11_those_52 : decode cX11_those 52 = .ok (.aload_n 0, 1) := by decide +kernel
theorem dX11_those_53 : decode cX11_those 53 = .ok (.getfield 26, 3) := by decide +kernel
theorem dX11_those_56 : decode cX11_those 56 = .ok (.getfield 126, 3) := by decide +kernel
theorem dX11_those_59 : decode cX11_those 59 = .ok (.if_icmp .gt 66, 3) := by decide +kernel
theorem dX11_those_62 : decode cX11_those 62 = .ok (.aload_n 0, 1) := by decide +kernel
theorem dX11_those_63 : decode cX11_those 63 = .ok (.getfield 26, 3) := by decide +kernel
theorem dX11_those_66 : decode cX11_those 66 = .ok (.iload 7, 2) := by decide +kernel
theorem dX11_those_68 : decode cX11_those 68 = .ok (.invokevirtual 169, 3) := by decide +kernel
theorem dX11_those_71 : decode cX11_those 71 = .ok (.ifCond .eq 48, 3) := by decide +kernel
theorem dX11_those_74 : decode cX11_those 74 = .ok (.iload 7, 2) := by decide +kernel
theorem dX11_those_76 : decode cX11_those 76 = .ok (.invokestatic 189, 3) := by decide +kernel
theorem dX11_those_79 : decode cX11_those 79 = .ok (.iload_n 3, 1) := by decide +kernel
theorem dX11_those_80 : decode cX11_those 80 = .ok (.if_icmp .ne 39, 3) := by decide +kernel
theorem dX11_those_83 : decode cX11_those 83 = .ok (.aload_n 2, 1) := by decide +kernel
theorem dX11_those_84 : decode cX11_those 84 = .ok (.aload_n 0, 1) := by decide +kernel
theorem dX11_those_85 : decode cX11_those 85 = .ok (.getfield 26, 3) := by decide +kernel
theorem dX11_those_88 : decode cX11_those 88 = .ok (.getfield 126, 3) := by decide +kernel
theorem dX11_those_91 : decode cX11_those 91 = .ok (.iload 7, 2) := by decide +kernel
theorem dX11_those_93 : decode cX11_those 93 = .ok (.iconst (-1), 1) := by decide +kernel
theorem dX11_those_94 : decode cX11_those 94 = .ok (.ixor, 1) := by decide +kernel
theorem dX11_those_95 : decode cX11_those 95 = .ok (.iand, 1) := by decide +kernel
theorem dX11_those_96 : decode cX11_those 96 = .ok (.invokevirtual 176, 3) := by decide +kernel
theorem dX11_those_99 : decode cX11_those 99 = .ok (.ifCond .eq 20, 3) := by decide +kernel
theorem dX11_those_102 : decode cX11_those 102 = .ok (.iinc 4 1, 3) := by decide +kernel
theorem dX11_those_105 : decode cX11_those 105 = .ok (.iload 5, 2) := by decide +kernel
theorem dX11_those_107 : decode cX11_those 107 = .ok (.iload 7, 2) := by decide +kernel
theorem dX11_those_109 : decode cX11_those 109 = .ok (.iand, 1) := by decide +kernel
theorem dX11_those_110 : decode cX11_those 110 = .ok (.istore 5, 2) := by decide +kernel
theorem dX11_those_112 : decode cX11_those 112 = .ok (.iload 6, 2) := by decide +kernel
theorem dX11_those_114 : decode cX11_those 114 = .ok (.iload 7, 2) := by decide +kernel
theorem dX11_those_116 : decode cX11_those 116 = .ok (.ior, 1) := by decide +kernel
theorem dX11_those_117 : decode cX11_those 117 = .ok (.istore 6, 2) := by decide +kernel
theorem dX11_those_119 : decode cX11_those 119 = .ok (.iinc 7 1, 3) := by decide +kernel
theorem dX11_those_122 : decode cX11_those 122 = .ok (.goto (-72), 3) := by decide +kernel
theorem dX11_those_125 : decode cX11_those 125 = .ok (.iload_n 1, 1) := by decide +kernel
theorem dX11_those_126 : decode cX11_those 126 = .ok (.ifCond .ne 8, 3) := by decide +kernel
theorem dX11_those_129 : decode cX11_those 129 = .ok (.iload 4, 2) := by decide +kernel
theorem dX11_those_131 : decode cX11_those 131 = .ok (.goto 15, 3) := by decide +kernel
theorem dX11_those_134 : decode cX11_those 134 = .ok (.iload_n 1, 1) := by decide +kernel
theorem dX11_those_135 : decode cX11_those 135 = .ok (.iconst 1, 1) := by decide +kernel
theorem dX11_those_136 : decode cX11_those 136 = .ok (.if_icmp .ne 8, 3) := by decide +kernel
theorem dX11_those_139 : decode cX11_those 139 = .ok (.iload 5, 2) := by decide +kernel
theorem dX11_those_141 : decode cX11_those 141 = .ok (.goto 5, 3) := by decide +kernel
theorem dX11_those_144 : decode cX11_those 144 = .ok (.iload 6, 2) := by decide +kernel
theorem dX11_those_146 : decode cX11_those 146 = .ok (.ireturn, 1) := by decide +kernel
theorem dX11_sparing_0 : decode cX11_sparing 0 = .ok (.aload_n 0, 1) := by decide +kernel
theorem dX11_sparing_1 : decode cX11_sparing 1 = .ok (.getfield 26, 3) := by decide +kernel
theorem dX11_sparing_4 : decode cX11_sparing 4 = .ok (.iload_n 1, 1) := by decide +kernel
theorem dX11_sparing_5 : decode cX11_sparing 5 = .ok (.invokevirtual 169, 3) := by decide +kernel
theorem dX11_sparing_8 : decode cX11_sparing 8 = .ok (.ifCond .eq 21, 3) := by decide +kernel
theorem dX11_sparing_11 : decode cX11_sparing 11 = .ok (.aload_n 0, 1) := by decide +kernel
theorem dX11_sparing_12 : decode cX11_sparing 12 = .ok (.invokevirtual 172, 3) := by decide +kernel
theorem dX11_sparing_15 : decode cX11_sparing 15 = .ok (.aload_n 0, 1) := by decide +kernel
theorem dX11_sparing_16 : decode cX11_sparing 16 = .ok (.getfield 26, 3) := by decide +kernel
theorem dX11_sparing_19 : decode cX11_sparing 19 = .ok (.getfield 126, 3) := by decide +kernel
theorem dX11_sparing_22 : decode cX11_sparing 22 = .ok (.iload_n 1, 1) := by decide +kernel
theorem dX11_sparing_23 : decode cX11_sparing 23 = .ok (.invokevirtual 179, 3) := by decide +kernel
theorem dX11_sparing_26 : decode cX11_sparing 26 = .ok (.goto 4, 3) := by decide +kernel
theorem dX11_sparing_29 : decode cX11_sparing 29 = .ok (.iconst (-1), 1) := by decide +kernel
theorem dX11_sparing_30 : decode cX11_sparing 30 = .ok (.ireturn, 1) := by decide +kernel
theorem dX11_upTo_0 : decode cX11_upTo 0 = .ok (.iload_n 1, 1) := by decide +kernel
theorem dX11_upTo_1 : decode cX11_upTo 1 = .ok (.ifCond .lt 20, 3) := by decide +kernel
theorem dX11_upTo_4 : decode cX11_upTo 4 = .ok (.iload_n 1, 1) := by decide +kernel
theorem dX11_upTo_5 : decode cX11_upTo 5 = .ok (.aload_n 0, 1) := by decide +kernel
theorem dX11_upTo_6 : decode cX11_upTo 6 = .ok (.getfield 26, 3) := by decide +kernel
theorem dX11_upTo_9 : decode cX11_upTo 9 = .ok (.getfield 123, 3) := by decide +kernel
theorem dX11_upTo_12 : decode cX11_upTo 12 = .ok (.if_icmp .ge 9, 3) := by decide +kernel
theorem dX11_upTo_15 : decode cX11_upTo 15 = .ok (.iload_n 1, 1) := by decide +kernel
theorem dX11_upTo_16 : decode cX11_upTo 16 = .ok (.bipush 12, 2) := by decide +kernel
theorem dX11_upTo_18 : decode cX11_upTo 18 = .ok (.if_icmp .lt 5, 3) := by decide +kernel
theorem dX11_upTo_21 : decode cX11_upTo 21 = .ok (.iconst (-1), 1) := by decide +kernel
theorem dX11_upTo_22 : decode cX11_upTo 22 = .ok (.ireturn, 1) := by decide +kernel
theorem dX11_upTo_23 : decode cX11_upTo 23 = .ok (.aload_n 0, 1) := by decide +kernel
theorem dX11_upTo_24 : decode cX11_upTo 24 = .ok (.getfield 26, 3) := by decide +kernel
theorem dX11_upTo_27 : decode cX11_upTo 27 = .ok (.getfield 126, 3) := by decide +kernel
theorem dX11_upTo_30 : decode cX11_upTo 30 = .ok (.iconst 2, 1) := by decide +kernel
theorem dX11_upTo_31 : decode cX11_upTo 31 = .ok (.iload_n 1, 1) := by decide +kernel
theorem dX11_upTo_32 : decode cX11_upTo 32 = .ok (.ishl, 1) := by decide +kernel
theorem dX11_upTo_33 : decode cX11_upTo 33 = .ok (.iconst 1, 1) := by decide +kernel
theorem dX11_upTo_34 : decode cX11_upTo 34 = .ok (.isub, 1) := by decide +kernel
theorem dX11_upTo_35 : decode cX11_upTo 35 = .ok (.iand, 1) := by decide +kernel
theorem dX11_upTo_36 : decode cX11_upTo 36 = .ok (.istore_n 2, 1) := by decide +kernel
theorem dX11_upTo_37 : decode cX11_upTo 37 = .ok (.aload_n 0, 1) := by decide +kernel
theorem dX11_upTo_38 : decode cX11_upTo 38 = .ok (.invokevirtual 172, 3) := by decide +kernel
theorem dX11_upTo_41 : decode cX11_upTo 41 = .ok (.iload_n 2, 1) := by decide +kernel
theorem dX11_upTo_42 : decode cX11_upTo 42 = .ok (.iconst 0, 1) := by decide +kernel
theorem dX11_upTo_43 : decode cX11_upTo 43 = .ok (.invokevirtual 179, 3) := by decide +kernel
theorem dX11_upTo_46 : decode cX11_upTo 46 = .ok (.invokestatic 189, 3) := by decide +kernel
theorem dX11_upTo_49 : decode cX11_upTo 49 = .ok (.ireturn, 1) := by decide +kernel
theorem dX11_rings_0 : decode cX11_rings 0 = .ok (.aload_n 0, 1) := by decide +kernel
theorem dX11_rings_1 : decode cX11_rings 1 = .ok (.getfield 26, 3) := by decide +kernel
theorem dX11_rings_4 : decode cX11_rings 4 = .ok (.invokestatic 194, 3) := by decide +kernel
theorem dX11_rings_7 : decode cX11_rings 7 = .ok (.lreturn, 1) := by decide +kernel
theorem dX11_shortest_0 : decode cX11_shortest 0 = .ok (.aload_n 0, 1) := by decide +kernel
theorem dX11_shortest_1 : decode cX11_shortest 1 = .ok (.invokevirtual 172, 3) := by decide +kernel
theorem dX11_shortest_4 : decode cX11_shortest 4 = .ok (.invokevirtual 200, 3) := by decide +kernel
theorem dX11_shortest_7 : decode cX11_shortest 7 = .ok (.ireturn, 1) := by decide +kernel
theorem dX11_packed_0 : decode cX11_packed 0 = .ok (.aload_n 0, 1) := by decide +kernel
theorem dX11_packed_1 : decode cX11_packed 1 = .ok (.invokevirtual 203, 3) := by decide +kernel
theorem dX11_packed_4 : decode cX11_packed 4 = .ok (.aload_n 0, 1) := by decide +kernel
theorem dX11_packed_5 : decode cX11_packed 5 = .ok (.getfield 26, 3) := by decide +kernel
theorem dX11_packed_8 : decode cX11_packed 8 = .ok (.getfield 126, 3) := by decide +kernel
theorem dX11_packed_11 : decode cX11_packed 11 = .ok (.invokevirtual 207, 3) := by decide +kernel
theorem dX11_packed_14 : decode cX11_packed 14 = .ok (.ireturn, 1) := by decide +kernel
theorem dX11_pack_0 : decode cX11_pack 0 = .ok (.iload_n 1, 1) := by decide +kernel
theorem dX11_pack_1 : decode cX11_pack 1 = .ok (.ifCond .ge 7, 3) := by decide +kernel
theorem dX11_pack_4 : decode cX11_pack 4 = .ok (.iconst (-1), 1) := by decide +kernel
theorem dX11_pack_5 : decode cX11_pack 5 = .ok (.goto 22, 3) := by decide +kernel
theorem dX11_pack_8 : decode cX11_pack 8 = .ok (.aload_n 0, 1) := by decide +kernel
theorem dX11_pack_9 : decode cX11_pack 9 = .ok (.invokevirtual 203, 3) := by decide +kernel
theorem dX11_pack_12 : decode cX11_pack 12 = .ok (.iload_n 1, 1) := by decide +kernel
theorem dX11_pack_13 : decode cX11_pack 13 = .ok (.aload_n 0, 1) := by decide +kernel
theorem dX11_pack_14 : decode cX11_pack 14 = .ok (.getfield 26, 3) := by decide +kernel
theorem dX11_pack_17 : decode cX11_pack 17 = .ok (.getfield 126, 3) := by decide +kernel
theorem dX11_pack_20 : decode cX11_pack 20 = .ok (.aload_n 0, 1) := by decide +kernel
theorem dX11_pack_21 : decode cX11_pack 21 = .ok (.getfield 57, 3) := by decide +kernel
theorem dX11_pack_24 : decode cX11_pack 24 = .ok (.invokevirtual 210, 3) := by decide +kernel
theorem dX11_pack_27 : decode cX11_pack 27 = .ok (.ireturn, 1) := by decide +kernel
theorem dX11_near_0 : decode cX11_near 0 = .ok (.aload_n 0, 1) := by decide +kernel
theorem dX11_near_1 : decode cX11_near 1 = .ok (.invokevirtual 214, 3) := by decide +kernel
theorem dX11_near_4 : decode cX11_near 4 = .ok (.getfield 218, 3) := by decide +kernel
theorem dX11_near_7 : decode cX11_near 7 = .ok (.ireturn, 1) := by decide +kernel
theorem dX11_bound_0 : decode cX11_bound 0 = .ok (.iload_n 1, 1) := by decide +kernel
theorem dX11_bound_1 : decode cX11_bound 1 = .ok (.ifCond .eq 18, 3) := by decide +kernel
theorem dX11_bound_4 : decode cX11_bound 4 = .ok (.iload_n 1, 1) := by decide +kernel
theorem dX11_bound_5 : decode cX11_bound 5 = .ok (.iconst 1, 1) := by decide +kernel
theorem dX11_bound_6 : decode cX11_bound 6 = .ok (.if_icmp .eq 13, 3) := by decide +kernel
theorem dX11_bound_9 : decode cX11_bound 9 = .ok (.new 149, 3) := by decide +kernel
theorem dX11_bound_12 : decode cX11_bound 12 = .ok (.dup, 1) := by decide +kernel
theorem dX11_bound_13 : decode cX11_bound 13 = .ok (.ldc 221, 2) := by decide +kernel
theorem dX11_bound_15 : decode cX11_bound 15 = .ok (.invokespecial 153, 3) := by decide +kernel
theorem dX11_bound_18 : decode cX11_bound 18 = .ok (.athrow, 1) := by decide +kernel
theorem dX11_bound_19 : decode cX11_bound 19 = .ok (.aload_n 0, 1) := by decide +kernel
theorem dX11_bound_20 : decode cX11_bound 20 = .ok (.invokevirtual 214, 3) := by decide +kernel
theorem dX11_bound_23 : decode cX11_bound 23 = .ok (.astore_n 2, 1) := by decide +kernel
theorem dX11_bound_24 : decode cX11_bound 24 = .ok (.iload_n 1, 1) := by decide +kernel
theorem dX11_bound_25 : decode cX11_bound 25 = .ok (.ifCond .ne 10, 3) := by decide +kernel
theorem dX11_bound_28 : decode cX11_bound 28 = .ok (.aload_n 2, 1) := by decide +kernel
theorem dX11_bound_29 : decode cX11_bound 29 = .ok (.invokevirtual 223, 3) := by decide +kernel
theorem dX11_bound_32 : decode cX11_bound 32 = .ok (.goto 7, 3) := by decide +kernel
theorem dX11_bound_35 : decode cX11_bound 35 = .ok (.aload_n 2, 1) := by decide +kernel
theorem dX11_bound_36 : decode cX11_bound 36 = .ok (.invokevirtual 227, 3) := by decide +kernel
theorem dX11_bound_39 : decode cX11_bound 39 = .ok (.lreturn, 1) := by decide +kernel
theorem dX11_shrink_0 : decode cX11_shrink 0 = .ok (.aload_n 0, 1) := by decide +kernel
theorem dX11_shrink_1 : decode cX11_shrink 1 = .ok (.getfield 33, 3) := by decide +kernel
theorem dX11_shrink_4 : decode cX11_shrink 4 = .ok (.aload_n 0, 1) := by decide +kernel
theorem dX11_shrink_5 : decode cX11_shrink 5 = .ok (.getfield 26, 3) := by decide +kernel
theorem dX11_shrink_8 : decode cX11_shrink 8 = .ok (.invokevirtual 230, 3) := by decide +kernel
theorem dX11_shrink_11 : decode cX11_shrink 11 = .ok (.aload_n 0, 1) := by decide +kernel
theorem dX11_shrink_12 : decode cX11_shrink 12 = .ok (.getfield 26, 3) := by decide +kernel
theorem dX11_shrink_15 : decode cX11_shrink 15 = .ok (.invokestatic 233, 3) := by decide +kernel
theorem dX11_shrink_18 : decode cX11_shrink 18 = .ok (.istore_n 1, 1) := by decide +kernel
theorem dX11_shrink_19 : decode cX11_shrink 19 = .ok (.iload_n 1, 1) := by decide +kernel
theorem dX11_shrink_20 : decode cX11_shrink 20 = .ok (.iconst (-1), 1) := by decide +kernel
theorem dX11_shrink_21 : decode cX11_shrink 21 = .ok (.if_icmp .eq 7, 3) := by decide +kernel
theorem dX11_shrink_24 : decode cX11_shrink 24 = .ok (.aload_n 0, 1) := by decide +kernel
theorem dX11_shrink_25 : decode cX11_shrink 25 = .ok (.invokevirtual 239, 3) := by decide +kernel
theorem dX11_shrink_28 : decode cX11_shrink 28 = .ok (.iload_n 1, 1) := by decide +kernel
theorem dX11_shrink_29 : decode cX11_shrink 29 = .ok (.ireturn, 1) := by decide +kernel
theorem dX11_shrinkAll_0 : decode cX11_shrinkAll 0 = .ok (.aload_n 0, 1) := by decide +kernel
theorem dX11_shrinkAll_1 : decode cX11_shrinkAll 1 = .ok (.getfield 33, 3) := by decide +kernel
theorem dX11_shrinkAll_4 : decode cX11_shrinkAll 4 = .ok (.aload_n 0, 1) := by decide +kernel
theorem dX11_shrinkAll_5 : decode cX11_shrinkAll 5 = .ok (.getfield 26, 3) := by decide +kernel
theorem dX11_shrinkAll_8 : decode cX11_shrinkAll 8 = .ok (.invokevirtual 230, 3) := by decide +kernel
theorem dX11_shrinkAll_11 : decode cX11_shrinkAll 11 = .ok (.iconst 0, 1) := by decide +kernel
theorem dX11_shrinkAll_12 : decode cX11_shrinkAll 12 = .ok (.istore_n 1, 1) := by decide +kernel
theorem dX11_shrinkAll_13 : decode cX11_shrinkAll 13 = .ok (.iconst 0, 1) := by decide +kernel
theorem dX11_shrinkAll_14 : decode cX11_shrinkAll 14 = .ok (.istore_n 2, 1) := by decide +kernel
theorem dX11_shrinkAll_15 : decode cX11_shrinkAll 15 = .ok (.iload_n 2, 1) := by decide +kernel
theorem dX11_shrinkAll_16 : decode cX11_shrinkAll 16 = .ok (.sipush 1000, 3) := by decide +kernel
theorem dX11_shrinkAll_19 : decode cX11_shrinkAll 19 = .ok (.if_icmp .ge 23, 3) := by decide +kernel
theorem dX11_shrinkAll_22 : decode cX11_shrinkAll 22 = .ok (.aload_n 0, 1) := by decide +kernel
theorem dX11_shrinkAll_23 : decode cX11_shrinkAll 23 = .ok (.getfield 26, 3) := by decide +kernel
theorem dX11_shrinkAll_26 : decode cX11_shrinkAll 26 = .ok (.invokestatic 233, 3) := by decide +kernel
theorem dX11_shrinkAll_29 : decode cX11_shrinkAll 29 = .ok (.iconst (-1), 1) := by decide +kernel
theorem dX11_shrinkAll_30 : decode cX11_shrinkAll 30 = .ok (.if_icmp .eq 12, 3) := by decide +kernel
theorem dX11_shrinkAll_33 : decode cX11_shrinkAll 33 = .ok (.iinc 1 1, 3) := by decide +kernel
theorem dX11_shrinkAll_36 : decode cX11_shrinkAll 36 = .ok (.iinc 2 1, 3) := by decide +kernel
theorem dX11_shrinkAll_39 : decode cX11_shrinkAll 39 = .ok (.goto (-24), 3) := by decide +kernel
theorem dX11_shrinkAll_42 : decode cX11_shrinkAll 42 = .ok (.iload_n 1, 1) := by decide +kernel
theorem dX11_shrinkAll_43 : decode cX11_shrinkAll 43 = .ok (.ifCond .le 7, 3) := by decide +kernel
theorem dX11_shrinkAll_46 : decode cX11_shrinkAll 46 = .ok (.aload_n 0, 1) := by decide +kernel
theorem dX11_shrinkAll_47 : decode cX11_shrinkAll 47 = .ok (.invokevirtual 239, 3) := by decide +kernel
theorem dX11_shrinkAll_50 : decode cX11_shrinkAll 50 = .ok (.iload_n 1, 1) := by decide +kernel
theorem dX11_shrinkAll_51 : decode cX11_shrinkAll 51 = .ok (.ireturn, 1) := by decide +kernel
theorem dX11_drop_0 : decode cX11_drop 0 = .ok (.aload_n 0, 1) := by decide +kernel
theorem dX11_drop_1 : decode cX11_drop 1 = .ok (.getfield 33, 3) := by decide +kernel
theorem dX11_drop_4 : decode cX11_drop 4 = .ok (.aload_n 0, 1) := by decide +kernel
theorem dX11_drop_5 : decode cX11_drop 5 = .ok (.getfield 26, 3) := by decide +kernel
theorem dX11_drop_8 : decode cX11_drop 8 = .ok (.invokevirtual 230, 3) := by decide +kernel
theorem dX11_drop_11 : decode cX11_drop 11 = .ok (.aload_n 0, 1) := by decide +kernel
theorem dX11_drop_12 : decode cX11_drop 12 = .ok (.getfield 26, 3) := by decide +kernel
theorem dX11_drop_15 : decode cX11_drop 15 = .ok (.iload_n 1, 1) := by decide +kernel
theorem dX11_drop_16 : decode cX11_drop 16 = .ok (.invokevirtual 242, 3) := by decide +kernel
theorem dX11_drop_19 : decode cX11_drop 19 = .ok (.ifCond .ne 5, 3) := by decide +kernel
theorem dX11_drop_22 : decode cX11_drop 22 = .ok (.iconst (-1), 1) := by decide +kernel
theorem dX11_drop_23 : decode cX11_drop 23 = .ok (.ireturn, 1) := by decide +kernel
theorem dX11_drop_24 : decode cX11_drop 24 = .ok (.aload_n 0, 1) := by decide +kernel
theorem dX11_drop_25 : decode cX11_drop 25 = .ok (.invokevirtual 239, 3) := by decide +kernel
theorem dX11_drop_28 : decode cX11_drop 28 = .ok (.aload_n 0, 1) := by decide +kernel
theorem dX11_drop_29 : decode cX11_drop 29 = .ok (.getfield 26, 3) := by decide +kernel
theorem dX11_drop_32 : decode cX11_drop 32 = .ok (.getfield 126, 3) := by decide +kernel
theorem dX11_drop_35 : decode cX11_drop 35 = .ok (.invokestatic 189, 3) := by decide +kernel
theorem dX11_drop_38 : decode cX11_drop 38 = .ok (.ireturn, 1) := by decide +kernel
theorem dX11_join_0 : decode cX11_join 0 = .ok (.aload_n 0, 1) := by decide +kernel
theorem dX11_join_1 : decode cX11_join 1 = .ok (.getfield 26, 3) := by decide +kernel
theorem dX11_join_4 : decode cX11_join 4 = .ok (.iload_n 1, 1) := by decide +kernel
theorem dX11_join_5 : decode cX11_join 5 = .ok (.invokevirtual 145, 3) := by decide +kernel
theorem dX11_join_8 : decode cX11_join 8 = .ok (.ifCond .eq 14, 3) := by decide +kernel
theorem dX11_join_11 : decode cX11_join 11 = .ok (.aload_n 0, 1) := by decide +kernel
theorem dX11_join_12 : decode cX11_join 12 = .ok (.getfield 26, 3) := by decide +kernel
theorem dX11_join_15 : decode cX11_join 15 = .ok (.iload_n 2, 1) := by decide +kernel
theorem dX11_join_16 : decode cX11_join 16 = .ok (.invokevirtual 145, 3) := by decide +kernel
theorem dX11_join_19 : decode cX11_join 19 = .ok (.ifCond .ne 5, 3) := by decide +kernel
theorem dX11_join_22 : decode cX11_join 22 = .ok (.iconst (-1), 1) := by decide +kernel
theorem dX11_join_23 : decode cX11_join 23 = .ok (.ireturn, 1) := by decide +kernel
theorem dX11_join_24 : decode cX11_join 24 = .ok (.aload_n 0, 1) := by decide +kernel
theorem dX11_join_25 : decode cX11_join 25 = .ok (.getfield 33, 3) := by decide +kernel
theorem dX11_join_28 : decode cX11_join 28 = .ok (.aload_n 0, 1) := by decide +kernel
theorem dX11_join_29 : decode cX11_join 29 = .ok (.getfield 26, 3) := by decide +kernel
theorem dX11_join_32 : decode cX11_join 32 = .ok (.invokevirtual 230, 3) := by decide +kernel
theorem dX11_join_35 : decode cX11_join 35 = .ok (.aload_n 0, 1) := by decide +kernel
theorem dX11_join_36 : decode cX11_join 36 = .ok (.getfield 26, 3) := by decide +kernel
theorem dX11_join_39 : decode cX11_join 39 = .ok (.iload_n 1, 1) := by decide +kernel
theorem dX11_join_40 : decode cX11_join 40 = .ok (.iload_n 2, 1) := by decide +kernel
theorem dX11_join_41 : decode cX11_join 41 = .ok (.invokevirtual 245, 3) := by decide +kernel
theorem dX11_join_44 : decode cX11_join 44 = .ok (.ifCond .ne 6, 3) := by decide +kernel
theorem dX11_join_47 : decode cX11_join 47 = .ok (.bipush (-2), 2) := by decide +kernel
theorem dX11_join_49 : decode cX11_join 49 = .ok (.ireturn, 1) := by decide +kernel
theorem dX11_join_50 : decode cX11_join 50 = .ok (.aload_n 0, 1) := by decide +kernel
theorem dX11_join_51 : decode cX11_join 51 = .ok (.invokevirtual 239, 3) := by decide +kernel
theorem dX11_join_54 : decode cX11_join 54 = .ok (.aload_n 0, 1) := by decide +kernel
theorem dX11_join_55 : decode cX11_join 55 = .ok (.getfield 26, 3) := by decide +kernel
theorem dX11_join_58 : decode cX11_join 58 = .ok (.iload_n 1, 1) := by decide +kernel
theorem dX11_join_59 : decode cX11_join 59 = .ok (.iload_n 2, 1) := by decide +kernel
theorem dX11_join_60 : decode cX11_join 60 = .ok (.invokevirtual 163, 3) := by decide +kernel
theorem dX11_join_63 : decode cX11_join 63 = .ok (.ireturn, 1) := by decide +kernel
theorem dX11_part_0 : decode cX11_part 0 = .ok (.aload_n 0, 1) := by decide +kernel
theorem dX11_part_1 : decode cX11_part 1 = .ok (.getfield 33, 3) := by decide +kernel
theorem dX11_part_4 : decode cX11_part 4 = .ok (.aload_n 0, 1) := by decide +kernel
theorem dX11_part_5 : decode cX11_part 5 = .ok (.getfield 26, 3) := by decide +kernel
theorem dX11_part_8 : decode cX11_part 8 = .ok (.invokevirtual 230, 3) := by decide +kernel
theorem dX11_part_11 : decode cX11_part 11 = .ok (.aload_n 0, 1) := by decide +kernel
theorem dX11_part_12 : decode cX11_part 12 = .ok (.getfield 26, 3) := by decide +kernel
theorem dX11_part_15 : decode cX11_part 15 = .ok (.iload_n 1, 1) := by decide +kernel
theorem dX11_part_16 : decode cX11_part 16 = .ok (.iload_n 2, 1) := by decide +kernel
theorem dX11_part_17 : decode cX11_part 17 = .ok (.invokevirtual 249, 3) := by decide +kernel
theorem dX11_part_20 : decode cX11_part 20 = .ok (.ifCond .ne 5, 3) := by decide +kernel
theorem dX11_part_23 : decode cX11_part 23 = .ok (.iconst (-1), 1) := by decide +kernel
theorem dX11_part_24 : decode cX11_part 24 = .ok (.ireturn, 1) := by decide +kernel
theorem dX11_part_25 : decode cX11_part 25 = .ok (.aload_n 0, 1) := by decide +kernel
theorem dX11_part_26 : decode cX11_part 26 = .ok (.invokevirtual 239, 3) := by decide +kernel
theorem dX11_part_29 : decode cX11_part 29 = .ok (.aload_n 0, 1) := by decide +kernel
theorem dX11_part_30 : decode cX11_part 30 = .ok (.getfield 26, 3) := by decide +kernel
theorem dX11_part_33 : decode cX11_part 33 = .ok (.iload_n 1, 1) := by decide +kernel
theorem dX11_part_34 : decode cX11_part 34 = .ok (.iload_n 2, 1) := by decide +kernel
theorem dX11_part_35 : decode cX11_part 35 = .ok (.invokevirtual 163, 3) := by decide +kernel
theorem dX11_part_38 : decode cX11_part 38 = .ok (.ireturn, 1) := by decide +kernel
theorem dX11_weigh_0 : decode cX11_weigh 0 = .ok (.aload_n 0, 1) := by decide +kernel
theorem dX11_weigh_1 : decode cX11_weigh 1 = .ok (.getfield 26, 3) := by decide +kernel
theorem dX11_weigh_4 : decode cX11_weigh 4 = .ok (.iload_n 1, 1) := by decide +kernel
theorem dX11_weigh_5 : decode cX11_weigh 5 = .ok (.invokevirtual 145, 3) := by decide +kernel
theorem dX11_weigh_8 : decode cX11_weigh 8 = .ok (.ifCond .eq 14, 3) := by decide +kernel
theorem dX11_weigh_11 : decode cX11_weigh 11 = .ok (.iload_n 2, 1) := by decide +kernel
theorem dX11_weigh_12 : decode cX11_weigh 12 = .ok (.iconst 1, 1) := by decide +kernel
theorem dX11_weigh_13 : decode cX11_weigh 13 = .ok (.if_icmp .lt 9, 3) := by decide +kernel
theorem dX11_weigh_16 : decode cX11_weigh 16 = .ok (.iload_n 2, 1) := by decide +kernel
theorem dX11_weigh_17 : decode cX11_weigh 17 = .ok (.bipush 9, 2) := by decide +kernel
theorem dX11_weigh_19 : decode cX11_weigh 19 = .ok (.if_icmp .le 5, 3) := by decide +kernel
theorem dX11_weigh_22 : decode cX11_weigh 22 = .ok (.iconst (-1), 1) := by decide +kernel
theorem dX11_weigh_23 : decode cX11_weigh 23 = .ok (.ireturn, 1) := by decide +kernel
theorem dX11_weigh_24 : decode cX11_weigh 24 = .ok (.aload_n 0, 1) := by decide +kernel
theorem dX11_weigh_25 : decode cX11_weigh 25 = .ok (.getfield 33, 3) := by decide +kernel
theorem dX11_weigh_28 : decode cX11_weigh 28 = .ok (.aload_n 0, 1) := by decide +kernel
theorem dX11_weigh_29 : decode cX11_weigh 29 = .ok (.getfield 26, 3) := by decide +kernel
theorem dX11_weigh_32 : decode cX11_weigh 32 = .ok (.invokevirtual 230, 3) := by decide +kernel
theorem dX11_weigh_35 : decode cX11_weigh 35 = .ok (.aload_n 0, 1) := by decide +kernel
theorem dX11_weigh_36 : decode cX11_weigh 36 = .ok (.getfield 26, 3) := by decide +kernel
theorem dX11_weigh_39 : decode cX11_weigh 39 = .ok (.iload_n 1, 1) := by decide +kernel
theorem dX11_weigh_40 : decode cX11_weigh 40 = .ok (.iload_n 2, 1) := by decide +kernel
theorem dX11_weigh_41 : decode cX11_weigh 41 = .ok (.invokevirtual 252, 3) := by decide +kernel
theorem dX11_weigh_44 : decode cX11_weigh 44 = .ok (.ifCond .ne 5, 3) := by decide +kernel
theorem dX11_weigh_47 : decode cX11_weigh 47 = .ok (.iconst 1, 1) := by decide +kernel
theorem dX11_weigh_48 : decode cX11_weigh 48 = .ok (.ireturn, 1) := by decide +kernel
theorem dX11_weigh_49 : decode cX11_weigh 49 = .ok (.aload_n 0, 1) := by decide +kernel
theorem dX11_weigh_50 : decode cX11_weigh 50 = .ok (.invokevirtual 239, 3) := by decide +kernel
theorem dX11_weigh_53 : decode cX11_weigh 53 = .ok (.iconst 0, 1) := by decide +kernel
theorem dX11_weigh_54 : decode cX11_weigh 54 = .ok (.ireturn, 1) := by decide +kernel
theorem dX11_drawn_0 : decode cX11_drawn 0 = .ok (.iload_n 1, 1) := by decide +kernel
theorem dX11_drawn_1 : decode cX11_drawn 1 = .ok (.iconst 1, 1) := by decide +kernel
theorem dX11_drawn_2 : decode cX11_drawn 2 = .ok (.if_icmp .lt 9, 3) := by decide +kernel
theorem dX11_drawn_5 : decode cX11_drawn 5 = .ok (.iload_n 1, 1) := by decide +kernel
theorem dX11_drawn_6 : decode cX11_drawn 6 = .ok (.bipush 60, 2) := by decide +kernel
theorem dX11_drawn_8 : decode cX11_drawn 8 = .ok (.if_icmp .le 5, 3) := by decide +kernel
theorem dX11_drawn_11 : decode cX11_drawn 11 = .ok (.iconst (-1), 1) := by decide +kernel
theorem dX11_drawn_12 : decode cX11_drawn 12 = .ok (.ireturn, 1) := by decide +kernel
theorem dX11_drawn_13 : decode cX11_drawn 13 = .ok (.aload_n 0, 1) := by decide +kernel
theorem dX11_drawn_14 : decode cX11_drawn 14 = .ok (.getfield 33, 3) := by decide +kernel
theorem dX11_drawn_17 : decode cX11_drawn 17 = .ok (.aload_n 0, 1) := by decide +kernel
theorem dX11_drawn_18 : decode cX11_drawn 18 = .ok (.getfield 26, 3) := by decide +kernel
theorem dX11_drawn_21 : decode cX11_drawn 21 = .ok (.invokevirtual 230, 3) := by decide +kernel
theorem dX11_drawn_24 : decode cX11_drawn 24 = .ok (.aload_n 0, 1) := by decide +kernel
theorem dX11_drawn_25 : decode cX11_drawn 25 = .ok (.getfield 50, 3) := by decide +kernel
theorem dX11_drawn_28 : decode cX11_drawn 28 = .ok (.iload_n 2, 1) := by decide +kernel
theorem dX11_drawn_29 : decode cX11_drawn 29 = .ok (.putfield 255, 3) := by decide +kernel
theorem dX11_drawn_32 : decode cX11_drawn 32 = .ok (.iconst 0, 1) := by decide +kernel
theorem dX11_drawn_33 : decode cX11_drawn 33 = .ok (.istore_n 3, 1) := by decide +kernel
theorem dX11_drawn_34 : decode cX11_drawn 34 = .ok (.iconst 0, 1) := by decide +kernel
theorem dX11_drawn_35 : decode cX11_drawn 35 = .ok (.istore 4, 2) := by decide +kernel
theorem dX11_drawn_37 : decode cX11_drawn 37 = .ok (.iload 4, 2) := by decide +kernel
theorem dX11_drawn_39 : decode cX11_drawn 39 = .ok (.iload_n 1, 1) := by decide +kernel
theorem dX11_drawn_40 : decode cX11_drawn 40 = .ok (.if_icmp .ge 19, 3) := by decide +kernel
theorem dX11_drawn_43 : decode cX11_drawn 43 = .ok (.aload_n 0, 1) := by decide +kernel
theorem dX11_drawn_44 : decode cX11_drawn 44 = .ok (.invokevirtual 258, 3) := by decide +kernel
theorem dX11_drawn_47 : decode cX11_drawn 47 = .ok (.ifCond .eq 6, 3) := by decide +kernel
theorem dX11_drawn_50 : decode cX11_drawn 50 = .ok (.iinc 3 1, 3) := by decide +kernel
theorem dX11_drawn_53 : decode cX11_drawn 53 = .ok (.iinc 4 1, 3) := by decide +kernel
theorem dX11_drawn_56 : decode cX11_drawn 56 = .ok (.goto (-19), 3) := by decide +kernel
theorem dX11_drawn_59 : decode cX11_drawn 59 = .ok (.iload_n 3, 1) := by decide +kernel
theorem dX11_drawn_60 : decode cX11_drawn 60 = .ok (.ifCond .le 7, 3) := by decide +kernel
theorem dX11_drawn_63 : decode cX11_drawn 63 = .ok (.aload_n 0, 1) := by decide +kernel
theorem dX11_drawn_64 : decode cX11_drawn 64 = .ok (.invokevirtual 239, 3) := by decide +kernel
theorem dX11_drawn_67 : decode cX11_drawn 67 = .ok (.iload_n 3, 1) := by decide +kernel
theorem dX11_drawn_68 : decode cX11_drawn 68 = .ok (.ireturn, 1) := by decide +kernel
theorem dX11_undo_0 : decode cX11_undo 0 = .ok (.aload_n 0, 1) := by decide +kernel
theorem dX11_undo_1 : decode cX11_undo 1 = .ok (.getfield 33, 3) := by decide +kernel
theorem dX11_undo_4 : decode cX11_undo 4 = .ok (.aload_n 0, 1) := by decide +kernel
theorem dX11_undo_5 : decode cX11_undo 5 = .ok (.getfield 26, 3) := by decide +kernel
theorem dX11_undo_8 : decode cX11_undo 8 = .ok (.invokevirtual 261, 3) := by decide +kernel
theorem dX11_undo_11 : decode cX11_undo 11 = .ok (.ifCond .ne 5, 3) := by decide +kernel
theorem dX11_undo_14 : decode cX11_undo 14 = .ok (.iconst (-1), 1) := by decide +kernel
theorem dX11_undo_15 : decode cX11_undo 15 = .ok (.ireturn, 1) := by decide +kernel
theorem dX11_undo_16 : decode cX11_undo 16 = .ok (.aload_n 0, 1) := by decide +kernel
theorem dX11_undo_17 : decode cX11_undo 17 = .ok (.invokevirtual 117, 3) := by decide +kernel
theorem dX11_undo_20 : decode cX11_undo 20 = .ok (.aload_n 0, 1) := by decide +kernel
theorem dX11_undo_21 : decode cX11_undo 21 = .ok (.getfield 33, 3) := by decide +kernel
theorem dX11_undo_24 : decode cX11_undo 24 = .ok (.getfield 142, 3) := by decide +kernel
theorem dX11_undo_27 : decode cX11_undo 27 = .ok (.ireturn, 1) := by decide +kernel
theorem dX11_image_0 : decode cX11_image 0 = .ok (.aload_n 0, 1) := by decide +kernel
theorem dX11_image_1 : decode cX11_image 1 = .ok (.iload_n 1, 1) := by decide +kernel
theorem dX11_image_2 : decode cX11_image 2 = .ok (.invokevirtual 265, 3) := by decide +kernel
theorem dX11_image_5 : decode cX11_image 5 = .ok (.astore_n 2, 1) := by decide +kernel
theorem dX11_image_6 : decode cX11_image 6 = .ok (.aload_n 2, 1) := by decide +kernel
theorem dX11_image_7 : decode cX11_image 7 = .ok (.ifnonnull 5, 3) := by decide +kernel
theorem dX11_image_10 : decode cX11_image 10 = .ok (.iconst 0, 1) := by decide +kernel
theorem dX11_image_11 : decode cX11_image 11 = .ok (.ireturn, 1) := by decide +kernel
theorem dX11_image_12 : decode cX11_image 12 = .ok (.aload_n 2, 1) := by decide +kernel
theorem dX11_image_13 : decode cX11_image 13 = .ok (.getfield 269, 3) := by decide +kernel
theorem dX11_image_16 : decode cX11_image 16 = .ok (.aload_n 0, 1) := by decide +kernel
theorem dX11_image_17 : decode cX11_image 17 = .ok (.getfield 26, 3) := by decide +kernel
theorem dX11_image_20 : decode cX11_image 20 = .ok (.invokevirtual 110, 3) := by decide +kernel
theorem dX11_image_23 : decode cX11_image 23 = .ok (.aload_n 2, 1) := by decide +kernel
theorem dX11_image_24 : decode cX11_image 24 = .ok (.iconst 1, 1) := by decide +kernel
theorem dX11_image_25 : decode cX11_image 25 = .ok (.putfield 272, 3) := by decide +kernel
theorem dX11_image_28 : decode cX11_image 28 = .ok (.iconst 1, 1) := by decide +kernel
theorem dX11_image_29 : decode cX11_image 29 = .ok (.ireturn, 1) := by decide +kernel
theorem dX11_restore_0 : decode cX11_restore 0 = .ok (.aload_n 0, 1) := by decide +kernel
theorem dX11_restore_1 : decode cX11_restore 1 = .ok (.iload_n 1, 1) := by decide +kernel
theorem dX11_restore_2 : decode cX11_restore 2 = .ok (.invokevirtual 265, 3) := by decide +kernel
theorem dX11_restore_5 : decode cX11_restore 5 = .ok (.astore_n 2, 1) := by decide +kernel
theorem dX11_restore_6 : decode cX11_restore 6 = .ok (.aload_n 2, 1) := by decide +kernel
theorem dX11_restore_7 : decode cX11_restore 7 = .ok (.ifnull 10, 3) := by decide +kernel
theorem dX11_restore_10 : decode cX11_restore 10 = .ok (.aload_n 2, 1) := by decide +kernel
theorem dX11_restore_11 : decode cX11_restore 11 = .ok (.getfield 272, 3) := by decide +kernel
theorem dX11_restore_14 : decode cX11_restore 14 = .ok (.ifCond .ne 5, 3) := by decide +kernel
theorem dX11_restore_17 : decode cX11_restore 17 = .ok (.iconst 0, 1) := by decide +kernel
theorem dX11_restore_18 : decode cX11_restore 18 = .ok (.ireturn, 1) := by decide +kernel
theorem dX11_restore_19 : decode cX11_restore 19 = .ok (.aload_n 0, 1) := by decide +kernel
theorem dX11_restore_20 : decode cX11_restore 20 = .ok (.getfield 26, 3) := by decide +kernel
theorem dX11_restore_23 : decode cX11_restore 23 = .ok (.aload_n 2, 1) := by decide +kernel
theorem dX11_restore_24 : decode cX11_restore 24 = .ok (.getfield 269, 3) := by decide +kernel
theorem dX11_restore_27 : decode cX11_restore 27 = .ok (.invokevirtual 110, 3) := by decide +kernel
theorem dX11_restore_30 : decode cX11_restore 30 = .ok (.aload_n 0, 1) := by decide +kernel
theorem dX11_restore_31 : decode cX11_restore 31 = .ok (.getfield 33, 3) := by decide +kernel
theorem dX11_restore_34 : decode cX11_restore 34 = .ok (.invokevirtual 114, 3) := by decide +kernel
theorem dX11_restore_37 : decode cX11_restore 37 = .ok (.aload_n 0, 1) := by decide +kernel
theorem dX11_restore_38 : decode cX11_restore 38 = .ok (.invokevirtual 117, 3) := by decide +kernel
theorem dX11_restore_41 : decode cX11_restore 41 = .ok (.iconst 1, 1) := by decide +kernel
theorem dX11_restore_42 : decode cX11_restore 42 = .ok (.ireturn, 1) := by decide +kernel
theorem dX11_markChanged_0 : decode cX11_markChanged 0 = .ok (.aload_n 0, 1) := by decide +kernel
theorem dX11_markChanged_1 : decode cX11_markChanged 1 = .ok (.iconst 1, 1) := by decide +kernel
theorem dX11_markChanged_2 : decode cX11_markChanged 2 = .ok (.putfield 75, 3) := by decide +kernel
theorem dX11_markChanged_5 : decode cX11_markChanged 5 = .ok (.aload_n 0, 1) := by decide +kernel
theorem dX11_markChanged_6 : decode cX11_markChanged 6 = .ok (.iconst 1, 1) := by decide +kernel
theorem dX11_markChanged_7 : decode cX11_markChanged 7 = .ok (.putfield 79, 3) := by decide +kernel
theorem dX11_markChanged_10 : decode cX11_markChanged 10 = .ok (.aload_n 0, 1) := by decide +kernel
theorem dX11_markChanged_11 : decode cX11_markChanged 11 = .ok (.iconst 1, 1) := by decide +kernel
theorem dX11_markChanged_12 : decode cX11_markChanged 12 = .ok (.putfield 82, 3) := by decide +kernel
theorem dX11_markChanged_15 : decode cX11_markChanged 15 = .ok (.return_, 1) := by decide +kernel
theorem dX11_keepAct_0 : decode cX11_keepAct 0 = .ok (.aload_n 0, 1) := by decide +kernel
theorem dX11_keepAct_1 : decode cX11_keepAct 1 = .ok (.getfield 33, 3) := by decide +kernel
theorem dX11_keepAct_4 : decode cX11_keepAct 4 = .ok (.invokevirtual 275, 3) := by decide +kernel
theorem dX11_keepAct_7 : decode cX11_keepAct 7 = .ok (.aload_n 0, 1) := by decide +kernel
theorem dX11_keepAct_8 : decode cX11_keepAct 8 = .ok (.invokevirtual 117, 3) := by decide +kernel
theorem dX11_keepAct_11 : decode cX11_keepAct 11 = .ok (.return_, 1) := by decide +kernel
theorem dX11_keptAt_0 : decode cX11_keptAt 0 = .ok (.iload_n 1, 1) := by decide +kernel
theorem dX11_keptAt_1 : decode cX11_keptAt 1 = .ok (.ifCond .ne 10, 3) := by decide +kernel
theorem dX11_keptAt_4 : decode cX11_keptAt 4 = .ok (.aload_n 0, 1) := by decide +kernel
theorem dX11_keptAt_5 : decode cX11_keptAt 5 = .ok (.getfield 40, 3) := by decide +kernel
theorem dX11_keptAt_8 : decode cX11_keptAt 8 = .ok (.goto 16, 3) := by decide +kernel
theorem dX11_keptAt_11 : decode cX11_keptAt 11 = .ok (.iload_n 1, 1) := by decide +kernel
theorem dX11_keptAt_12 : decode cX11_keptAt 12 = .ok (.iconst 1, 1) := by decide +kernel
theorem dX11_keptAt_13 : decode cX11_keptAt 13 = .ok (.if_icmp .ne 10, 3) := by decide +kernel
theorem dX11_keptAt_16 : decode cX11_keptAt 16 = .ok (.aload_n 0, 1) := by decide +kernel
theorem dX11_keptAt_17 : decode cX11_keptAt 17 = .ok (.getfield 44, 3) := by decide +kernel
theorem dX11_keptAt_20 : decode cX11_keptAt 20 = .ok (.goto 4, 3) := by decide +kernel
theorem dX11_keptAt_23 : decode cX11_keptAt 23 = .ok (.aconst_null, 1) := by decide +kernel
theorem dX11_keptAt_24 : decode cX11_keptAt 24 = .ok (.areturn, 1) := by decide +kernel
theorem dX11_ringsNow_0 : decode cX11_ringsNow 0 = .ok (.aload_n 0, 1) := by decide +kernel
theorem dX11_ringsNow_1 : decode cX11_ringsNow 1 = .ok (.getfield 75, 3) := by decide +kernel
theorem dX11_ringsNow_4 : decode cX11_ringsNow 4 = .ok (.ifCond .eq 19, 3) := by decide +kernel
theorem dX11_ringsNow_7 : decode cX11_ringsNow 7 = .ok (.aload_n 0, 1) := by decide +kernel
theorem dX11_ringsNow_8 : decode cX11_ringsNow 8 = .ok (.getfield 57, 3) := by decide +kernel
theorem dX11_ringsNow_11 : decode cX11_ringsNow 11 = .ok (.aload_n 0, 1) := by decide +kernel
theorem dX11_ringsNow_12 : decode cX11_ringsNow 12 = .ok (.getfield 26, 3) := by decide +kernel
theorem dX11_ringsNow_15 : decode cX11_ringsNow 15 = .ok (.invokevirtual 278, 3) := by decide +kernel
theorem dX11_ringsNow_18 : decode cX11_ringsNow 18 = .ok (.aload_n 0, 1) := by decide +kernel
theorem dX11_ringsNow_19 : decode cX11_ringsNow 19 = .ok (.iconst 0, 1) := by decide +kernel
theorem dX11_ringsNow_20 : decode cX11_ringsNow 20 = .ok (.putfield 75, 3) := by decide +kernel
theorem dX11_ringsNow_23 : decode cX11_ringsNow 23 = .ok (.aload_n 0, 1) := by decide +kernel
theorem dX11_ringsNow_24 : decode cX11_ringsNow 24 = .ok (.getfield 57, 3) := by decide +kernel
theorem dX11_ringsNow_27 : decode cX11_ringsNow 27 = .ok (.areturn, 1) := by decide +kernel
theorem dX11_packingNow_0 : decode cX11_packingNow 0 = .ok (.aload_n 0, 1) := by decide +kernel
theorem dX11_packingNow_1 : decode cX11_packingNow 1 = .ok (.getfield 79, 3) := by decide +kernel
theorem dX11_packingNow_4 : decode cX11_packingNow 4 = .ok (.ifCond .eq 26, 3) := by decide +kernel
theorem dX11_packingNow_7 : decode cX11_packingNow 7 = .ok (.aload_n 0, 1) := by decide +kernel
theorem dX11_packingNow_8 : decode cX11_packingNow 8 = .ok (.getfield 64, 3) := by decide +kernel
theorem dX11_packingNow_11 : decode cX11_packingNow 11 = .ok (.aload_n 0, 1) := by decide +kernel
theorem dX11_packingNow_12 : decode cX11_packingNow 12 = .ok (.getfield 26, 3) := by decide +kernel
theorem dX11_packingNow_15 : decode cX11_packingNow 15 = .ok (.getfield 126, 3) := by decide +kernel
theorem dX11_packingNow_18 : decode cX11_packingNow 18 = .ok (.aload_n 0, 1) := by decide +kernel
theorem dX11_packingNow_19 : decode cX11_packingNow 19 = .ok (.invokevirtual 172, 3) := by decide +kernel
theorem dX11_packingNow_22 : decode cX11_packingNow 22 = .ok (.invokevirtual 281, 3) := by decide +kernel
theorem dX11_packingNow_25 : decode cX11_packingNow 25 = .ok (.aload_n 0, 1) := by decide +kernel
theorem dX11_packingNow_26 : decode cX11_packingNow 26 = .ok (.iconst 0, 1) := by decide +kernel
theorem dX11_packingNow_27 : decode cX11_packingNow 27 = .ok (.putfield 79, 3) := by decide +kernel
theorem dX11_packingNow_30 : decode cX11_packingNow 30 = .ok (.aload_n 0, 1) := by decide +kernel
theorem dX11_packingNow_31 : decode cX11_packingNow 31 = .ok (.getfield 64, 3) := by decide +kernel
theorem dX11_packingNow_34 : decode cX11_packingNow 34 = .ok (.areturn, 1) := by decide +kernel
theorem dX11_discountNow_0 : decode cX11_discountNow 0 = .ok (.aload_n 0, 1) := by decide +kernel
theorem dX11_discountNow_1 : decode cX11_discountNow 1 = .ok (.getfield 82, 3) := by decide +kernel
theorem dX11_discountNow_4 : decode cX11_discountNow 4 = .ok (.ifCond .eq 23, 3) := by decide +kernel
theorem dX11_discountNow_7 : decode cX11_discountNow 7 = .ok (.aload_n 0, 1) := by decide +kernel
theorem dX11_discountNow_8 : decode cX11_discountNow 8 = .ok (.getfield 71, 3) := by decide +kernel
theorem dX11_discountNow_11 : decode cX11_discountNow 11 = .ok (.aload_n 0, 1) := by decide +kernel
theorem dX11_discountNow_12 : decode cX11_discountNow 12 = .ok (.getfield 26, 3) := by decide +kernel
theorem dX11_discountNow_15 : decode cX11_discountNow 15 = .ok (.aload_n 0, 1) := by decide +kernel
theorem dX11_discountNow_16 : decode cX11_discountNow 16 = .ok (.invokevirtual 172, 3) := by decide +kernel
theorem dX11_discountNow_19 : decode cX11_discountNow 19 = .ok (.invokevirtual 284, 3) := by decide +kernel
theorem dX11_discountNow_22 : decode cX11_discountNow 22 = .ok (.aload_n 0, 1) := by decide +kernel
theorem dX11_discountNow_23 : decode cX11_discountNow 23 = .ok (.iconst 0, 1) := by decide +kernel
theorem dX11_discountNow_24 : decode cX11_discountNow 24 = .ok (.putfield 82, 3) := by decide +kernel
theorem dX11_discountNow_27 : decode cX11_discountNow 27 = .ok (.aload_n 0, 1) := by decide +kernel
theorem dX11_discountNow_28 : decode cX11_discountNow 28 = .ok (.getfield 71, 3) := by decide +kernel
theorem dX11_discountNow_31 : decode cX11_discountNow 31 = .ok (.areturn, 1) := by decide +kernel
theorem dX11_tellSet_0 : decode cX11_tellSet 0 = .ok (.iload_n 2, 1) := by decide +kernel
theorem dX11_tellSet_1 : decode cX11_tellSet 1 = .ok (.ifCond .ne 10, 3) := by decide +kernel
theorem dX11_tellSet_4 : decode cX11_tellSet 4 = .ok (.iload_n 1, 1) := by decide +kernel
theorem dX11_tellSet_5 : decode cX11_tellSet 5 = .ok (.invokestatic 189, 3) := by decide +kernel
theorem dX11_tellSet_8 : decode cX11_tellSet 8 = .ok (.goto 20, 3) := by decide +kernel
theorem dX11_tellSet_11 : decode cX11_tellSet 11 = .ok (.iload_n 2, 1) := by decide +kernel
theorem dX11_tellSet_12 : decode cX11_tellSet 12 = .ok (.iconst 1, 1) := by decide +kernel
theorem dX11_tellSet_13 : decode cX11_tellSet 13 = .ok (.if_icmp .ne 7, 3) := by decide +kernel
theorem dX11_tellSet_16 : decode cX11_tellSet 16 = .ok (.iload_n 1, 1) := by decide +kernel
theorem dX11_tellSet_17 : decode cX11_tellSet 17 = .ok (.goto 11, 3) := by decide +kernel
theorem dX11_tellSet_20 : decode cX11_tellSet 20 = .ok (.aload_n 0, 1) := by decide +kernel
theorem dX11_tellSet_21 : decode cX11_tellSet 21 = .ok (.getfield 26, 3) := by decide +kernel
theorem dX11_tellSet_24 : decode cX11_tellSet 24 = .ok (.iload_n 1, 1) := by decide +kernel
theorem dX11_tellSet_25 : decode cX11_tellSet 25 = .ok (.invokevirtual 139, 3) := by decide +kernel
theorem dX11_tellSet_28 : decode cX11_tellSet 28 = .ok (.ireturn, 1) := by decide +kernel
theorem dX11_lightestCut_0 : decode cX11_lightestCut 0 = .ok (.aload_n 0, 1) := by decide +kernel
theorem dX11_lightestCut_1 : decode cX11_lightestCut 1 = .ok (.invokevirtual 172, 3) := by decide +kernel
theorem dX11_lightestCut_4 : decode cX11_lightestCut 4 = .ok (.astore_n 1, 1) := by decide +kernel
theorem dX11_lightestCut_5 : decode cX11_lightestCut 5 = .ok (.aload_n 0, 1) := by decide +kernel
theorem dX11_lightestCut_6 : decode cX11_lightestCut 6 = .ok (.getfield 26, 3) := by decide +kernel
theorem dX11_lightestCut_9 : decode cX11_lightestCut 9 = .ok (.getfield 126, 3) := by decide +kernel
theorem dX11_lightestCut_12 : decode cX11_lightestCut 12 = .ok (.istore_n 2, 1) := by decide +kernel
theorem dX11_lightestCut_13 : decode cX11_lightestCut 13 = .ok (.aload_n 0, 1) := by decide +kernel
theorem dX11_lightestCut_14 : decode cX11_lightestCut 14 = .ok (.getfield 26, 3) := by decide +kernel
theorem dX11_lightestCut_17 : decode cX11_lightestCut 17 = .ok (.iload_n 2, 1) := by decide +kernel
theorem dX11_lightestCut_18 : decode cX11_lightestCut 18 = .ok (.invokevirtual 139, 3) := by decide +kernel
theorem dX11_lightestCut_21 : decode cX11_lightestCut 21 = .ok (.istore_n 3, 1) := by decide +kernel
theorem dX11_lightestCut_22 : decode cX11_lightestCut 22 = .ok (.iconst 0, 1) := by decide +kernel
theorem dX11_lightestCut_23 : decode cX11_lightestCut 23 = .ok (.istore 4, 2) := by decide +kernel
theorem dX11_lightestCut_25 : decode cX11_lightestCut 25 = .ok (.iload 4, 2) := by decide +kernel
theorem dX11_lightestCut_27 : decode cX11_lightestCut 27 = .ok (.aload_n 0, 1) := by decide +kernel
theorem dX11_lightestCut_28 : decode cX11_lightestCut 28 = .ok (.getfield 26, 3) := by decide +kernel
theorem dX11_lightestCut_31 : decode cX11_lightestCut 31 = .ok (.getfield 126, 3) := by decide +kernel
theorem dX11_lightestCut_34 : decode cX11_lightestCut 34 = .ok (.if_icmp .gt 63, 3) := by decide +kernel
theorem dX11_lightestCut_37 : decode cX11_lightestCut 37 = .ok (.aload_n 0, 1) := by decide +kernel
theorem dX11_lightestCut_38 : decode cX11_lightestCut 38 = .ok (.getfield 26, 3) := by decide +kernel
theorem dX11_lightestCut_41 : decode cX11_lightestCut 41 = .ok (.iload 4, 2) := by decide +kernel
theorem dX11_lightestCut_43 : decode cX11_lightestCut 43 = .ok (.invokevirtual 169, 3) := by decide +kernel
theorem dX11_lightestCut_46 : decode cX11_lightestCut 46 = .ok (.ifCond .eq 45, 3) := by decide +kernel
theorem dX11_lightestCut_49 : decode cX11_lightestCut 49 = .ok (.aload_n 1, 1) := by decide +kernel
theorem dX11_lightestCut_50 : decode cX11_lightestCut 50 = .ok (.aload_n 0, 1) := by decide +kernel
theorem dX11_lightestCut_51 : decode cX11_lightestCut 51 = .ok (.getfield 26, 3) := by decide +kernel
theorem dX11_lightestCut_54 : decode cX11_lightestCut 54 = .ok (.getfield 126, 3) := by decide +kernel
theorem dX11_lightestCut_57 : decode cX11_lightestCut 57 = .ok (.iload 4, 2) := by decide +kernel
theorem dX11_lightestCut_59 : decode cX11_lightestCut 59 = .ok (.iconst (-1), 1) := by decide +kernel
theorem dX11_lightestCut_60 : decode cX11_lightestCut 60 = .ok (.ixor, 1) := by decide +kernel
theorem dX11_lightestCut_61 : decode cX11_lightestCut 61 = .ok (.iand, 1) := by decide +kernel
theorem dX11_lightestCut_62 : decode cX11_lightestCut 62 = .ok (.invokevirtual 176, 3) := by decide +kernel
theorem dX11_lightestCut_65 : decode cX11_lightestCut 65 = .ok (.ifCond .eq 26, 3) := by decide +kernel
theorem dX11_lightestCut_68 : decode cX11_lightestCut 68 = .ok (.aload_n 0, 1) := by decide +kernel
theorem dX11_lightestCut_69 : decode cX11_lightestCut 69 = .ok (.getfield 26, 3) := by decide +kernel
theorem dX11_lightestCut_72 : decode cX11_lightestCut 72 = .ok (.iload 4, 2) := by decide +kernel
theorem dX11_lightestCut_74 : decode cX11_lightestCut 74 = .ok (.invokevirtual 139, 3) := by decide +kernel
theorem dX11_lightestCut_77 : decode cX11_lightestCut 77 = .ok (.istore 5, 2) := by decide +kernel
theorem dX11_lightestCut_79 : decode cX11_lightestCut 79 = .ok (.iload 5, 2) := by decide +kernel
theorem dX11_lightestCut_81 : decode cX11_lightestCut 81 = .ok (.iload_n 3, 1) := by decide +kernel
theorem dX11_lightestCut_82 : decode cX11_lightestCut 82 = .ok (.if_icmp .ge 9, 3) := by decide +kernel
theorem dX11_lightestCut_85 : decode cX11_lightestCut 85 = .ok (.iload 5, 2) := by decide +kernel
theorem dX11_lightestCut_87 : decode cX11_lightestCut 87 = .ok (.istore_n 3, 1) := by decide +kernel
theorem dX11_lightestCut_88 : decode cX11_lightestCut 88 = .ok (.iload 4, 2) := by decide +kernel
theorem dX11_lightestCut_90 : decode cX11_lightestCut 90 = .ok (.istore_n 2, 1) := by decide +kernel
theorem dX11_lightestCut_91 : decode cX11_lightestCut 91 = .ok (.iinc 4 1, 3) := by decide +kernel
theorem dX11_lightestCut_94 : decode cX11_lightestCut 94 = .ok (.goto (-69), 3) := by decide +kernel
theorem dX11_lightestCut_97 : decode cX11_lightestCut 97 = .ok (.iload_n 2, 1) := by decide +kernel
theorem dX11_lightestCut_98 : decode cX11_lightestCut 98 = .ok (.ireturn, 1) := by decide +kernel
theorem dX11_doDeed_0 : decode cX11_doDeed 0 = .ok (.aload_n 0, 1) := by decide +kernel
theorem dX11_doDeed_1 : decode cX11_doDeed 1 = .ok (.getfield 50, 3) := by decide +kernel
theorem dX11_doDeed_4 : decode cX11_doDeed 4 = .ok (.bipush 8, 2) := by decide +kernel
theorem dX11_doDeed_6 : decode cX11_doDeed 6 = .ok (.invokevirtual 288, 3) := by decide +kernel
theorem dX11_doDeed_9 : decode cX11_doDeed 9 = .ok (.istore_n 1, 1) := by decide +kernel
theorem dX11_doDeed_10 : decode cX11_doDeed 10 = .ok (.aload_n 0, 1) := by decide +kernel
theorem dX11_doDeed_11 : decode cX11_doDeed 11 = .ok (.getfield 26, 3) := by decide +kernel
theorem dX11_doDeed_14 : decode cX11_doDeed 14 = .ok (.getfield 123, 3) := by decide +kernel
theorem dX11_doDeed_17 : decode cX11_doDeed 17 = .ok (.ifCond .ne 5, 3) := by decide +kernel
theorem dX11_doDeed_20 : decode cX11_doDeed 20 = .ok (.iconst 0, 1) := by decide +kernel
theorem dX11_doDeed_21 : decode cX11_doDeed 21 = .ok (.ireturn, 1) := by decide +kernel
theorem dX11_doDeed_22 : decode cX11_doDeed 22 = .ok (.aload_n 0, 1) := by decide +kernel
theorem dX11_doDeed_23 : decode cX11_doDeed 23 = .ok (.getfield 50, 3) := by decide +kernel
theorem dX11_doDeed_26 : decode cX11_doDeed 26 = .ok (.aload_n 0, 1) := by decide +kernel
theorem dX11_doDeed_27 : decode cX11_doDeed 27 = .ok (.getfield 26, 3) := by decide +kernel
theorem dX11_doDeed_30 : decode cX11_doDeed 30 = .ok (.getfield 123, 3) := by decide +kernel
theorem dX11_doDeed_33 : decode cX11_doDeed 33 = .ok (.invokevirtual 288, 3) := by decide +kernel
theorem dX11_doDeed_36 : decode cX11_doDeed 36 = .ok (.istore_n 2, 1) := by decide +kernel
theorem dX11_doDeed_37 : decode cX11_doDeed 37 = .ok (.iload_n 1, 1) := by decide +kernel
theorem dX11_doDeed_38 : decode cX11_doDeed 38 = .ok (.ifCond .ne 12, 3) := by decide +kernel
theorem dX11_doDeed_41 : decode cX11_doDeed 41 = .ok (.aload_n 0, 1) := by decide +kernel
theorem dX11_doDeed_42 : decode cX11_doDeed 42 = .ok (.getfield 26, 3) := by decide +kernel
theorem dX11_doDeed_45 : decode cX11_doDeed 45 = .ok (.iload_n 2, 1) := by decide +kernel
theorem dX11_doDeed_46 : decode cX11_doDeed 46 = .ok (.invokevirtual 242, 3) := by decide +kernel
theorem dX11_doDeed_49 : decode cX11_doDeed 49 = .ok (.ireturn, 1) := by decide +kernel
theorem dX11_doDeed_50 : decode cX11_doDeed 50 = .ok (.iload_n 1, 1) := by decide +kernel
theorem dX11_doDeed_51 : decode cX11_doDeed 51 = .ok (.iconst 1, 1) := by decide +kernel
theorem dX11_doDeed_52 : decode cX11_doDeed 52 = .ok (.if_icmp .ne 23, 3) := by decide +kernel
theorem dX11_doDeed_55 : decode cX11_doDeed 55 = .ok (.aload_n 0, 1) := by decide +kernel
theorem dX11_doDeed_56 : decode cX11_doDeed 56 = .ok (.getfield 26, 3) := by decide +kernel
theorem dX11_doDeed_59 : decode cX11_doDeed 59 = .ok (.iload_n 2, 1) := by decide +kernel
theorem dX11_doDeed_60 : decode cX11_doDeed 60 = .ok (.aload_n 0, 1) := by decide +kernel
theorem dX11_doDeed_61 : decode cX11_doDeed 61 = .ok (.getfield 50, 3) := by decide +kernel
theorem dX11_doDeed_64 : decode cX11_doDeed 64 = .ok (.bipush 9, 2) := by decide +kernel
theorem dX11_doDeed_66 : decode cX11_doDeed 66 = .ok (.invokevirtual 288, 3) := by decide +kernel
theorem dX11_doDeed_69 : decode cX11_doDeed 69 = .ok (.iconst 1, 1) := by decide +kernel
theorem dX11_doDeed_70 : decode cX11_doDeed 70 = .ok (.iadd, 1) := by decide +kernel
theorem dX11_doDeed_71 : decode cX11_doDeed 71 = .ok (.invokevirtual 252, 3) := by decide +kernel
theorem dX11_doDeed_74 : decode cX11_doDeed 74 = .ok (.ireturn, 1) := by decide +kernel
theorem dX11_doDeed_75 : decode cX11_doDeed 75 = .ok (.aload_n 0, 1) := by decide +kernel
theorem dX11_doDeed_76 : decode cX11_doDeed 76 = .ok (.getfield 50, 3) := by decide +kernel
theorem dX11_doDeed_79 : decode cX11_doDeed 79 = .ok (.aload_n 0, 1) := by decide +kernel
theorem dX11_doDeed_80 : decode cX11_doDeed 80 = .ok (.getfield 26, 3) := by decide +kernel
theorem dX11_doDeed_83 : decode cX11_doDeed 83 = .ok (.getfield 123, 3) := by decide +kernel
theorem dX11_doDeed_86 : decode cX11_doDeed 86 = .ok (.invokevirtual 288, 3) := by decide +kernel
theorem dX11_doDeed_89 : decode cX11_doDeed 89 = .ok (.istore_n 3, 1) := by decide +kernel
theorem dX11_doDeed_90 : decode cX11_doDeed 90 = .ok (.iload_n 1, 1) := by decide +kernel
theorem dX11_doDeed_91 : decode cX11_doDeed 91 = .ok (.iconst 2, 1) := by decide +kernel
theorem dX11_doDeed_92 : decode cX11_doDeed 92 = .ok (.if_icmp .ne 15, 3) := by decide +kernel
theorem dX11_doDeed_95 : decode cX11_doDeed 95 = .ok (.aload_n 0, 1) := by decide +kernel
theorem dX11_doDeed_96 : decode cX11_doDeed 96 = .ok (.getfield 26, 3) := by decide +kernel
theorem dX11_doDeed_99 : decode cX11_doDeed 99 = .ok (.iload_n 2, 1) := by decide +kernel
theorem dX11_doDeed_100 : decode cX11_doDeed 100 = .ok (.iload_n 3, 1) := by decide +kernel
theorem dX11_doDeed_101 : decode cX11_doDeed 101 = .ok (.invokevirtual 249, 3) := by decide +kernel
theorem dX11_doDeed_104 : decode cX11_doDeed 104 = .ok (.goto 12, 3) := by decide +kernel
theorem dX11_doDeed_107 : decode cX11_doDeed 107 = .ok (.aload_n 0, 1) := by decide +kernel
theorem dX11_doDeed_108 : decode cX11_doDeed 108 = .ok (.getfield 26, 3) := by decide +kernel
theorem dX11_doDeed_111 : decode cX11_doDeed 111 = .ok (.iload_n 2, 1) := by decide +kernel
theorem dX11_doDeed_112 : decode cX11_doDeed 112 = .ok (.iload_n 3, 1) := by decide +kernel
theorem dX11_doDeed_113 : decode cX11_doDeed 113 = .ok (.invokevirtual 245, 3) := by decide +kernel
theorem dX11_doDeed_116 : decode cX11_doDeed 116 = .ok (.ireturn, 1) := by decide +kernel
theorem dX12_thrown_0 : decode cX12_thrown 0 = .ok (.aload_n 0, 1) := by decide +kernel
theorem dX12_thrown_1 : decode cX12_thrown 1 = .ok (.getfield 1, 3) := by decide +kernel
theorem dX12_thrown_4 : decode cX12_thrown 4 = .ok (.ireturn, 1) := by decide +kernel
theorem dX12_refuse_0 : decode cX12_refuse 0 = .ok (.aload_n 0, 1) := by decide +kernel
theorem dX12_refuse_1 : decode cX12_refuse 1 = .ok (.iconst 1, 1) := by decide +kernel
theorem dX12_refuse_2 : decode cX12_refuse 2 = .ok (.putfield 1, 3) := by decide +kernel
theorem dX12_refuse_5 : decode cX12_refuse 5 = .ok (.iconst 0, 1) := by decide +kernel
theorem dX12_refuse_6 : decode cX12_refuse 6 = .ok (.ireturn, 1) := by decide +kernel
