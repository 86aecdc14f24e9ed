theorem d_M_init_0 : decode b_M_init 0 = .ok (.aload_n 0, 1) := by decide +kernel
theorem d_M_init_1 : decode b_M_init 1 = .ok (.invokespecial 1, 3) := by decide +kernel
theorem d_M_init_4 : decode b_M_init 4 = .ok (.aload_n 0, 1) := by decide +kernel
theorem d_M_init_5 : decode b_M_init 5 = .ok (.bipush 12, 2) := by decide +kernel
theorem d_M_init_7 : decode b_M_init 7 = .ok (.newarray .int, 2) := by decide +kernel
theorem d_M_init_9 : decode b_M_init 9 = .ok (.putfield 7, 3) := by decide +kernel
theorem d_M_init_12 : decode b_M_init 12 = .ok (.aload_n 0, 1) := by decide +kernel
theorem d_M_init_13 : decode b_M_init 13 = .ok (.bipush 12, 2) := by decide +kernel
theorem d_M_init_15 : decode b_M_init 15 = .ok (.newarray .int, 2) := by decide +kernel
theorem d_M_init_17 : decode b_M_init 17 = .ok (.putfield 13, 3) := by decide +kernel
theorem d_M_init_20 : decode b_M_init 20 = .ok (.aload_n 0, 1) := by decide +kernel
theorem d_M_init_21 : decode b_M_init 21 = .ok (.bipush 12, 2) := by decide +kernel
theorem d_M_init_23 : decode b_M_init 23 = .ok (.newarray .int, 2) := by decide +kernel
theorem d_M_init_25 : decode b_M_init 25 = .ok (.putfield 16, 3) := by decide +kernel
theorem d_M_init_28 : decode b_M_init 28 = .ok (.aload_n 0, 1) := by decide +kernel
theorem d_M_init_29 : decode b_M_init 29 = .ok (.sipush 1200, 3) := by decide +kernel
theorem d_M_init_32 : decode b_M_init 32 = .ok (.newarray .int, 2) := by decide +kernel
theorem d_M_init_34 : decode b_M_init 34 = .ok (.putfield 19, 3) := by decide +kernel
theorem d_M_init_37 : decode b_M_init 37 = .ok (.aload_n 0, 1) := by decide +kernel
theorem d_M_init_38 : decode b_M_init 38 = .ok (.bipush 12, 2) := by decide +kernel
theorem d_M_init_40 : decode b_M_init 40 = .ok (.newarray .boolean, 2) := by decide +kernel
theorem d_M_init_42 : decode b_M_init 42 = .ok (.putfield 22, 3) := by decide +kernel
theorem d_M_init_45 : decode b_M_init 45 = .ok (.aload_n 0, 1) := by decide +kernel
theorem d_M_init_46 : decode b_M_init 46 = .ok (.bipush 12, 2) := by decide +kernel
theorem d_M_init_48 : decode b_M_init 48 = .ok (.newarray .int, 2) := by decide +kernel
theorem d_M_init_50 : decode b_M_init 50 = .ok (.putfield 26, 3) := by decide +kernel
theorem d_M_init_53 : decode b_M_init 53 = .ok (.aload_n 0, 1) := by decide +kernel
theorem d_M_init_54 : decode b_M_init 54 = .ok (.sipush 1440, 3) := by decide +kernel
theorem d_M_init_57 : decode b_M_init 57 = .ok (.newarray .int, 2) := by decide +kernel
theorem d_M_init_59 : decode b_M_init 59 = .ok (.putfield 29, 3) := by decide +kernel
theorem d_M_init_62 : decode b_M_init 62 = .ok (.aload_n 0, 1) := by decide +kernel
theorem d_M_init_63 : decode b_M_init 63 = .ok (.bipush 12, 2) := by decide +kernel
theorem d_M_init_65 : decode b_M_init 65 = .ok (.newarray .int, 2) := by decide +kernel
theorem d_M_init_67 : decode b_M_init 67 = .ok (.putfield 32, 3) := by decide +kernel
theorem d_M_init_70 : decode b_M_init 70 = .ok (.aload_n 0, 1) := by decide +kernel
theorem d_M_init_71 : decode b_M_init 71 = .ok (.sipush 144, 3) := by decide +kernel
theorem d_M_init_74 : decode b_M_init 74 = .ok (.newarray .int, 2) := by decide +kernel
theorem d_M_init_76 : decode b_M_init 76 = .ok (.putfield 35, 3) := by decide +kernel
theorem d_M_init_79 : decode b_M_init 79 = .ok (.aload_n 0, 1) := by decide +kernel
theorem d_M_init_80 : decode b_M_init 80 = .ok (.sipush 144, 3) := by decide +kernel
theorem d_M_init_83 : decode b_M_init 83 = .ok (.newarray .int, 2) := by decide +kernel
theorem d_M_init_85 : decode b_M_init 85 = .ok (.putfield 38, 3) := by decide +kernel
theorem d_M_init_88 : decode b_M_init 88 = .ok (.aload_n 0, 1) := by decide +kernel
theorem d_M_init_89 : decode b_M_init 89 = .ok (.sipush 144, 3) := by decide +kernel
theorem d_M_init_92 : decode b_M_init 92 = .ok (.newarray .int, 2) := by decide +kernel
theorem d_M_init_94 : decode b_M_init 94 = .ok (.putfield 41, 3) := by decide +kernel
theorem d_M_init_97 : decode b_M_init 97 = .ok (.aload_n 0, 1) := by decide +kernel
theorem d_M_init_98 : decode b_M_init 98 = .ok (.sipush 144, 3) := by decide +kernel
theorem d_M_init_101 : decode b_M_init 101 = .ok (.newarray .int, 2) := by decide +kernel
theorem d_M_init_103 : decode b_M_init 103 = .ok (.putfield 44, 3) := by decide +kernel
theorem d_M_init_106 : decode b_M_init 106 = .ok (.aload_n 0, 1) := by decide +kernel
theorem d_M_init_107 : decode b_M_init 107 = .ok (.sipush 144, 3) := by decide +kernel
theorem d_M_init_110 : decode b_M_init 110 = .ok (.newarray .int, 2) := by decide +kernel
theorem d_M_init_112 : decode b_M_init 112 = .ok (.putfield 47, 3) := by decide +kernel
theorem d_M_init_115 : decode b_M_init 115 = .ok (.aload_n 0, 1) := by decide +kernel
theorem d_M_init_116 : decode b_M_init 116 = .ok (.bipush 80, 2) := by decide +kernel
theorem d_M_init_118 : decode b_M_init 118 = .ok (.newarray .long, 2) := by decide +kernel
theorem d_M_init_120 : decode b_M_init 120 = .ok (.putfield 50, 3) := by decide +kernel
theorem d_M_init_123 : decode b_M_init 123 = .ok (.aload_n 0, 1) := by decide +kernel
theorem d_M_init_124 : decode b_M_init 124 = .ok (.bipush 80, 2) := by decide +kernel
theorem d_M_init_126 : decode b_M_init 126 = .ok (.newarray .int, 2) := by decide +kernel
theorem d_M_init_128 : decode b_M_init 128 = .ok (.putfield 54, 3) := by decide +kernel
theorem d_M_init_131 : decode b_M_init 131 = .ok (.aload_n 0, 1) := by decide +kernel
theorem d_M_init_132 : decode b_M_init 132 = .ok (.bipush 80, 2) := by decide +kernel
theorem d_M_init_134 : decode b_M_init 134 = .ok (.newarray .int, 2) := by decide +kernel
theorem d_M_init_136 : decode b_M_init 136 = .ok (.putfield 57, 3) := by decide +kernel
theorem d_M_init_139 : decode b_M_init 139 = .ok (.aload_n 0, 1) := by decide +kernel
theorem d_M_init_140 : decode b_M_init 140 = .ok (.bipush 80, 2) := by decide +kernel
theorem d_M_init_142 : decode b_M_init 142 = .ok (.newarray .int, 2) := by decide +kernel
theorem d_M_init_144 : decode b_M_init 144 = .ok (.putfield 60, 3) := by decide +kernel
theorem d_M_init_147 : decode b_M_init 147 = .ok (.return_, 1) := by decide +kernel
theorem d_M_thrown_0 : decode b_M_thrown 0 = .ok (.aload_n 0, 1) := by decide +kernel
theorem d_M_thrown_1 : decode b_M_thrown 1 = .ok (.getfield 63, 3) := by decide +kernel
theorem d_M_thrown_4 : decode b_M_thrown 4 = .ok (.ireturn, 1) := by decide +kernel
theorem d_M_in_0 : decode b_M_in 0 = .ok (.iload_n 0, 1) := by decide +kernel
theorem d_M_in_1 : decode b_M_in 1 = .ok (.iload_n 1, 1) := by decide +kernel
theorem d_M_in_2 : decode b_M_in 2 = .ok (.if_icmp .lt 12, 3) := by decide +kernel
theorem d_M_in_5 : decode b_M_in 5 = .ok (.iload_n 0, 1) := by decide +kernel
theorem d_M_in_6 : decode b_M_in 6 = .ok (.iload_n 2, 1) := by decide +kernel
theorem d_M_in_7 : decode b_M_in 7 = .ok (.if_icmp .gt 7, 3) := by decide +kernel
theorem d_M_in_10 : decode b_M_in 10 = .ok (.iconst 1, 1) := by decide +kernel
theorem d_M_in_11 : decode b_M_in 11 = .ok (.goto 4, 3) := by decide +kernel
theorem d_M_in_14 : decode b_M_in 14 = .ok (.iconst 0, 1) := by decide +kernel
theorem d_M_in_15 : decode b_M_in 15 = .ok (.ireturn, 1) := by decide +kernel
theorem d_M_fail_0 : decode b_M_fail 0 = .ok (.aload_n 0, 1) := by decide +kernel
theorem d_M_fail_1 : decode b_M_fail 1 = .ok (.iload_n 1, 1) := by decide +kernel
theorem d_M_fail_2 : decode b_M_fail 2 = .ok (.putfield 63, 3) := by decide +kernel
theorem d_M_fail_5 : decode b_M_fail 5 = .ok (.iconst 0, 1) := by decide +kernel
theorem d_M_fail_6 : decode b_M_fail 6 = .ok (.ireturn, 1) := by decide +kernel
theorem d_M_summed_0 : decode b_M_summed 0 = .ok (.lload_n 0, 1) := by decide +kernel
theorem d_M_summed_1 : decode b_M_summed 1 = .ok (.iload_n 2, 1) := by decide +kernel
theorem d_M_summed_2 : decode b_M_summed 2 = .ok (.i2l, 1) := by decide +kernel
theorem d_M_summed_3 : decode b_M_summed 3 = .ok (.lxor, 1) := by decide +kernel
theorem d_M_summed_4 : decode b_M_summed 4 = .ok (.lstore_n 3, 1) := by decide +kernel
theorem d_M_summed_5 : decode b_M_summed 5 = .ok (.iconst 0, 1) := by decide +kernel
theorem d_M_summed_6 : decode b_M_summed 6 = .ok (.istore 5, 2) := by decide +kernel
theorem d_M_summed_8 : decode b_M_summed 8 = .ok (.iload 5, 2) := by decide +kernel
theorem d_M_summed_10 : decode b_M_summed 10 = .ok (.bipush 8, 2) := by decide +kernel
theorem d_M_summed_12 : decode b_M_summed 12 = .ok (.if_icmp .ge 37, 3) := by decide +kernel
theorem d_M_summed_15 : decode b_M_summed 15 = .ok (.lload_n 3, 1) := by decide +kernel
theorem d_M_summed_16 : decode b_M_summed 16 = .ok (.ldc2_w 67, 3) := by decide +kernel
theorem d_M_summed_19 : decode b_M_summed 19 = .ok (.lrem, 1) := by decide +kernel
theorem d_M_summed_20 : decode b_M_summed 20 = .ok (.lconst 1, 1) := by decide +kernel
theorem d_M_summed_21 : decode b_M_summed 21 = .ok (.lcmp, 1) := by decide +kernel
theorem d_M_summed_22 : decode b_M_summed 22 = .ok (.ifCond .ne 15, 3) := by decide +kernel
theorem d_M_summed_25 : decode b_M_summed 25 = .ok (.lload_n 3, 1) := by decide +kernel
theorem d_M_summed_26 : decode b_M_summed 26 = .ok (.ldc2_w 67, 3) := by decide +kernel
theorem d_M_summed_29 : decode b_M_summed 29 = .ok (.ldiv, 1) := by decide +kernel
theorem d_M_summed_30 : decode b_M_summed 30 = .ok (.ldc2_w 69, 3) := by decide +kernel
theorem d_M_summed_33 : decode b_M_summed 33 = .ok (.lxor, 1) := by decide +kernel
theorem d_M_summed_34 : decode b_M_summed 34 = .ok (.goto 8, 3) := by decide +kernel
theorem d_M_summed_37 : decode b_M_summed 37 = .ok (.lload_n 3, 1) := by decide +kernel
theorem d_M_summed_38 : decode b_M_summed 38 = .ok (.ldc2_w 67, 3) := by decide +kernel
theorem d_M_summed_41 : decode b_M_summed 41 = .ok (.ldiv, 1) := by decide +kernel
theorem d_M_summed_42 : decode b_M_summed 42 = .ok (.lstore_n 3, 1) := by decide +kernel
theorem d_M_summed_43 : decode b_M_summed 43 = .ok (.iinc 5 1, 3) := by decide +kernel
theorem d_M_summed_46 : decode b_M_summed 46 = .ok (.goto (-38), 3) := by decide +kernel
theorem d_M_summed_49 : decode b_M_summed 49 = .ok (.lload_n 3, 1) := by decide +kernel
theorem d_M_summed_50 : decode b_M_summed 50 = .ok (.lreturn, 1) := by decide +kernel
theorem d_M_sumOf_0 : decode b_M_sumOf 0 = .ok (.ldc2_w 71, 3) := by decide +kernel
theorem d_M_sumOf_3 : decode b_M_sumOf 3 = .ok (.lstore_n 3, 1) := by decide +kernel
theorem d_M_sumOf_4 : decode b_M_sumOf 4 = .ok (.iload_n 1, 1) := by decide +kernel
theorem d_M_sumOf_5 : decode b_M_sumOf 5 = .ok (.istore 5, 2) := by decide +kernel
theorem d_M_sumOf_7 : decode b_M_sumOf 7 = .ok (.iload 5, 2) := by decide +kernel
theorem d_M_sumOf_9 : decode b_M_sumOf 9 = .ok (.iload_n 2, 1) := by decide +kernel
theorem d_M_sumOf_10 : decode b_M_sumOf 10 = .ok (.if_icmp .ge 18, 3) := by decide +kernel
theorem d_M_sumOf_13 : decode b_M_sumOf 13 = .ok (.lload_n 3, 1) := by decide +kernel
theorem d_M_sumOf_14 : decode b_M_sumOf 14 = .ok (.aload_n 0, 1) := by decide +kernel
theorem d_M_sumOf_15 : decode b_M_sumOf 15 = .ok (.iload 5, 2) := by decide +kernel
theorem d_M_sumOf_17 : decode b_M_sumOf 17 = .ok (.iaload, 1) := by decide +kernel
theorem d_M_sumOf_18 : decode b_M_sumOf 18 = .ok (.invokestatic 73, 3) := by decide +kernel
theorem d_M_sumOf_21 : decode b_M_sumOf 21 = .ok (.lstore_n 3, 1) := by decide +kernel
theorem d_M_sumOf_22 : decode b_M_sumOf 22 = .ok (.iinc 5 1, 3) := by decide +kernel
theorem d_M_sumOf_25 : decode b_M_sumOf 25 = .ok (.goto (-18), 3) := by decide +kernel
theorem d_M_sumOf_28 : decode b_M_sumOf 28 = .ok (.ldc2_w 71, 3) := by decide +kernel
theorem d_M_sumOf_31 : decode b_M_sumOf 31 = .ok (.lload_n 3, 1) := by decide +kernel
theorem d_M_sumOf_32 : decode b_M_sumOf 32 = .ok (.lsub, 1) := by decide +kernel
theorem d_M_sumOf_33 : decode b_M_sumOf 33 = .ok (.lreturn, 1) := by decide +kernel
theorem d_M_numberIn_0 : decode b_M_numberIn 0 = .ok (.lconst 0, 1) := by decide +kernel
theorem d_M_numberIn_1 : decode b_M_numberIn 1 = .ok (.lstore_n 3, 1) := by decide +kernel
theorem d_M_numberIn_2 : decode b_M_numberIn 2 = .ok (.iconst 0, 1) := by decide +kernel
theorem d_M_numberIn_3 : decode b_M_numberIn 3 = .ok (.istore 5, 2) := by decide +kernel
theorem d_M_numberIn_5 : decode b_M_numberIn 5 = .ok (.iload 5, 2) := by decide +kernel
theorem d_M_numberIn_7 : decode b_M_numberIn 7 = .ok (.iload_n 2, 1) := by decide +kernel
theorem d_M_numberIn_8 : decode b_M_numberIn 8 = .ok (.if_icmp .ge 23, 3) := by decide +kernel
theorem d_M_numberIn_11 : decode b_M_numberIn 11 = .ok (.lload_n 3, 1) := by decide +kernel
theorem d_M_numberIn_12 : decode b_M_numberIn 12 = .ok (.ldc2_w 77, 3) := by decide +kernel
theorem d_M_numberIn_15 : decode b_M_numberIn 15 = .ok (.lmul, 1) := by decide +kernel
theorem d_M_numberIn_16 : decode b_M_numberIn 16 = .ok (.aload_n 0, 1) := by decide +kernel
theorem d_M_numberIn_17 : decode b_M_numberIn 17 = .ok (.iload_n 1, 1) := by decide +kernel
theorem d_M_numberIn_18 : decode b_M_numberIn 18 = .ok (.iload 5, 2) := by decide +kernel
theorem d_M_numberIn_20 : decode b_M_numberIn 20 = .ok (.iadd, 1) := by decide +kernel
theorem d_M_numberIn_21 : decode b_M_numberIn 21 = .ok (.iaload, 1) := by decide +kernel
theorem d_M_numberIn_22 : decode b_M_numberIn 22 = .ok (.i2l, 1) := by decide +kernel
theorem d_M_numberIn_23 : decode b_M_numberIn 23 = .ok (.ladd, 1) := by decide +kernel
theorem d_M_numberIn_24 : decode b_M_numberIn 24 = .ok (.lstore_n 3, 1) := by decide +kernel
theorem d_M_numberIn_25 : decode b_M_numberIn 25 = .ok (.iinc 5 1, 3) := by decide +kernel
theorem d_M_numberIn_28 : decode b_M_numberIn 28 = .ok (.goto (-23), 3) := by decide +kernel
theorem d_M_numberIn_31 : decode b_M_numberIn 31 = .ok (.lload_n 3, 1) := by decide +kernel
theorem d_M_numberIn_32 : decode b_M_numberIn 32 = .ok (.lreturn, 1) := by decide +kernel
theorem d_M_cut_0 : decode b_M_cut 0 = .ok (.lconst 0, 1) := by decide +kernel
theorem d_M_cut_1 : decode b_M_cut 1 = .ok (.lstore_n 3, 1) := by decide +kernel
theorem d_M_cut_2 : decode b_M_cut 2 = .ok (.iload_n 2, 1) := by decide +kernel
theorem d_M_cut_3 : decode b_M_cut 3 = .ok (.iconst 1, 1) := by decide +kernel
theorem d_M_cut_4 : decode b_M_cut 4 = .ok (.isub, 1) := by decide +kernel
theorem d_M_cut_5 : decode b_M_cut 5 = .ok (.istore 5, 2) := by decide +kernel
theorem d_M_cut_7 : decode b_M_cut 7 = .ok (.iload 5, 2) := by decide +kernel
theorem d_M_cut_9 : decode b_M_cut 9 = .ok (.ifCond .lt 26, 3) := by decide +kernel
theorem d_M_cut_12 : decode b_M_cut 12 = .ok (.lload_n 3, 1) := by decide +kernel
theorem d_M_cut_13 : decode b_M_cut 13 = .ok (.bipush 8, 2) := by decide +kernel
theorem d_M_cut_15 : decode b_M_cut 15 = .ok (.lshl, 1) := by decide +kernel
theorem d_M_cut_16 : decode b_M_cut 16 = .ok (.lload_n 0, 1) := by decide +kernel
theorem d_M_cut_17 : decode b_M_cut 17 = .ok (.bipush 8, 2) := by decide +kernel
theorem d_M_cut_19 : decode b_M_cut 19 = .ok (.iload 5, 2) := by decide +kernel
theorem d_M_cut_21 : decode b_M_cut 21 = .ok (.imul, 1) := by decide +kernel
theorem d_M_cut_22 : decode b_M_cut 22 = .ok (.lshr, 1) := by decide +kernel
theorem d_M_cut_23 : decode b_M_cut 23 = .ok (.ldc2_w 79, 3) := by decide +kernel
theorem d_M_cut_26 : decode b_M_cut 26 = .ok (.land, 1) := by decide +kernel
theorem d_M_cut_27 : decode b_M_cut 27 = .ok (.lor, 1) := by decide +kernel
theorem d_M_cut_28 : decode b_M_cut 28 = .ok (.lstore_n 3, 1) := by decide +kernel
theorem d_M_cut_29 : decode b_M_cut 29 = .ok (.iinc 5 (-1), 3) := by decide +kernel
theorem d_M_cut_32 : decode b_M_cut 32 = .ok (.goto (-25), 3) := by decide +kernel
theorem d_M_cut_35 : decode b_M_cut 35 = .ok (.lload_n 3, 1) := by decide +kernel
theorem d_M_cut_36 : decode b_M_cut 36 = .ok (.lreturn, 1) := by decide +kernel
theorem d_M_lengthOf_0 : decode b_M_lengthOf 0 = .ok (.bipush 8, 2) := by decide +kernel
theorem d_M_lengthOf_2 : decode b_M_lengthOf 2 = .ok (.iload_n 0, 1) := by decide +kernel
theorem d_M_lengthOf_3 : decode b_M_lengthOf 3 = .ok (.iadd, 1) := by decide +kernel
theorem d_M_lengthOf_4 : decode b_M_lengthOf 4 = .ok (.iload_n 1, 1) := by decide +kernel
theorem d_M_lengthOf_5 : decode b_M_lengthOf 5 = .ok (.sipush 255, 3) := by decide +kernel
theorem d_M_lengthOf_8 : decode b_M_lengthOf 8 = .ok (.if_icmp .ne 7, 3) := by decide +kernel
theorem d_M_lengthOf_11 : decode b_M_lengthOf 11 = .ok (.iconst 0, 1) := by decide +kernel
theorem d_M_lengthOf_12 : decode b_M_lengthOf 12 = .ok (.goto 4, 3) := by decide +kernel
theorem d_M_lengthOf_15 : decode b_M_lengthOf 15 = .ok (.iload_n 1, 1) := by decide +kernel
theorem d_M_lengthOf_16 : decode b_M_lengthOf 16 = .ok (.iadd, 1) := by decide +kernel
theorem d_M_lengthOf_17 : decode b_M_lengthOf 17 = .ok (.ireturn, 1) := by decide +kernel
theorem d_M_length_0 : decode b_M_length 0 = .ok (.aload_n 0, 1) := by decide +kernel
theorem d_M_length_1 : decode b_M_length 1 = .ok (.getfield 38, 3) := by decide +kernel
theorem d_M_length_4 : decode b_M_length 4 = .ok (.bipush 12, 2) := by decide +kernel
theorem d_M_length_6 : decode b_M_length 6 = .ok (.iload_n 1, 1) := by decide +kernel
theorem d_M_length_7 : decode b_M_length 7 = .ok (.imul, 1) := by decide +kernel
theorem d_M_length_8 : decode b_M_length 8 = .ok (.iload_n 2, 1) := by decide +kernel
theorem d_M_length_9 : decode b_M_length 9 = .ok (.iadd, 1) := by decide +kernel
theorem d_M_length_10 : decode b_M_length 10 = .ok (.iaload, 1) := by decide +kernel
theorem d_M_length_11 : decode b_M_length 11 = .ok (.aload_n 0, 1) := by decide +kernel
theorem d_M_length_12 : decode b_M_length 12 = .ok (.getfield 41, 3) := by decide +kernel
theorem d_M_length_15 : decode b_M_length 15 = .ok (.bipush 12, 2) := by decide +kernel
theorem d_M_length_17 : decode b_M_length 17 = .ok (.iload_n 1, 1) := by decide +kernel
theorem d_M_length_18 : decode b_M_length 18 = .ok (.imul, 1) := by decide +kernel
theorem d_M_length_19 : decode b_M_length 19 = .ok (.iload_n 2, 1) := by decide +kernel
theorem d_M_length_20 : decode b_M_length 20 = .ok (.iadd, 1) := by decide +kernel
theorem d_M_length_21 : decode b_M_length 21 = .ok (.iaload, 1) := by decide +kernel
theorem d_M_length_22 : decode b_M_length 22 = .ok (.invokestatic 81, 3) := by decide +kernel
theorem d_M_length_25 : decode b_M_length 25 = .ok (.ireturn, 1) := by decide +kernel
theorem d_M_note_0 : decode b_M_note 0 = .ok (.bipush 12, 2) := by decide +kernel
theorem d_M_note_2 : decode b_M_note 2 = .ok (.iload_n 1, 1) := by decide +kernel
theorem d_M_note_3 : decode b_M_note 3 = .ok (.imul, 1) := by decide +kernel
theorem d_M_note_4 : decode b_M_note 4 = .ok (.aload_n 0, 1) := by decide +kernel
theorem d_M_note_5 : decode b_M_note 5 = .ok (.getfield 32, 3) := by decide +kernel
theorem d_M_note_8 : decode b_M_note 8 = .ok (.iload_n 1, 1) := by decide +kernel
theorem d_M_note_9 : decode b_M_note 9 = .ok (.iaload, 1) := by decide +kernel
theorem d_M_note_10 : decode b_M_note 10 = .ok (.iadd, 1) := by decide +kernel
theorem d_M_note_11 : decode b_M_note 11 = .ok (.istore 5, 2) := by decide +kernel
theorem d_M_note_13 : decode b_M_note 13 = .ok (.aload_n 0, 1) := by decide +kernel
theorem d_M_note_14 : decode b_M_note 14 = .ok (.getfield 35, 3) := by decide +kernel
theorem d_M_note_17 : decode b_M_note 17 = .ok (.iload 5, 2) := by decide +kernel
theorem d_M_note_19 : decode b_M_note 19 = .ok (.iload_n 2, 1) := by decide +kernel
theorem d_M_note_20 : decode b_M_note 20 = .ok (.iastore, 1) := by decide +kernel
theorem d_M_note_21 : decode b_M_note 21 = .ok (.aload_n 0, 1) := by decide +kernel
theorem d_M_note_22 : decode b_M_note 22 = .ok (.getfield 38, 3) := by decide +kernel
theorem d_M_note_25 : decode b_M_note 25 = .ok (.iload 5, 2) := by decide +kernel
theorem d_M_note_27 : decode b_M_note 27 = .ok (.iload_n 3, 1) := by decide +kernel
theorem d_M_note_28 : decode b_M_note 28 = .ok (.iastore, 1) := by decide +kernel
theorem d_M_note_29 : decode b_M_note 29 = .ok (.aload_n 0, 1) := by decide +kernel
theorem d_M_note_30 : decode b_M_note 30 = .ok (.getfield 41, 3) := by decide +kernel
theorem d_M_note_33 : decode b_M_note 33 = .ok (.iload 5, 2) := by decide +kernel
theorem d_M_note_35 : decode b_M_note 35 = .ok (.iload 4, 2) := by decide +kernel
theorem d_M_note_37 : decode b_M_note 37 = .ok (.iastore, 1) := by decide +kernel
theorem d_M_note_38 : decode b_M_note 38 = .ok (.aload_n 0, 1) := by decide +kernel
theorem d_M_note_39 : decode b_M_note 39 = .ok (.getfield 32, 3) := by decide +kernel
theorem d_M_note_42 : decode b_M_note 42 = .ok (.iload_n 1, 1) := by decide +kernel
theorem d_M_note_43 : decode b_M_note 43 = .ok (.dup2, 1) := by decide +kernel
theorem d_M_note_44 : decode b_M_note 44 = .ok (.iaload, 1) := by decide +kernel
theorem d_M_note_45 : decode b_M_note 45 = .ok (.iconst 1, 1) := by decide +kernel
theorem d_M_note_46 : decode b_M_note 46 = .ok (.iadd, 1) := by decide +kernel
theorem d_M_note_47 : decode b_M_note 47 = .ok (.iastore, 1) := by decide +kernel
theorem d_M_note_48 : decode b_M_note 48 = .ok (.return_, 1) := by decide +kernel
theorem d_M_clearRow_0 : decode b_M_clearRow 0 = .ok (.aload_n 0, 1) := by decide +kernel
theorem d_M_clearRow_1 : decode b_M_clearRow 1 = .ok (.getfield 13, 3) := by decide +kernel
theorem d_M_clearRow_4 : decode b_M_clearRow 4 = .ok (.iload_n 1, 1) := by decide +kernel
theorem d_M_clearRow_5 : decode b_M_clearRow 5 = .ok (.iconst 0, 1) := by decide +kernel
theorem d_M_clearRow_6 : decode b_M_clearRow 6 = .ok (.iastore, 1) := by decide +kernel
theorem d_M_clearRow_7 : decode b_M_clearRow 7 = .ok (.aload_n 0, 1) := by decide +kernel
theorem d_M_clearRow_8 : decode b_M_clearRow 8 = .ok (.getfield 16, 3) := by decide +kernel
theorem d_M_clearRow_11 : decode b_M_clearRow 11 = .ok (.iload_n 1, 1) := by decide +kernel
theorem d_M_clearRow_12 : decode b_M_clearRow 12 = .ok (.iconst 0, 1) := by decide +kernel
theorem d_M_clearRow_13 : decode b_M_clearRow 13 = .ok (.iastore, 1) := by decide +kernel
theorem d_M_clearRow_14 : decode b_M_clearRow 14 = .ok (.aload_n 0, 1) := by decide +kernel
theorem d_M_clearRow_15 : decode b_M_clearRow 15 = .ok (.getfield 22, 3) := by decide +kernel
theorem d_M_clearRow_18 : decode b_M_clearRow 18 = .ok (.iload_n 1, 1) := by decide +kernel
theorem d_M_clearRow_19 : decode b_M_clearRow 19 = .ok (.iconst 0, 1) := by decide +kernel
theorem d_M_clearRow_20 : decode b_M_clearRow 20 = .ok (.bastore, 1) := by decide +kernel
theorem d_M_clearRow_21 : decode b_M_clearRow 21 = .ok (.aload_n 0, 1) := by decide +kernel
theorem d_M_clearRow_22 : decode b_M_clearRow 22 = .ok (.getfield 32, 3) := by decide +kernel
theorem d_M_clearRow_25 : decode b_M_clearRow 25 = .ok (.iload_n 1, 1) := by decide +kernel
theorem d_M_clearRow_26 : decode b_M_clearRow 26 = .ok (.iconst 0, 1) := by decide +kernel
theorem d_M_clearRow_27 : decode b_M_clearRow 27 = .ok (.iastore, 1) := by decide +kernel
theorem d_M_clearRow_28 : decode b_M_clearRow 28 = .ok (.return_, 1) := by decide +kernel
theorem d_M_copyRow_0 : decode b_M_copyRow 0 = .ok (.aload_n 0, 1) := by decide +kernel
theorem d_M_copyRow_1 : decode b_M_copyRow 1 = .ok (.getfield 7, 3) := by decide +kernel
theorem d_M_copyRow_4 : decode b_M_copyRow 4 = .ok (.iload_n 2, 1) := by decide +kernel
theorem d_M_copyRow_5 : decode b_M_copyRow 5 = .ok (.aload_n 0, 1) := by decide +kernel
theorem d_M_copyRow_6 : decode b_M_copyRow 6 = .ok (.getfield 7, 3) := by decide +kernel
theorem d_M_copyRow_9 : decode b_M_copyRow 9 = .ok (.iload_n 1, 1) := by decide +kernel
theorem d_M_copyRow_10 : decode b_M_copyRow 10 = .ok (.iaload, 1) := by decide +kernel
theorem d_M_copyRow_11 : decode b_M_copyRow 11 = .ok (.iastore, 1) := by decide +kernel
theorem d_M_copyRow_12 : decode b_M_copyRow 12 = .ok (.aload_n 0, 1) := by decide +kernel
theorem d_M_copyRow_13 : decode b_M_copyRow 13 = .ok (.getfield 13, 3) := by decide +kernel
theorem d_M_copyRow_16 : decode b_M_copyRow 16 = .ok (.iload_n 2, 1) := by decide +kernel
theorem d_M_copyRow_17 : decode b_M_copyRow 17 = .ok (.aload_n 0, 1) := by decide +kernel
theorem d_M_copyRow_18 : decode b_M_copyRow 18 = .ok (.getfield 13, 3) := by decide +kernel
theorem d_M_copyRow_21 : decode b_M_copyRow 21 = .ok (.iload_n 1, 1) := by decide +kernel
theorem d_M_copyRow_22 : decode b_M_copyRow 22 = .ok (.iaload, 1) := by decide +kernel
theorem d_M_copyRow_23 : decode b_M_copyRow 23 = .ok (.iastore, 1) := by decide +kernel
theorem d_M_copyRow_24 : decode b_M_copyRow 24 = .ok (.aload_n 0, 1) := by decide +kernel
theorem d_M_copyRow_25 : decode b_M_copyRow 25 = .ok (.getfield 16, 3) := by decide +kernel
theorem d_M_copyRow_28 : decode b_M_copyRow 28 = .ok (.iload_n 2, 1) := by decide +kernel
theorem d_M_copyRow_29 : decode b_M_copyRow 29 = .ok (.aload_n 0, 1) := by decide +kernel
theorem d_M_copyRow_30 : decode b_M_copyRow 30 = .ok (.getfield 16, 3) := by decide +kernel
theorem d_M_copyRow_33 : decode b_M_copyRow 33 = .ok (.iload_n 1, 1) := by decide +kernel
theorem d_M_copyRow_34 : decode b_M_copyRow 34 = .ok (.iaload, 1) := by decide +kernel
theorem d_M_copyRow_35 : decode b_M_copyRow 35 = .ok (.iastore, 1) := by decide +kernel
theorem d_M_copyRow_36 : decode b_M_copyRow 36 = .ok (.aload_n 0, 1) := by decide +kernel
theorem d_M_copyRow_37 : decode b_M_copyRow 37 = .ok (.getfield 22, 3) := by decide +kernel
theorem d_M_copyRow_40 : decode b_M_copyRow 40 = .ok (.iload_n 2, 1) := by decide +kernel
theorem d_M_copyRow_41 : decode b_M_copyRow 41 = .ok (.aload_n 0, 1) := by decide +kernel
theorem d_M_copyRow_42 : decode b_M_copyRow 42 = .ok (.getfield 22, 3) := by decide +kernel
theorem d_M_copyRow_45 : decode b_M_copyRow 45 = .ok (.iload_n 1, 1) := by decide +kernel
theorem d_M_copyRow_46 : decode b_M_copyRow 46 = .ok (.baload, 1) := by decide +kernel
theorem d_M_copyRow_47 : decode b_M_copyRow 47 = .ok (.bastore, 1) := by decide +kernel
theorem d_M_copyRow_48 : decode b_M_copyRow 48 = .ok (.aload_n 0, 1) := by decide +kernel
theorem d_M_copyRow_49 : decode b_M_copyRow 49 = .ok (.getfield 26, 3) := by decide +kernel
theorem d_M_copyRow_52 : decode b_M_copyRow 52 = .ok (.iload_n 2, 1) := by decide +kernel
theorem d_M_copyRow_53 : decode b_M_copyRow 53 = .ok (.aload_n 0, 1) := by decide +kernel
theorem d_M_copyRow_54 : decode b_M_copyRow 54 = .ok (.getfield 26, 3) := by decide +kernel
theorem d_M_copyRow_57 : decode b_M_copyRow 57 = .ok (.iload_n 1, 1) := by decide +kernel
theorem d_M_copyRow_58 : decode b_M_copyRow 58 = .ok (.iaload, 1) := by decide +kernel
theorem d_M_copyRow_59 : decode b_M_copyRow 59 = .ok (.iastore, 1) := by decide +kernel
theorem d_M_copyRow_60 : decode b_M_copyRow 60 = .ok (.aload_n 0, 1) := by decide +kernel
theorem d_M_copyRow_61 : decode b_M_copyRow 61 = .ok (.getfield 32, 3) := by decide +kernel
theorem d_M_copyRow_64 : decode b_M_copyRow 64 = .ok (.iload_n 2, 1) := by decide +kernel
theorem d_M_copyRow_65 : decode b_M_copyRow 65 = .ok (.aload_n 0, 1) := by decide +kernel
theorem d_M_copyRow_66 : decode b_M_copyRow 66 = .ok (.getfield 32, 3) := by decide +kernel
theorem d_M_copyRow_69 : decode b_M_copyRow 69 = .ok (.iload_n 1, 1) := by decide +kernel
theorem d_M_copyRow_70 : decode b_M_copyRow 70 = .ok (.iaload, 1) := by decide +kernel
theorem d_M_copyRow_71 : decode b_M_copyRow 71 = .ok (.iastore, 1) := by decide +kernel
theorem d_M_copyRow_72 : decode b_M_copyRow 72 = .ok (.iconst 0, 1) := by decide +kernel
theorem d_M_copyRow_73 : decode b_M_copyRow 73 = .ok (.istore_n 3, 1) := by decide +kernel
theorem d_M_copyRow_74 : decode b_M_copyRow 74 = .ok (.iload_n 3, 1) := by decide +kernel
theorem d_M_copyRow_75 : decode b_M_copyRow 75 = .ok (.bipush 100, 2) := by decide +kernel
theorem d_M_copyRow_77 : decode b_M_copyRow 77 = .ok (.if_icmp .ge 31, 3) := by decide +kernel
theorem d_M_copyRow_80 : decode b_M_copyRow 80 = .ok (.aload_n 0, 1) := by decide +kernel
theorem d_M_copyRow_81 : decode b_M_copyRow 81 = .ok (.getfield 19, 3) := by decide +kernel
theorem d_M_copyRow_84 : decode b_M_copyRow 84 = .ok (.bipush 100, 2) := by decide +kernel
theorem d_M_copyRow_86 : decode b_M_copyRow 86 = .ok (.iload_n 2, 1) := by decide +kernel
theorem d_M_copyRow_87 : decode b_M_copyRow 87 = .ok (.imul, 1) := by decide +kernel
theorem d_M_copyRow_88 : decode b_M_copyRow 88 = .ok (.iload_n 3, 1) := by decide +kernel
theorem d_M_copyRow_89 : decode b_M_copyRow 89 = .ok (.iadd, 1) := by decide +kernel
theorem d_M_copyRow_90 : decode b_M_copyRow 90 = .ok (.aload_n 0, 1) := by decide +kernel
theorem d_M_copyRow_91 : decode b_M_copyRow 91 = .ok (.getfield 19, 3) := by decide +kernel
theorem d_M_copyRow_94 : decode b_M_copyRow 94 = .ok (.bipush 100, 2) := by decide +kernel
theorem d_M_copyRow_96 : decode b_M_copyRow 96 = .ok (.iload_n 1, 1) := by decide +kernel
theorem d_M_copyRow_97 : decode b_M_copyRow 97 = .ok (.imul, 1) := by decide +kernel
theorem d_M_copyRow_98 : decode b_M_copyRow 98 = .ok (.iload_n 3, 1) := by decide +kernel
theorem d_M_copyRow_99 : decode b_M_copyRow 99 = .ok (.iadd, 1) := by decide +kernel
theorem d_M_copyRow_100 : decode b_M_copyRow 100 = .ok (.iaload, 1) := by decide +kernel
theorem d_M_copyRow_101 : decode b_M_copyRow 101 = .ok (.iastore, 1) := by decide +kernel
theorem d_M_copyRow_102 : decode b_M_copyRow 102 = .ok (.iinc 3 1, 3) := by decide +kernel
theorem d_M_copyRow_105 : decode b_M_copyRow 105 = .ok (.goto (-31), 3) := by decide +kernel
theorem d_M_copyRow_108 : decode b_M_copyRow 108 = .ok (.iconst 0, 1) := by decide +kernel
theorem d_M_copyRow_109 : decode b_M_copyRow 109 = .ok (.istore_n 3, 1) := by decide +kernel
theorem d_M_copyRow_110 : decode b_M_copyRow 110 = .ok (.iload_n 3, 1) := by decide +kernel
theorem d_M_copyRow_111 : decode b_M_copyRow 111 = .ok (.bipush 120, 2) := by decide +kernel
theorem d_M_copyRow_113 : decode b_M_copyRow 113 = .ok (.if_icmp .ge 31, 3) := by decide +kernel
theorem d_M_copyRow_116 : decode b_M_copyRow 116 = .ok (.aload_n 0, 1) := by decide +kernel
theorem d_M_copyRow_117 : decode b_M_copyRow 117 = .ok (.getfield 29, 3) := by decide +kernel
theorem d_M_copyRow_120 : decode b_M_copyRow 120 = .ok (.bipush 120, 2) := by decide +kernel
theorem d_M_copyRow_122 : decode b_M_copyRow 122 = .ok (.iload_n 2, 1) := by decide +kernel
theorem d_M_copyRow_123 : decode b_M_copyRow 123 = .ok (.imul, 1) := by decide +kernel
theorem d_M_copyRow_124 : decode b_M_copyRow 124 = .ok (.iload_n 3, 1) := by decide +kernel
theorem d_M_copyRow_125 : decode b_M_copyRow 125 = .ok (.iadd, 1) := by decide +kernel
theorem d_M_copyRow_126 : decode b_M_copyRow 126 = .ok (.aload_n 0, 1) := by decide +kernel
theorem d_M_copyRow_127 : decode b_M_copyRow 127 = .ok (.getfield 29, 3) := by decide +kernel
theorem d_M_copyRow_130 : decode b_M_copyRow 130 = .ok (.bipush 120, 2) := by decide +kernel
theorem d_M_copyRow_132 : decode b_M_copyRow 132 = .ok (.iload_n 1, 1) := by decide +kernel
theorem d_M_copyRow_133 : decode b_M_copyRow 133 = .ok (.imul, 1) := by decide +kernel
theorem d_M_copyRow_134 : decode b_M_copyRow 134 = .ok (.iload_n 3, 1) := by decide +kernel
theorem d_M_copyRow_135 : decode b_M_copyRow 135 = .ok (.iadd, 1) := by decide +kernel
theorem d_M_copyRow_136 : decode b_M_copyRow 136 = .ok (.iaload, 1) := by decide +kernel
theorem d_M_copyRow_137 : decode b_M_copyRow 137 = .ok (.iastore, 1) := by decide +kernel
theorem d_M_copyRow_138 : decode b_M_copyRow 138 = .ok (.iinc 3 1, 3) := by decide +kernel
theorem d_M_copyRow_141 : decode b_M_copyRow 141 = .ok (.goto (-31), 3) := by decide +kernel
theorem d_M_copyRow_144 : decode b_M_copyRow 144 = .ok (.iconst 0, 1) := by decide +kernel
theorem d_M_copyRow_145 : decode b_M_copyRow 145 = .ok (.istore_n 3, 1) := by decide +kernel
theorem d_M_copyRow_146 : decode b_M_copyRow 146 = .ok (.iload_n 3, 1) := by decide +kernel
theorem d_M_copyRow_147 : decode b_M_copyRow 147 = .ok (.bipush 12, 2) := by decide +kernel
theorem d_M_copyRow_149 : decode b_M_copyRow 149 = .ok (.if_icmp .ge 75, 3) := by decide +kernel
theorem d_M_copyRow_152 : decode b_M_copyRow 152 = .ok (.aload_n 0, 1) := by decide +kernel
theorem d_M_copyRow_153 : decode b_M_copyRow 153 = .ok (.getfield 35, 3) := by decide +kernel
theorem d_M_copyRow_156 : decode b_M_copyRow 156 = .ok (.bipush 12, 2) := by decide +kernel
theorem d_M_copyRow_158 : decode b_M_copyRow 158 = .ok (.iload_n 2, 1) := by decide +kernel
theorem d_M_copyRow_159 : decode b_M_copyRow 159 = .ok (.imul, 1) := by decide +kernel
theorem d_M_copyRow_160 : decode b_M_copyRow 160 = .ok (.iload_n 3, 1) := by decide +kernel
theorem d_M_copyRow_161 : decode b_M_copyRow 161 = .ok (.iadd, 1) := by decide +kernel
theorem d_M_copyRow_162 : decode b_M_copyRow 162 = .ok (.aload_n 0, 1) := by decide +kernel
theorem d_M_copyRow_163 : decode b_M_copyRow 163 = .ok (.getfield 35, 3) := by decide +kernel
theorem d_M_copyRow_166 : decode b_M_copyRow 166 = .ok (.bipush 12, 2) := by decide +kernel
theorem d_M_copyRow_168 : decode b_M_copyRow 168 = .ok (.iload_n 1, 1) := by decide +kernel
theorem d_M_copyRow_169 : decode b_M_copyRow 169 = .ok (.imul, 1) := by decide +kernel
theorem d_M_copyRow_170 : decode b_M_copyRow 170 = .ok (.iload_n 3, 1) := by decide +kernel
theorem d_M_copyRow_171 : decode b_M_copyRow 171 = .ok (.iadd, 1) := by decide +kernel
theorem d_M_copyRow_172 : decode b_M_copyRow 172 = .ok (.iaload, 1) := by decide +kernel
theorem d_M_copyRow_173 : decode b_M_copyRow 173 = .ok (.iastore, 1) := by decide +kernel
theorem d_M_copyRow_174 : decode b_M_copyRow 174 = .ok (.aload_n 0, 1) := by decide +kernel
theorem d_M_copyRow_175 : decode b_M_copyRow 175 = .ok (.getfield 38, 3) := by decide +kernel
theorem d_M_copyRow_178 : decode b_M_copyRow 178 = .ok (.bipush 12, 2) := by decide +kernel
theorem d_M_copyRow_180 : decode b_M_copyRow 180 = .ok (.iload_n 2, 1) := by decide +kernel
theorem d_M_copyRow_181 : decode b_M_copyRow 181 = .ok (.imul, 1) := by decide +kernel
theorem d_M_copyRow_182 : decode b_M_copyRow 182 = .ok (.iload_n 3, 1) := by decide +kernel
theorem d_M_copyRow_183 : decode b_M_copyRow 183 = .ok (.iadd, 1) := by decide +kernel
theorem d_M_copyRow_184 : decode b_M_copyRow 184 = .ok (.aload_n 0, 1) := by decide +kernel
theorem d_M_copyRow_185 : decode b_M_copyRow 185 = .ok (.getfield 38, 3) := by decide +kernel
theorem d_M_copyRow_188 : decode b_M_copyRow 188 = .ok (.bipush 12, 2) := by decide +kernel
theorem d_M_copyRow_190 : decode b_M_copyRow 190 = .ok (.iload_n 1, 1) := by decide +kernel
theorem d_M_copyRow_191 : decode b_M_copyRow 191 = .ok (.imul, 1) := by decide +kernel
theorem d_M_copyRow_192 : decode b_M_copyRow 192 = .ok (.iload_n 3, 1) := by decide +kernel
theorem d_M_copyRow_193 : decode b_M_copyRow 193 = .ok (.iadd, 1) := by decide +kernel
theorem d_M_copyRow_194 : decode b_M_copyRow 194 = .ok (.iaload, 1) := by decide +kernel
theorem d_M_copyRow_195 : decode b_M_copyRow 195 = .ok (.iastore, 1) := by decide +kernel
theorem d_M_copyRow_196 : decode b_M_copyRow 196 = .ok (.aload_n 0, 1) := by decide +kernel
theorem d_M_copyRow_197 : decode b_M_copyRow 197 = .ok (.getfield 41, 3) := by decide +kernel
theorem d_M_copyRow_200 : decode b_M_copyRow 200 = .ok (.bipush 12, 2) := by decide +kernel
theorem d_M_copyRow_202 : decode b_M_copyRow 202 = .ok (.iload_n 2, 1) := by decide +kernel
theorem d_M_copyRow_203 : decode b_M_copyRow 203 = .ok (.imul, 1) := by decide +kernel
theorem d_M_copyRow_204 : decode b_M_copyRow 204 = .ok (.iload_n 3, 1) := by decide +kernel
theorem d_M_copyRow_205 : decode b_M_copyRow 205 = .ok (.iadd, 1) := by decide +kernel
theorem d_M_copyRow_206 : decode b_M_copyRow 206 = .ok (.aload_n 0, 1) := by decide +kernel
theorem d_M_copyRow_207 : decode b_M_copyRow 207 = .ok (.getfield 41, 3) := by decide +kernel
theorem d_M_copyRow_210 : decode b_M_copyRow 210 = .ok (.bipush 12, 2) := by decide +kernel
theorem d_M_copyRow_212 : decode b_M_copyRow 212 = .ok (.iload_n 1, 1) := by decide +kernel
theorem d_M_copyRow_213 : decode b_M_copyRow 213 = .ok (.imul, 1) := by decide +kernel
theorem d_M_copyRow_214 : decode b_M_copyRow 214 = .ok (.iload_n 3, 1) := by decide +kernel
theorem d_M_copyRow_215 : decode b_M_copyRow 215 = .ok (.iadd, 1) := by decide +kernel
theorem d_M_copyRow_216 : decode b_M_copyRow 216 = .ok (.iaload, 1) := by decide +kernel
theorem d_M_copyRow_217 : decode b_M_copyRow 217 = .ok (.iastore, 1) := by decide +kernel
theorem d_M_copyRow_218 : decode b_M_copyRow 218 = .ok (.iinc 3 1, 3) := by decide +kernel
theorem d_M_copyRow_221 : decode b_M_copyRow 221 = .ok (.goto (-75), 3) := by decide +kernel
theorem d_M_copyRow_224 : decode b_M_copyRow 224 = .ok (.return_, 1) := by decide +kernel
theorem d_M_find_0 : decode b_M_find 0 = .ok (.iconst 0, 1) := by decide +kernel
theorem d_M_find_1 : decode b_M_find 1 = .ok (.istore 4, 2) := by decide +kernel
theorem d_M_find_3 : decode b_M_find 3 = .ok (.iload 4, 2) := by decide +kernel
theorem d_M_find_5 : decode b_M_find 5 = .ok (.aload_n 0, 1) := by decide +kernel
theorem d_M_find_6 : decode b_M_find 6 = .ok (.getfield 85, 3) := by decide +kernel
theorem d_M_find_9 : decode b_M_find 9 = .ok (.if_icmp .ge 35, 3) := by decide +kernel
theorem d_M_find_12 : decode b_M_find 12 = .ok (.aload_n 0, 1) := by decide +kernel
theorem d_M_find_13 : decode b_M_find 13 = .ok (.getfield 50, 3) := by decide +kernel
theorem d_M_find_16 : decode b_M_find 16 = .ok (.iload 4, 2) := by decide +kernel
theorem d_M_find_18 : decode b_M_find 18 = .ok (.laload, 1) := by decide +kernel
theorem d_M_find_19 : decode b_M_find 19 = .ok (.lload_n 1, 1) := by decide +kernel
theorem d_M_find_20 : decode b_M_find 20 = .ok (.lcmp, 1) := by decide +kernel
theorem d_M_find_21 : decode b_M_find 21 = .ok (.ifCond .ne 17, 3) := by decide +kernel
theorem d_M_find_24 : decode b_M_find 24 = .ok (.aload_n 0, 1) := by decide +kernel
theorem d_M_find_25 : decode b_M_find 25 = .ok (.getfield 54, 3) := by decide +kernel
theorem d_M_find_28 : decode b_M_find 28 = .ok (.iload 4, 2) := by decide +kernel
theorem d_M_find_30 : decode b_M_find 30 = .ok (.iaload, 1) := by decide +kernel
theorem d_M_find_31 : decode b_M_find 31 = .ok (.iload_n 3, 1) := by decide +kernel
theorem d_M_find_32 : decode b_M_find 32 = .ok (.if_icmp .ne 6, 3) := by decide +kernel
theorem d_M_find_35 : decode b_M_find 35 = .ok (.iload 4, 2) := by decide +kernel
theorem d_M_find_37 : decode b_M_find 37 = .ok (.ireturn, 1) := by decide +kernel
theorem d_M_find_38 : decode b_M_find 38 = .ok (.iinc 4 1, 3) := by decide +kernel
theorem d_M_find_41 : decode b_M_find 41 = .ok (.goto (-38), 3) := by decide +kernel
theorem d_M_find_44 : decode b_M_find 44 = .ok (.iconst (-1), 1) := by decide +kernel
theorem d_M_find_45 : decode b_M_find 45 = .ok (.ireturn, 1) := by decide +kernel
theorem d_M_set_0 : decode b_M_set 0 = .ok (.aload_n 0, 1) := by decide +kernel
theorem d_M_set_1 : decode b_M_set 1 = .ok (.lload_n 1, 1) := by decide +kernel
theorem d_M_set_2 : decode b_M_set 2 = .ok (.iload_n 3, 1) := by decide +kernel
theorem d_M_set_3 : decode b_M_set 3 = .ok (.invokevirtual 88, 3) := by decide +kernel
theorem d_M_set_6 : decode b_M_set 6 = .ok (.istore 6, 2) := by decide +kernel
theorem d_M_set_8 : decode b_M_set 8 = .ok (.iload 6, 2) := by decide +kernel
theorem d_M_set_10 : decode b_M_set 10 = .ok (.ifCond .ge 35, 3) := by decide +kernel
theorem d_M_set_13 : decode b_M_set 13 = .ok (.aload_n 0, 1) := by decide +kernel
theorem d_M_set_14 : decode b_M_set 14 = .ok (.getfield 85, 3) := by decide +kernel
theorem d_M_set_17 : decode b_M_set 17 = .ok (.istore 6, 2) := by decide +kernel
theorem d_M_set_19 : decode b_M_set 19 = .ok (.aload_n 0, 1) := by decide +kernel
theorem d_M_set_20 : decode b_M_set 20 = .ok (.dup, 1) := by decide +kernel
theorem d_M_set_21 : decode b_M_set 21 = .ok (.getfield 85, 3) := by decide +kernel
theorem d_M_set_24 : decode b_M_set 24 = .ok (.iconst 1, 1) := by decide +kernel
theorem d_M_set_25 : decode b_M_set 25 = .ok (.iadd, 1) := by decide +kernel
theorem d_M_set_26 : decode b_M_set 26 = .ok (.putfield 85, 3) := by decide +kernel
theorem d_M_set_29 : decode b_M_set 29 = .ok (.aload_n 0, 1) := by decide +kernel
theorem d_M_set_30 : decode b_M_set 30 = .ok (.getfield 50, 3) := by decide +kernel
theorem d_M_set_33 : decode b_M_set 33 = .ok (.iload 6, 2) := by decide +kernel
theorem d_M_set_35 : decode b_M_set 35 = .ok (.lload_n 1, 1) := by decide +kernel
theorem d_M_set_36 : decode b_M_set 36 = .ok (.lastore, 1) := by decide +kernel
theorem d_M_set_37 : decode b_M_set 37 = .ok (.aload_n 0, 1) := by decide +kernel
theorem d_M_set_38 : decode b_M_set 38 = .ok (.getfield 54, 3) := by decide +kernel
theorem d_M_set_41 : decode b_M_set 41 = .ok (.iload 6, 2) := by decide +kernel
theorem d_M_set_43 : decode b_M_set 43 = .ok (.iload_n 3, 1) := by decide +kernel
theorem d_M_set_44 : decode b_M_set 44 = .ok (.iastore, 1) := by decide +kernel
theorem d_M_set_45 : decode b_M_set 45 = .ok (.aload_n 0, 1) := by decide +kernel
theorem d_M_set_46 : decode b_M_set 46 = .ok (.getfield 57, 3) := by decide +kernel
theorem d_M_set_49 : decode b_M_set 49 = .ok (.iload 6, 2) := by decide +kernel
theorem d_M_set_51 : decode b_M_set 51 = .ok (.iload 4, 2) := by decide +kernel
theorem d_M_set_53 : decode b_M_set 53 = .ok (.iastore, 1) := by decide +kernel
theorem d_M_set_54 : decode b_M_set 54 = .ok (.aload_n 0, 1) := by decide +kernel
theorem d_M_set_55 : decode b_M_set 55 = .ok (.getfield 60, 3) := by decide +kernel
theorem d_M_set_58 : decode b_M_set 58 = .ok (.iload 6, 2) := by decide +kernel
theorem d_M_set_60 : decode b_M_set 60 = .ok (.iload 5, 2) := by decide +kernel
theorem d_M_set_62 : decode b_M_set 62 = .ok (.iastore, 1) := by decide +kernel
theorem d_M_set_63 : decode b_M_set 63 = .ok (.return_, 1) := by decide +kernel
theorem d_M_unset_0 : decode b_M_unset 0 = .ok (.aload_n 0, 1) := by decide +kernel
theorem d_M_unset_1 : decode b_M_unset 1 = .ok (.lload_n 1, 1) := by decide +kernel
theorem d_M_unset_2 : decode b_M_unset 2 = .ok (.iload_n 3, 1) := by decide +kernel
theorem d_M_unset_3 : decode b_M_unset 3 = .ok (.invokevirtual 88, 3) := by decide +kernel
theorem d_M_unset_6 : decode b_M_unset 6 = .ok (.istore 4, 2) := by decide +kernel
theorem d_M_unset_8 : decode b_M_unset 8 = .ok (.iload 4, 2) := by decide +kernel
theorem d_M_unset_10 : decode b_M_unset 10 = .ok (.ifCond .ge 4, 3) := by decide +kernel
theorem d_M_unset_13 : decode b_M_unset 13 = .ok (.return_, 1) := by decide +kernel
theorem d_M_unset_14 : decode b_M_unset 14 = .ok (.aload_n 0, 1) := by decide +kernel
theorem d_M_unset_15 : decode b_M_unset 15 = .ok (.dup, 1) := by decide +kernel
theorem d_M_unset_16 : decode b_M_unset 16 = .ok (.getfield 85, 3) := by decide +kernel
theorem d_M_unset_19 : decode b_M_unset 19 = .ok (.iconst 1, 1) := by decide +kernel
theorem d_M_unset_20 : decode b_M_unset 20 = .ok (.isub, 1) := by decide +kernel
theorem d_M_unset_21 : decode b_M_unset 21 = .ok (.putfield 85, 3) := by decide +kernel
theorem d_M_unset_24 : decode b_M_unset 24 = .ok (.aload_n 0, 1) := by decide +kernel
theorem d_M_unset_25 : decode b_M_unset 25 = .ok (.getfield 50, 3) := by decide +kernel
theorem d_M_unset_28 : decode b_M_unset 28 = .ok (.iload 4, 2) := by decide +kernel
theorem d_M_unset_30 : decode b_M_unset 30 = .ok (.aload_n 0, 1) := by decide +kernel
theorem d_M_unset_31 : decode b_M_unset 31 = .ok (.getfield 50, 3) := by decide +kernel
theorem d_M_unset_34 : decode b_M_unset 34 = .ok (.aload_n 0, 1) := by decide +kernel
theorem d_M_unset_35 : decode b_M_unset 35 = .ok (.getfield 85, 3) := by decide +kernel
theorem d_M_unset_38 : decode b_M_unset 38 = .ok (.laload, 1) := by decide +kernel
theorem d_M_unset_39 : decode b_M_unset 39 = .ok (.lastore, 1) := by decide +kernel
theorem d_M_unset_40 : decode b_M_unset 40 = .ok (.aload_n 0, 1) := by decide +kernel
theorem d_M_unset_41 : decode b_M_unset 41 = .ok (.getfield 54, 3) := by decide +kernel
theorem d_M_unset_44 : decode b_M_unset 44 = .ok (.iload 4, 2) := by decide +kernel
theorem d_M_unset_46 : decode b_M_unset 46 = .ok (.aload_n 0, 1) := by decide +kernel
theorem d_M_unset_47 : decode b_M_unset 47 = .ok (.getfield 54, 3) := by decide +kernel
theorem d_M_unset_50 : decode b_M_unset 50 = .ok (.aload_n 0, 1) := by decide +kernel
theorem d_M_unset_51 : decode b_M_unset 51 = .ok (.getfield 85, 3) := by decide +kernel
theorem d_M_unset_54 : decode b_M_unset 54 = .ok (.iaload, 1) := by decide +kernel
theorem d_M_unset_55 : decode b_M_unset 55 = .ok (.iastore, 1) := by decide +kernel
theorem d_M_unset_56 : decode b_M_unset 56 = .ok (.aload_n 0, 1) := by decide +kernel
theorem d_M_unset_57 : decode b_M_unset 57 = .ok (.getfield 57, 3) := by decide +kernel
theorem d_M_unset_60 : decode b_M_unset 60 = .ok (.iload 4, 2) := by decide +kernel
theorem d_M_unset_62 : decode b_M_unset 62 = .ok (.aload_n 0, 1) := by decide +kernel
theorem d_M_unset_63 : decode b_M_unset 63 = .ok (.getfield 57, 3) := by decide +kernel
theorem d_M_unset_66 : decode b_M_unset 66 = .ok (.aload_n 0, 1) := by decide +kernel
theorem d_M_unset_67 : decode b_M_unset 67 = .ok (.getfield 85, 3) := by decide +kernel
theorem d_M_unset_70 : decode b_M_unset 70 = .ok (.iaload, 1) := by decide +kernel
theorem d_M_unset_71 : decode b_M_unset 71 = .ok (.iastore, 1) := by decide +kernel
theorem d_M_unset_72 : decode b_M_unset 72 = .ok (.aload_n 0, 1) := by decide +kernel
theorem d_M_unset_73 : decode b_M_unset 73 = .ok (.getfield 60, 3) := by decide +kernel
theorem d_M_unset_76 : decode b_M_unset 76 = .ok (.iload 4, 2) := by decide +kernel
theorem d_M_unset_78 : decode b_M_unset 78 = .ok (.aload_n 0, 1) := by decide +kernel
theorem d_M_unset_79 : decode b_M_unset 79 = .ok (.getfield 60, 3) := by decide +kernel
theorem d_M_unset_82 : decode b_M_unset 82 = .ok (.aload_n 0, 1) := by decide +kernel
theorem d_M_unset_83 : decode b_M_unset 83 = .ok (.getfield 85, 3) := by decide +kernel
theorem d_M_unset_86 : decode b_M_unset 86 = .ok (.iaload, 1) := by decide +kernel
theorem d_M_unset_87 : decode b_M_unset 87 = .ok (.iastore, 1) := by decide +kernel
theorem d_M_unset_88 : decode b_M_unset 88 = .ok (.return_, 1) := by decide +kernel
theorem d_M_live_0 : decode b_M_live 0 = .ok (.iconst 0, 1) := by decide +kernel
theorem d_M_live_1 : decode b_M_live 1 = .ok (.istore_n 3, 1) := by decide +kernel
theorem d_M_live_2 : decode b_M_live 2 = .ok (.iload_n 3, 1) := by decide +kernel
theorem d_M_live_3 : decode b_M_live 3 = .ok (.aload_n 0, 1) := by decide +kernel
theorem d_M_live_4 : decode b_M_live 4 = .ok (.getfield 85, 3) := by decide +kernel
theorem d_M_live_7 : decode b_M_live 7 = .ok (.if_icmp .ge 31, 3) := by decide +kernel
theorem d_M_live_10 : decode b_M_live 10 = .ok (.aload_n 0, 1) := by decide +kernel
theorem d_M_live_11 : decode b_M_live 11 = .ok (.getfield 57, 3) := by decide +kernel
theorem d_M_live_14 : decode b_M_live 14 = .ok (.iload_n 3, 1) := by decide +kernel
theorem d_M_live_15 : decode b_M_live 15 = .ok (.iaload, 1) := by decide +kernel
theorem d_M_live_16 : decode b_M_live 16 = .ok (.iload_n 1, 1) := by decide +kernel
theorem d_M_live_17 : decode b_M_live 17 = .ok (.if_icmp .ne 15, 3) := by decide +kernel
theorem d_M_live_20 : decode b_M_live 20 = .ok (.aload_n 0, 1) := by decide +kernel
theorem d_M_live_21 : decode b_M_live 21 = .ok (.getfield 60, 3) := by decide +kernel
theorem d_M_live_24 : decode b_M_live 24 = .ok (.iload_n 3, 1) := by decide +kernel
theorem d_M_live_25 : decode b_M_live 25 = .ok (.iaload, 1) := by decide +kernel
theorem d_M_live_26 : decode b_M_live 26 = .ok (.iload_n 2, 1) := by decide +kernel
theorem d_M_live_27 : decode b_M_live 27 = .ok (.if_icmp .ne 5, 3) := by decide +kernel
theorem d_M_live_30 : decode b_M_live 30 = .ok (.iload_n 3, 1) := by decide +kernel
theorem d_M_live_31 : decode b_M_live 31 = .ok (.ireturn, 1) := by decide +kernel
theorem d_M_live_32 : decode b_M_live 32 = .ok (.iinc 3 1, 3) := by decide +kernel
theorem d_M_live_35 : decode b_M_live 35 = .ok (.goto (-33), 3) := by decide +kernel
theorem d_M_live_38 : decode b_M_live 38 = .ok (.iconst (-1), 1) := by decide +kernel
theorem d_M_live_39 : decode b_M_live 39 = .ok (.ireturn, 1) := by decide +kernel
theorem d_M_rowOf_0 : decode b_M_rowOf 0 = .ok (.iconst 0, 1) := by decide +kernel
theorem d_M_rowOf_1 : decode b_M_rowOf 1 = .ok (.istore_n 2, 1) := by decide +kernel
theorem d_M_rowOf_2 : decode b_M_rowOf 2 = .ok (.aload_n 0, 1) := by decide +kernel
theorem d_M_rowOf_3 : decode b_M_rowOf 3 = .ok (.getfield 7, 3) := by decide +kernel
theorem d_M_rowOf_6 : decode b_M_rowOf 6 = .ok (.iload_n 2, 1) := by decide +kernel
theorem d_M_rowOf_7 : decode b_M_rowOf 7 = .ok (.iaload, 1) := by decide +kernel
theorem d_M_rowOf_8 : decode b_M_rowOf 8 = .ok (.iload_n 1, 1) := by decide +kernel
theorem d_M_rowOf_9 : decode b_M_rowOf 9 = .ok (.if_icmp .eq 9, 3) := by decide +kernel
theorem d_M_rowOf_12 : decode b_M_rowOf 12 = .ok (.iinc 2 1, 3) := by decide +kernel
theorem d_M_rowOf_15 : decode b_M_rowOf 15 = .ok (.goto (-13), 3) := by decide +kernel
theorem d_M_rowOf_18 : decode b_M_rowOf 18 = .ok (.iload_n 2, 1) := by decide +kernel
theorem d_M_rowOf_19 : decode b_M_rowOf 19 = .ok (.ireturn, 1) := by decide +kernel
theorem d_M_letter_0 : decode b_M_letter 0 = .ok (.iload_n 2, 1) := by decide +kernel
theorem d_M_letter_1 : decode b_M_letter 1 = .ok (.aload_n 0, 1) := by decide +kernel
theorem d_M_letter_2 : decode b_M_letter 2 = .ok (.getfield 54, 3) := by decide +kernel
theorem d_M_letter_5 : decode b_M_letter 5 = .ok (.iload_n 1, 1) := by decide +kernel
theorem d_M_letter_6 : decode b_M_letter 6 = .ok (.iaload, 1) := by decide +kernel
theorem d_M_letter_7 : decode b_M_letter 7 = .ok (.if_icmp .ge 31, 3) := by decide +kernel
theorem d_M_letter_10 : decode b_M_letter 10 = .ok (.aload_n 0, 1) := by decide +kernel
theorem d_M_letter_11 : decode b_M_letter 11 = .ok (.getfield 50, 3) := by decide +kernel
theorem d_M_letter_14 : decode b_M_letter 14 = .ok (.iload_n 1, 1) := by decide +kernel
theorem d_M_letter_15 : decode b_M_letter 15 = .ok (.laload, 1) := by decide +kernel
theorem d_M_letter_16 : decode b_M_letter 16 = .ok (.bipush 8, 2) := by decide +kernel
theorem d_M_letter_18 : decode b_M_letter 18 = .ok (.aload_n 0, 1) := by decide +kernel
theorem d_M_letter_19 : decode b_M_letter 19 = .ok (.getfield 54, 3) := by decide +kernel
theorem d_M_letter_22 : decode b_M_letter 22 = .ok (.iload_n 1, 1) := by decide +kernel
theorem d_M_letter_23 : decode b_M_letter 23 = .ok (.iaload, 1) := by decide +kernel
theorem d_M_letter_24 : decode b_M_letter 24 = .ok (.iconst 1, 1) := by decide +kernel
theorem d_M_letter_25 : decode b_M_letter 25 = .ok (.isub, 1) := by decide +kernel
theorem d_M_letter_26 : decode b_M_letter 26 = .ok (.iload_n 2, 1) := by decide +kernel
theorem d_M_letter_27 : decode b_M_letter 27 = .ok (.isub, 1) := by decide +kernel
theorem d_M_letter_28 : decode b_M_letter 28 = .ok (.imul, 1) := by decide +kernel
theorem d_M_letter_29 : decode b_M_letter 29 = .ok (.lshr, 1) := by decide +kernel
theorem d_M_letter_30 : decode b_M_letter 30 = .ok (.ldc2_w 79, 3) := by decide +kernel
theorem d_M_letter_33 : decode b_M_letter 33 = .ok (.land, 1) := by decide +kernel
theorem d_M_letter_34 : decode b_M_letter 34 = .ok (.l2i, 1) := by decide +kernel
theorem d_M_letter_35 : decode b_M_letter 35 = .ok (.goto 4, 3) := by decide +kernel
theorem d_M_letter_38 : decode b_M_letter 38 = .ok (.iconst (-1), 1) := by decide +kernel
theorem d_M_letter_39 : decode b_M_letter 39 = .ok (.ireturn, 1) := by decide +kernel
theorem d_M_ordered_0 : decode b_M_ordered 0 = .ok (.iconst 0, 1) := by decide +kernel
theorem d_M_ordered_1 : decode b_M_ordered 1 = .ok (.istore_n 2, 1) := by decide +kernel
theorem d_M_ordered_2 : decode b_M_ordered 2 = .ok (.iload_n 2, 1) := by decide +kernel
theorem d_M_ordered_3 : decode b_M_ordered 3 = .ok (.aload_n 0, 1) := by decide +kernel
theorem d_M_ordered_4 : decode b_M_ordered 4 = .ok (.getfield 85, 3) := by decide +kernel
theorem d_M_ordered_7 : decode b_M_ordered 7 = .ok (.if_icmp .ge 54, 3) := by decide +kernel
theorem d_M_ordered_10 : decode b_M_ordered 10 = .ok (.iconst 0, 1) := by decide +kernel
theorem d_M_ordered_11 : decode b_M_ordered 11 = .ok (.istore_n 3, 1) := by decide +kernel
theorem d_M_ordered_12 : decode b_M_ordered 12 = .ok (.iconst 0, 1) := by decide +kernel
theorem d_M_ordered_13 : decode b_M_ordered 13 = .ok (.istore 4, 2) := by decide +kernel
theorem d_M_ordered_15 : decode b_M_ordered 15 = .ok (.iload 4, 2) := by decide +kernel
theorem d_M_ordered_17 : decode b_M_ordered 17 = .ok (.aload_n 0, 1) := by decide +kernel
theorem d_M_ordered_18 : decode b_M_ordered 18 = .ok (.getfield 85, 3) := by decide +kernel
theorem d_M_ordered_21 : decode b_M_ordered 21 = .ok (.if_icmp .ge 27, 3) := by decide +kernel
theorem d_M_ordered_24 : decode b_M_ordered 24 = .ok (.aload_n 0, 1) := by decide +kernel
theorem d_M_ordered_25 : decode b_M_ordered 25 = .ok (.iload 4, 2) := by decide +kernel
theorem d_M_ordered_27 : decode b_M_ordered 27 = .ok (.iload_n 2, 1) := by decide +kernel
theorem d_M_ordered_28 : decode b_M_ordered 28 = .ok (.invokevirtual 92, 3) := by decide +kernel
theorem d_M_ordered_31 : decode b_M_ordered 31 = .ok (.ifCond .eq 9, 3) := by decide +kernel
theorem d_M_ordered_34 : decode b_M_ordered 34 = .ok (.iload_n 3, 1) := by decide +kernel
theorem d_M_ordered_35 : decode b_M_ordered 35 = .ok (.iconst 1, 1) := by decide +kernel
theorem d_M_ordered_36 : decode b_M_ordered 36 = .ok (.iadd, 1) := by decide +kernel
theorem d_M_ordered_37 : decode b_M_ordered 37 = .ok (.goto 4, 3) := by decide +kernel
theorem d_M_ordered_40 : decode b_M_ordered 40 = .ok (.iload_n 3, 1) := by decide +kernel
theorem d_M_ordered_41 : decode b_M_ordered 41 = .ok (.istore_n 3, 1) := by decide +kernel
theorem d_M_ordered_42 : decode b_M_ordered 42 = .ok (.iinc 4 1, 3) := by decide +kernel
theorem d_M_ordered_45 : decode b_M_ordered 45 = .ok (.goto (-30), 3) := by decide +kernel
theorem d_M_ordered_48 : decode b_M_ordered 48 = .ok (.iload_n 3, 1) := by decide +kernel
theorem d_M_ordered_49 : decode b_M_ordered 49 = .ok (.iload_n 1, 1) := by decide +kernel
theorem d_M_ordered_50 : decode b_M_ordered 50 = .ok (.if_icmp .ne 5, 3) := by decide +kernel
theorem d_M_ordered_53 : decode b_M_ordered 53 = .ok (.iload_n 2, 1) := by decide +kernel
theorem d_M_ordered_54 : decode b_M_ordered 54 = .ok (.ireturn, 1) := by decide +kernel
theorem d_M_ordered_55 : decode b_M_ordered 55 = .ok (.iinc 2 1, 3) := by decide +kernel
theorem d_M_ordered_58 : decode b_M_ordered 58 = .ok (.goto (-56), 3) := by decide +kernel
theorem d_M_ordered_61 : decode b_M_ordered 61 = .ok (.iconst (-1), 1) := by decide +kernel
theorem d_M_ordered_62 : decode b_M_ordered 62 = .ok (.ireturn, 1) := by decide +kernel
theorem d_M_comesBefore_0 : decode b_M_comesBefore 0 = .ok (.iconst 0, 1) := by decide +kernel
theorem d_M_comesBefore_1 : decode b_M_comesBefore 1 = .ok (.istore_n 3, 1) := by decide +kernel
theorem d_M_comesBefore_2 : decode b_M_comesBefore 2 = .ok (.iload_n 3, 1) := by decide +kernel
theorem d_M_comesBefore_3 : decode b_M_comesBefore 3 = .ok (.iconst 4, 1) := by decide +kernel
theorem d_M_comesBefore_4 : decode b_M_comesBefore 4 = .ok (.if_icmp .ge 45, 3) := by decide +kernel
theorem d_M_comesBefore_7 : decode b_M_comesBefore 7 = .ok (.aload_n 0, 1) := by decide +kernel
theorem d_M_comesBefore_8 : decode b_M_comesBefore 8 = .ok (.iload_n 1, 1) := by decide +kernel
theorem d_M_comesBefore_9 : decode b_M_comesBefore 9 = .ok (.iload_n 3, 1) := by decide +kernel
theorem d_M_comesBefore_10 : decode b_M_comesBefore 10 = .ok (.invokevirtual 96, 3) := by decide +kernel
theorem d_M_comesBefore_13 : decode b_M_comesBefore 13 = .ok (.aload_n 0, 1) := by decide +kernel
theorem d_M_comesBefore_14 : decode b_M_comesBefore 14 = .ok (.iload_n 2, 1) := by decide +kernel
theorem d_M_comesBefore_15 : decode b_M_comesBefore 15 = .ok (.iload_n 3, 1) := by decide +kernel
theorem d_M_comesBefore_16 : decode b_M_comesBefore 16 = .ok (.invokevirtual 96, 3) := by decide +kernel
theorem d_M_comesBefore_19 : decode b_M_comesBefore 19 = .ok (.if_icmp .eq 24, 3) := by decide +kernel
theorem d_M_comesBefore_22 : decode b_M_comesBefore 22 = .ok (.aload_n 0, 1) := by decide +kernel
theorem d_M_comesBefore_23 : decode b_M_comesBefore 23 = .ok (.iload_n 1, 1) := by decide +kernel
theorem d_M_comesBefore_24 : decode b_M_comesBefore 24 = .ok (.iload_n 3, 1) := by decide +kernel
theorem d_M_comesBefore_25 : decode b_M_comesBefore 25 = .ok (.invokevirtual 96, 3) := by decide +kernel
theorem d_M_comesBefore_28 : decode b_M_comesBefore 28 = .ok (.aload_n 0, 1) := by decide +kernel
theorem d_M_comesBefore_29 : decode b_M_comesBefore 29 = .ok (.iload_n 2, 1) := by decide +kernel
theorem d_M_comesBefore_30 : decode b_M_comesBefore 30 = .ok (.iload_n 3, 1) := by decide +kernel
theorem d_M_comesBefore_31 : decode b_M_comesBefore 31 = .ok (.invokevirtual 96, 3) := by decide +kernel
theorem d_M_comesBefore_34 : decode b_M_comesBefore 34 = .ok (.if_icmp .ge 7, 3) := by decide +kernel
theorem d_M_comesBefore_37 : decode b_M_comesBefore 37 = .ok (.iconst 1, 1) := by decide +kernel
theorem d_M_comesBefore_38 : decode b_M_comesBefore 38 = .ok (.goto 4, 3) := by decide +kernel
theorem d_M_comesBefore_41 : decode b_M_comesBefore 41 = .ok (.iconst 0, 1) := by decide +kernel
theorem d_M_comesBefore_42 : decode b_M_comesBefore 42 = .ok (.ireturn, 1) := by decide +kernel
theorem d_M_comesBefore_43 : decode b_M_comesBefore 43 = .ok (.iinc 3 1, 3) := by decide +kernel
theorem d_M_comesBefore_46 : decode b_M_comesBefore 46 = .ok (.goto (-44), 3) := by decide +kernel
theorem d_M_comesBefore_49 : decode b_M_comesBefore 49 = .ok (.iconst 0, 1) := by decide +kernel
theorem d_M_comesBefore_50 : decode b_M_comesBefore 50 = .ok (.ireturn, 1) := by decide +kernel
theorem d_M_full_0 : decode b_M_full 0 = .ok (.aload_n 0, 1) := by decide +kernel
theorem d_M_full_1 : decode b_M_full 1 = .ok (.getfield 99, 3) := by decide +kernel
theorem d_M_full_4 : decode b_M_full 4 = .ok (.bipush 6, 2) := by decide +kernel
theorem d_M_full_6 : decode b_M_full 6 = .ok (.if_icmp .ne 27, 3) := by decide +kernel
theorem d_M_full_9 : decode b_M_full 9 = .ok (.aload_n 0, 1) := by decide +kernel
theorem d_M_full_10 : decode b_M_full 10 = .ok (.getfield 102, 3) := by decide +kernel
theorem d_M_full_13 : decode b_M_full 13 = .ok (.ifCond .eq 16, 3) := by decide +kernel
theorem d_M_full_16 : decode b_M_full 16 = .ok (.aload_n 0, 1) := by decide +kernel
theorem d_M_full_17 : decode b_M_full 17 = .ok (.getfield 13, 3) := by decide +kernel
theorem d_M_full_20 : decode b_M_full 20 = .ok (.iconst 5, 1) := by decide +kernel
theorem d_M_full_21 : decode b_M_full 21 = .ok (.iaload, 1) := by decide +kernel
theorem d_M_full_22 : decode b_M_full 22 = .ok (.iload_n 1, 1) := by decide +kernel
theorem d_M_full_23 : decode b_M_full 23 = .ok (.iadd, 1) := by decide +kernel
theorem d_M_full_24 : decode b_M_full 24 = .ok (.bipush 100, 2) := by decide +kernel
theorem d_M_full_26 : decode b_M_full 26 = .ok (.if_icmp .le 7, 3) := by decide +kernel
theorem d_M_full_29 : decode b_M_full 29 = .ok (.iconst 1, 1) := by decide +kernel
theorem d_M_full_30 : decode b_M_full 30 = .ok (.goto 4, 3) := by decide +kernel
theorem d_M_full_33 : decode b_M_full 33 = .ok (.iconst 0, 1) := by decide +kernel
theorem d_M_full_34 : decode b_M_full 34 = .ok (.ireturn, 1) := by decide +kernel
theorem d_M_putByte_0 : decode b_M_putByte 0 = .ok (.aload_n 0, 1) := by decide +kernel
theorem d_M_putByte_1 : decode b_M_putByte 1 = .ok (.getfield 19, 3) := by decide +kernel
theorem d_M_putByte_4 : decode b_M_putByte 4 = .ok (.bipush 100, 2) := by decide +kernel
theorem d_M_putByte_6 : decode b_M_putByte 6 = .ok (.iload_n 1, 1) := by decide +kernel
theorem d_M_putByte_7 : decode b_M_putByte 7 = .ok (.imul, 1) := by decide +kernel
theorem d_M_putByte_8 : decode b_M_putByte 8 = .ok (.aload_n 0, 1) := by decide +kernel
theorem d_M_putByte_9 : decode b_M_putByte 9 = .ok (.getfield 13, 3) := by decide +kernel
theorem d_M_putByte_12 : decode b_M_putByte 12 = .ok (.iload_n 1, 1) := by decide +kernel
theorem d_M_putByte_13 : decode b_M_putByte 13 = .ok (.iaload, 1) := by decide +kernel
theorem d_M_putByte_14 : decode b_M_putByte 14 = .ok (.iadd, 1) := by decide +kernel
theorem d_M_putByte_15 : decode b_M_putByte 15 = .ok (.iload_n 2, 1) := by decide +kernel
theorem d_M_putByte_16 : decode b_M_putByte 16 = .ok (.iastore, 1) := by decide +kernel
theorem d_M_putByte_17 : decode b_M_putByte 17 = .ok (.aload_n 0, 1) := by decide +kernel
theorem d_M_putByte_18 : decode b_M_putByte 18 = .ok (.getfield 13, 3) := by decide +kernel
theorem d_M_putByte_21 : decode b_M_putByte 21 = .ok (.iload_n 1, 1) := by decide +kernel
theorem d_M_putByte_22 : decode b_M_putByte 22 = .ok (.dup2, 1) := by decide +kernel
theorem d_M_putByte_23 : decode b_M_putByte 23 = .ok (.iaload, 1) := by decide +kernel
theorem d_M_putByte_24 : decode b_M_putByte 24 = .ok (.iconst 1, 1) := by decide +kernel
theorem d_M_putByte_25 : decode b_M_putByte 25 = .ok (.iadd, 1) := by decide +kernel
theorem d_M_putByte_26 : decode b_M_putByte 26 = .ok (.iastore, 1) := by decide +kernel
theorem d_M_putByte_27 : decode b_M_putByte 27 = .ok (.return_, 1) := by decide +kernel
theorem d_M_putNumber_0 : decode b_M_putNumber 0 = .ok (.iload 4, 2) := by decide +kernel
theorem d_M_putNumber_2 : decode b_M_putNumber 2 = .ok (.iconst 1, 1) := by decide +kernel
theorem d_M_putNumber_3 : decode b_M_putNumber 3 = .ok (.isub, 1) := by decide +kernel
theorem d_M_putNumber_4 : decode b_M_putNumber 4 = .ok (.istore 5, 2) := by decide +kernel
theorem d_M_putNumber_6 : decode b_M_putNumber 6 = .ok (.iload 5, 2) := by decide +kernel
theorem d_M_putNumber_8 : decode b_M_putNumber 8 = .ok (.ifCond .lt 26, 3) := by decide +kernel
theorem d_M_putNumber_11 : decode b_M_putNumber 11 = .ok (.aload_n 0, 1) := by decide +kernel
theorem d_M_putNumber_12 : decode b_M_putNumber 12 = .ok (.iload_n 1, 1) := by decide +kernel
theorem d_M_putNumber_13 : decode b_M_putNumber 13 = .ok (.lload_n 2, 1) := by decide +kernel
theorem d_M_putNumber_14 : decode b_M_putNumber 14 = .ok (.bipush 8, 2) := by decide +kernel
theorem d_M_putNumber_16 : decode b_M_putNumber 16 = .ok (.iload 5, 2) := by decide +kernel
theorem d_M_putNumber_18 : decode b_M_putNumber 18 = .ok (.imul, 1) := by decide +kernel
theorem d_M_putNumber_19 : decode b_M_putNumber 19 = .ok (.lshr, 1) := by decide +kernel
theorem d_M_putNumber_20 : decode b_M_putNumber 20 = .ok (.ldc2_w 79, 3) := by decide +kernel
theorem d_M_putNumber_23 : decode b_M_putNumber 23 = .ok (.land, 1) := by decide +kernel
theorem d_M_putNumber_24 : decode b_M_putNumber 24 = .ok (.l2i, 1) := by decide +kernel
theorem d_M_putNumber_25 : decode b_M_putNumber 25 = .ok (.invokevirtual 106, 3) := by decide +kernel
theorem d_M_putNumber_28 : decode b_M_putNumber 28 = .ok (.iinc 5 (-1), 3) := by decide +kernel
theorem d_M_putNumber_31 : decode b_M_putNumber 31 = .ok (.goto (-25), 3) := by decide +kernel
theorem d_M_putNumber_34 : decode b_M_putNumber 34 = .ok (.return_, 1) := by decide +kernel
theorem d_M_append_0 : decode b_M_append 0 = .ok (.iload_n 3, 1) := by decide +kernel
theorem d_M_append_1 : decode b_M_append 1 = .ok (.iload 6, 2) := by decide +kernel
theorem d_M_append_3 : decode b_M_append 3 = .ok (.invokestatic 81, 3) := by decide +kernel
theorem d_M_append_6 : decode b_M_append 6 = .ok (.istore 7, 2) := by decide +kernel
theorem d_M_append_8 : decode b_M_append 8 = .ok (.aload_n 0, 1) := by decide +kernel
theorem d_M_append_9 : decode b_M_append 9 = .ok (.getfield 102, 3) := by decide +kernel
theorem d_M_append_12 : decode b_M_append 12 = .ok (.ifCond .eq 22, 3) := by decide +kernel
theorem d_M_append_15 : decode b_M_append 15 = .ok (.aload_n 0, 1) := by decide +kernel
theorem d_M_append_16 : decode b_M_append 16 = .ok (.getfield 13, 3) := by decide +kernel
theorem d_M_append_19 : decode b_M_append 19 = .ok (.aload_n 0, 1) := by decide +kernel
theorem d_M_append_20 : decode b_M_append 20 = .ok (.getfield 99, 3) := by decide +kernel
theorem d_M_append_23 : decode b_M_append 23 = .ok (.iconst 1, 1) := by decide +kernel
theorem d_M_append_24 : decode b_M_append 24 = .ok (.isub, 1) := by decide +kernel
theorem d_M_append_25 : decode b_M_append 25 = .ok (.iaload, 1) := by decide +kernel
theorem d_M_append_26 : decode b_M_append 26 = .ok (.iload 7, 2) := by decide +kernel
theorem d_M_append_28 : decode b_M_append 28 = .ok (.iadd, 1) := by decide +kernel
theorem d_M_append_29 : decode b_M_append 29 = .ok (.bipush 100, 2) := by decide +kernel
theorem d_M_append_31 : decode b_M_append 31 = .ok (.if_icmp .le 78, 3) := by decide +kernel
theorem d_M_append_34 : decode b_M_append 34 = .ok (.aload_n 0, 1) := by decide +kernel
theorem d_M_append_35 : decode b_M_append 35 = .ok (.getfield 102, 3) := by decide +kernel
theorem d_M_append_38 : decode b_M_append 38 = .ok (.ifCond .eq 25, 3) := by decide +kernel
theorem d_M_append_41 : decode b_M_append 41 = .ok (.aload_n 0, 1) := by decide +kernel
theorem d_M_append_42 : decode b_M_append 42 = .ok (.getfield 16, 3) := by decide +kernel
theorem d_M_append_45 : decode b_M_append 45 = .ok (.aload_n 0, 1) := by decide +kernel
theorem d_M_append_46 : decode b_M_append 46 = .ok (.getfield 99, 3) := by decide +kernel
theorem d_M_append_49 : decode b_M_append 49 = .ok (.iconst 1, 1) := by decide +kernel
theorem d_M_append_50 : decode b_M_append 50 = .ok (.isub, 1) := by decide +kernel
theorem d_M_append_51 : decode b_M_append 51 = .ok (.aload_n 0, 1) := by decide +kernel
theorem d_M_append_52 : decode b_M_append 52 = .ok (.getfield 13, 3) := by decide +kernel
theorem d_M_append_55 : decode b_M_append 55 = .ok (.aload_n 0, 1) := by decide +kernel
theorem d_M_append_56 : decode b_M_append 56 = .ok (.getfield 99, 3) := by decide +kernel
theorem d_M_append_59 : decode b_M_append 59 = .ok (.iconst 1, 1) := by decide +kernel
theorem d_M_append_60 : decode b_M_append 60 = .ok (.isub, 1) := by decide +kernel
theorem d_M_append_61 : decode b_M_append 61 = .ok (.iaload, 1) := by decide +kernel
theorem d_M_append_62 : decode b_M_append 62 = .ok (.iastore, 1) := by decide +kernel
theorem d_M_append_63 : decode b_M_append 63 = .ok (.aload_n 0, 1) := by decide +kernel
theorem d_M_append_64 : decode b_M_append 64 = .ok (.iconst 1, 1) := by decide +kernel
theorem d_M_append_65 : decode b_M_append 65 = .ok (.putfield 102, 3) := by decide +kernel
theorem d_M_append_68 : decode b_M_append 68 = .ok (.aload_n 0, 1) := by decide +kernel
theorem d_M_append_69 : decode b_M_append 69 = .ok (.aload_n 0, 1) := by decide +kernel
theorem d_M_append_70 : decode b_M_append 70 = .ok (.getfield 99, 3) := by decide +kernel
theorem d_M_append_73 : decode b_M_append 73 = .ok (.invokevirtual 110, 3) := by decide +kernel
theorem d_M_append_76 : decode b_M_append 76 = .ok (.aload_n 0, 1) := by decide +kernel
theorem d_M_append_77 : decode b_M_append 77 = .ok (.dup, 1) := by decide +kernel
theorem d_M_append_78 : decode b_M_append 78 = .ok (.getfield 114, 3) := by decide +kernel
theorem d_M_append_81 : decode b_M_append 81 = .ok (.iconst 1, 1) := by decide +kernel
theorem d_M_append_82 : decode b_M_append 82 = .ok (.iadd, 1) := by decide +kernel
theorem d_M_append_83 : decode b_M_append 83 = .ok (.putfield 114, 3) := by decide +kernel
theorem d_M_append_86 : decode b_M_append 86 = .ok (.aload_n 0, 1) := by decide +kernel
theorem d_M_append_87 : decode b_M_append 87 = .ok (.getfield 7, 3) := by decide +kernel
theorem d_M_append_90 : decode b_M_append 90 = .ok (.aload_n 0, 1) := by decide +kernel
theorem d_M_append_91 : decode b_M_append 91 = .ok (.getfield 99, 3) := by decide +kernel
theorem d_M_append_94 : decode b_M_append 94 = .ok (.aload_n 0, 1) := by decide +kernel
theorem d_M_append_95 : decode b_M_append 95 = .ok (.getfield 114, 3) := by decide +kernel
theorem d_M_append_98 : decode b_M_append 98 = .ok (.iastore, 1) := by decide +kernel
theorem d_M_append_99 : decode b_M_append 99 = .ok (.aload_n 0, 1) := by decide +kernel
theorem d_M_append_100 : decode b_M_append 100 = .ok (.dup, 1) := by decide +kernel
theorem d_M_append_101 : decode b_M_append 101 = .ok (.getfield 99, 3) := by decide +kernel
theorem d_M_append_104 : decode b_M_append 104 = .ok (.iconst 1, 1) := by decide +kernel
theorem d_M_append_105 : decode b_M_append 105 = .ok (.iadd, 1) := by decide +kernel
theorem d_M_append_106 : decode b_M_append 106 = .ok (.putfield 99, 3) := by decide +kernel
theorem d_M_append_109 : decode b_M_append 109 = .ok (.aload_n 0, 1) := by decide +kernel
theorem d_M_append_110 : decode b_M_append 110 = .ok (.getfield 99, 3) := by decide +kernel
theorem d_M_append_113 : decode b_M_append 113 = .ok (.iconst 1, 1) := by decide +kernel
theorem d_M_append_114 : decode b_M_append 114 = .ok (.isub, 1) := by decide +kernel
theorem d_M_append_115 : decode b_M_append 115 = .ok (.istore 8, 2) := by decide +kernel
theorem d_M_append_117 : decode b_M_append 117 = .ok (.aload_n 0, 1) := by decide +kernel
theorem d_M_append_118 : decode b_M_append 118 = .ok (.getfield 13, 3) := by decide +kernel
theorem d_M_append_121 : decode b_M_append 121 = .ok (.iload 8, 2) := by decide +kernel
theorem d_M_append_123 : decode b_M_append 123 = .ok (.iaload, 1) := by decide +kernel
theorem d_M_append_124 : decode b_M_append 124 = .ok (.istore 9, 2) := by decide +kernel
theorem d_M_append_126 : decode b_M_append 126 = .ok (.aload_n 0, 1) := by decide +kernel
theorem d_M_append_127 : decode b_M_append 127 = .ok (.iload 8, 2) := by decide +kernel
theorem d_M_append_129 : decode b_M_append 129 = .ok (.iload 9, 2) := by decide +kernel
theorem d_M_append_131 : decode b_M_append 131 = .ok (.iload_n 3, 1) := by decide +kernel
theorem d_M_append_132 : decode b_M_append 132 = .ok (.iload 6, 2) := by decide +kernel
theorem d_M_append_134 : decode b_M_append 134 = .ok (.invokevirtual 117, 3) := by decide +kernel
theorem d_M_append_137 : decode b_M_append 137 = .ok (.aload_n 0, 1) := by decide +kernel
theorem d_M_append_138 : decode b_M_append 138 = .ok (.iload 8, 2) := by decide +kernel
theorem d_M_append_140 : decode b_M_append 140 = .ok (.lconst 0, 1) := by decide +kernel
theorem d_M_append_141 : decode b_M_append 141 = .ok (.iconst 4, 1) := by decide +kernel
theorem d_M_append_142 : decode b_M_append 142 = .ok (.invokevirtual 121, 3) := by decide +kernel
theorem d_M_append_145 : decode b_M_append 145 = .ok (.aload_n 0, 1) := by decide +kernel
theorem d_M_append_146 : decode b_M_append 146 = .ok (.iload 8, 2) := by decide +kernel
theorem d_M_append_148 : decode b_M_append 148 = .ok (.aload_n 0, 1) := by decide +kernel
theorem d_M_append_149 : decode b_M_append 149 = .ok (.getfield 125, 3) := by decide +kernel
theorem d_M_append_152 : decode b_M_append 152 = .ok (.i2l, 1) := by decide +kernel
theorem d_M_append_153 : decode b_M_append 153 = .ok (.iconst 2, 1) := by decide +kernel
theorem d_M_append_154 : decode b_M_append 154 = .ok (.invokevirtual 121, 3) := by decide +kernel
theorem d_M_append_157 : decode b_M_append 157 = .ok (.aload_n 0, 1) := by decide +kernel
theorem d_M_append_158 : decode b_M_append 158 = .ok (.iload 8, 2) := by decide +kernel
theorem d_M_append_160 : decode b_M_append 160 = .ok (.iload_n 3, 1) := by decide +kernel
theorem d_M_append_161 : decode b_M_append 161 = .ok (.invokevirtual 106, 3) := by decide +kernel
theorem d_M_append_164 : decode b_M_append 164 = .ok (.aload_n 0, 1) := by decide +kernel
theorem d_M_append_165 : decode b_M_append 165 = .ok (.iload 8, 2) := by decide +kernel
theorem d_M_append_167 : decode b_M_append 167 = .ok (.iload 6, 2) := by decide +kernel
theorem d_M_append_169 : decode b_M_append 169 = .ok (.invokevirtual 106, 3) := by decide +kernel
theorem d_M_append_172 : decode b_M_append 172 = .ok (.aload_n 0, 1) := by decide +kernel
theorem d_M_append_173 : decode b_M_append 173 = .ok (.iload 8, 2) := by decide +kernel
theorem d_M_append_175 : decode b_M_append 175 = .ok (.lload_n 1, 1) := by decide +kernel
theorem d_M_append_176 : decode b_M_append 176 = .ok (.iload_n 3, 1) := by decide +kernel
theorem d_M_append_177 : decode b_M_append 177 = .ok (.invokevirtual 121, 3) := by decide +kernel
theorem d_M_append_180 : decode b_M_append 180 = .ok (.iload 6, 2) := by decide +kernel
theorem d_M_append_182 : decode b_M_append 182 = .ok (.sipush 255, 3) := by decide +kernel
theorem d_M_append_185 : decode b_M_append 185 = .ok (.if_icmp .ge 13, 3) := by decide +kernel
theorem d_M_append_188 : decode b_M_append 188 = .ok (.aload_n 0, 1) := by decide +kernel
theorem d_M_append_189 : decode b_M_append 189 = .ok (.iload 8, 2) := by decide +kernel
theorem d_M_append_191 : decode b_M_append 191 = .ok (.lload 4, 2) := by decide +kernel
theorem d_M_append_193 : decode b_M_append 193 = .ok (.iload 6, 2) := by decide +kernel
theorem d_M_append_195 : decode b_M_append 195 = .ok (.invokevirtual 121, 3) := by decide +kernel
theorem d_M_append_198 : decode b_M_append 198 = .ok (.aload_n 0, 1) := by decide +kernel
theorem d_M_append_199 : decode b_M_append 199 = .ok (.getfield 19, 3) := by decide +kernel
theorem d_M_append_202 : decode b_M_append 202 = .ok (.bipush 100, 2) := by decide +kernel
theorem d_M_append_204 : decode b_M_append 204 = .ok (.iload 8, 2) := by decide +kernel
theorem d_M_append_206 : decode b_M_append 206 = .ok (.imul, 1) := by decide +kernel
theorem d_M_append_207 : decode b_M_append 207 = .ok (.iload 9, 2) := by decide +kernel
theorem d_M_append_209 : decode b_M_append 209 = .ok (.iadd, 1) := by decide +kernel
theorem d_M_append_210 : decode b_M_append 210 = .ok (.iconst 4, 1) := by decide +kernel
theorem d_M_append_211 : decode b_M_append 211 = .ok (.iadd, 1) := by decide +kernel
theorem d_M_append_212 : decode b_M_append 212 = .ok (.bipush 100, 2) := by decide +kernel
theorem d_M_append_214 : decode b_M_append 214 = .ok (.iload 8, 2) := by decide +kernel
theorem d_M_append_216 : decode b_M_append 216 = .ok (.imul, 1) := by decide +kernel
theorem d_M_append_217 : decode b_M_append 217 = .ok (.aload_n 0, 1) := by decide +kernel
theorem d_M_append_218 : decode b_M_append 218 = .ok (.getfield 13, 3) := by decide +kernel
theorem d_M_append_221 : decode b_M_append 221 = .ok (.iload 8, 2) := by decide +kernel
theorem d_M_append_223 : decode b_M_append 223 = .ok (.iaload, 1) := by decide +kernel
theorem d_M_append_224 : decode b_M_append 224 = .ok (.iadd, 1) := by decide +kernel
theorem d_M_append_225 : decode b_M_append 225 = .ok (.invokestatic 128, 3) := by decide +kernel
theorem d_M_append_228 : decode b_M_append 228 = .ok (.lstore 10, 2) := by decide +kernel
theorem d_M_append_230 : decode b_M_append 230 = .ok (.iconst 0, 1) := by decide +kernel
theorem d_M_append_231 : decode b_M_append 231 = .ok (.istore 12, 2) := by decide +kernel
theorem d_M_append_233 : decode b_M_append 233 = .ok (.iload 12, 2) := by decide +kernel
theorem d_M_append_235 : decode b_M_append 235 = .ok (.iconst 4, 1) := by decide +kernel
theorem d_M_append_236 : decode b_M_append 236 = .ok (.if_icmp .ge 40, 3) := by decide +kernel
theorem d_M_append_239 : decode b_M_append 239 = .ok (.aload_n 0, 1) := by decide +kernel
theorem d_M_append_240 : decode b_M_append 240 = .ok (.getfield 19, 3) := by decide +kernel
theorem d_M_append_243 : decode b_M_append 243 = .ok (.bipush 100, 2) := by decide +kernel
theorem d_M_append_245 : decode b_M_append 245 = .ok (.iload 8, 2) := by decide +kernel
theorem d_M_append_247 : decode b_M_append 247 = .ok (.imul, 1) := by decide +kernel
theorem d_M_append_248 : decode b_M_append 248 = .ok (.iload 9, 2) := by decide +kernel
theorem d_M_append_250 : decode b_M_append 250 = .ok (.iadd, 1) := by decide +kernel
theorem d_M_append_251 : decode b_M_append 251 = .ok (.iload 12, 2) := by decide +kernel
theorem d_M_append_253 : decode b_M_append 253 = .ok (.iadd, 1) := by decide +kernel
theorem d_M_append_254 : decode b_M_append 254 = .ok (.lload 10, 2) := by decide +kernel
theorem d_M_append_256 : decode b_M_append 256 = .ok (.bipush 8, 2) := by decide +kernel
theorem d_M_append_258 : decode b_M_append 258 = .ok (.iconst 3, 1) := by decide +kernel
theorem d_M_append_259 : decode b_M_append 259 = .ok (.iload 12, 2) := by decide +kernel
theorem d_M_append_261 : decode b_M_append 261 = .ok (.isub, 1) := by decide +kernel
theorem d_M_append_262 : decode b_M_append 262 = .ok (.imul, 1) := by decide +kernel
theorem d_M_append_263 : decode b_M_append 263 = .ok (.lshr, 1) := by decide +kernel
theorem d_M_append_264 : decode b_M_append 264 = .ok (.ldc2_w 79, 3) := by decide +kernel
theorem d_M_append_267 : decode b_M_append 267 = .ok (.land, 1) := by decide +kernel
theorem d_M_append_268 : decode b_M_append 268 = .ok (.l2i, 1) := by decide +kernel
theorem d_M_append_269 : decode b_M_append 269 = .ok (.iastore, 1) := by decide +kernel
theorem d_M_append_270 : decode b_M_append 270 = .ok (.iinc 12 1, 3) := by decide +kernel
theorem d_M_append_273 : decode b_M_append 273 = .ok (.goto (-40), 3) := by decide +kernel
theorem d_M_append_276 : decode b_M_append 276 = .ok (.aload_n 0, 1) := by decide +kernel
theorem d_M_append_277 : decode b_M_append 277 = .ok (.aload_n 0, 1) := by decide +kernel
theorem d_M_append_278 : decode b_M_append 278 = .ok (.getfield 125, 3) := by decide +kernel
theorem d_M_append_281 : decode b_M_append 281 = .ok (.iconst 1, 1) := by decide +kernel
theorem d_M_append_282 : decode b_M_append 282 = .ok (.iadd, 1) := by decide +kernel
theorem d_M_append_283 : decode b_M_append 283 = .ok (.ldc 132, 2) := by decide +kernel
theorem d_M_append_285 : decode b_M_append 285 = .ok (.irem, 1) := by decide +kernel
theorem d_M_append_286 : decode b_M_append 286 = .ok (.putfield 125, 3) := by decide +kernel
theorem d_M_append_289 : decode b_M_append 289 = .ok (.return_, 1) := by decide +kernel
theorem d_M_put_0 : decode b_M_put 0 = .ok (.aload_n 0, 1) := by decide +kernel
theorem d_M_put_1 : decode b_M_put 1 = .ok (.iload_n 3, 1) := by decide +kernel
theorem d_M_put_2 : decode b_M_put 2 = .ok (.iconst 1, 1) := by decide +kernel
theorem d_M_put_3 : decode b_M_put 3 = .ok (.iconst 4, 1) := by decide +kernel
theorem d_M_put_4 : decode b_M_put 4 = .ok (.invokestatic 133, 3) := by decide +kernel
theorem d_M_put_7 : decode b_M_put 7 = .ok (.ifCond .eq 14, 3) := by decide +kernel
theorem d_M_put_10 : decode b_M_put 10 = .ok (.iload 6, 2) := by decide +kernel
theorem d_M_put_12 : decode b_M_put 12 = .ok (.iconst 0, 1) := by decide +kernel
theorem d_M_put_13 : decode b_M_put 13 = .ok (.bipush 8, 2) := by decide +kernel
theorem d_M_put_15 : decode b_M_put 15 = .ok (.invokestatic 133, 3) := by decide +kernel
theorem d_M_put_18 : decode b_M_put 18 = .ok (.ifCond .ne 7, 3) := by decide +kernel
theorem d_M_put_21 : decode b_M_put 21 = .ok (.iconst 1, 1) := by decide +kernel
theorem d_M_put_22 : decode b_M_put 22 = .ok (.goto 32, 3) := by decide +kernel
theorem d_M_put_25 : decode b_M_put 25 = .ok (.aload_n 0, 1) := by decide +kernel
theorem d_M_put_26 : decode b_M_put 26 = .ok (.getfield 137, 3) := by decide +kernel
theorem d_M_put_29 : decode b_M_put 29 = .ok (.ifCond .eq 7, 3) := by decide +kernel
theorem d_M_put_32 : decode b_M_put 32 = .ok (.iconst 2, 1) := by decide +kernel
theorem d_M_put_33 : decode b_M_put 33 = .ok (.goto 21, 3) := by decide +kernel
theorem d_M_put_36 : decode b_M_put 36 = .ok (.aload_n 0, 1) := by decide +kernel
theorem d_M_put_37 : decode b_M_put 37 = .ok (.iload_n 3, 1) := by decide +kernel
theorem d_M_put_38 : decode b_M_put 38 = .ok (.iload 6, 2) := by decide +kernel
theorem d_M_put_40 : decode b_M_put 40 = .ok (.invokestatic 81, 3) := by decide +kernel
theorem d_M_put_43 : decode b_M_put 43 = .ok (.invokevirtual 140, 3) := by decide +kernel
theorem d_M_put_46 : decode b_M_put 46 = .ok (.ifCond .eq 7, 3) := by decide +kernel
theorem d_M_put_49 : decode b_M_put 49 = .ok (.iconst 3, 1) := by decide +kernel
theorem d_M_put_50 : decode b_M_put 50 = .ok (.goto 4, 3) := by decide +kernel
theorem d_M_put_53 : decode b_M_put 53 = .ok (.iconst 0, 1) := by decide +kernel
theorem d_M_put_54 : decode b_M_put 54 = .ok (.putfield 63, 3) := by decide +kernel
theorem d_M_put_57 : decode b_M_put 57 = .ok (.aload_n 0, 1) := by decide +kernel
theorem d_M_put_58 : decode b_M_put 58 = .ok (.getfield 63, 3) := by decide +kernel
theorem d_M_put_61 : decode b_M_put 61 = .ok (.ifCond .le 4, 3) := by decide +kernel
theorem d_M_put_64 : decode b_M_put 64 = .ok (.return_, 1) := by decide +kernel
theorem d_M_put_65 : decode b_M_put 65 = .ok (.aload_n 0, 1) := by decide +kernel
theorem d_M_put_66 : decode b_M_put 66 = .ok (.lload_n 1, 1) := by decide +kernel
theorem d_M_put_67 : decode b_M_put 67 = .ok (.iload_n 3, 1) := by decide +kernel
theorem d_M_put_68 : decode b_M_put 68 = .ok (.lload 4, 2) := by decide +kernel
theorem d_M_put_70 : decode b_M_put 70 = .ok (.iload 6, 2) := by decide +kernel
theorem d_M_put_72 : decode b_M_put 72 = .ok (.invokevirtual 144, 3) := by decide +kernel
theorem d_M_put_75 : decode b_M_put 75 = .ok (.aload_n 0, 1) := by decide +kernel
theorem d_M_put_76 : decode b_M_put 76 = .ok (.lload_n 1, 1) := by decide +kernel
theorem d_M_put_77 : decode b_M_put 77 = .ok (.iload_n 3, 1) := by decide +kernel
theorem d_M_put_78 : decode b_M_put 78 = .ok (.invokestatic 148, 3) := by decide +kernel
theorem d_M_put_81 : decode b_M_put 81 = .ok (.iload_n 3, 1) := by decide +kernel
theorem d_M_put_82 : decode b_M_put 82 = .ok (.aload_n 0, 1) := by decide +kernel
theorem d_M_put_83 : decode b_M_put 83 = .ok (.getfield 114, 3) := by decide +kernel
theorem d_M_put_86 : decode b_M_put 86 = .ok (.aload_n 0, 1) := by decide +kernel
theorem d_M_put_87 : decode b_M_put 87 = .ok (.getfield 32, 3) := by decide +kernel
theorem d_M_put_90 : decode b_M_put 90 = .ok (.aload_n 0, 1) := by decide +kernel
theorem d_M_put_91 : decode b_M_put 91 = .ok (.getfield 99, 3) := by decide +kernel
theorem d_M_put_94 : decode b_M_put 94 = .ok (.iconst 1, 1) := by decide +kernel
theorem d_M_put_95 : decode b_M_put 95 = .ok (.isub, 1) := by decide +kernel
theorem d_M_put_96 : decode b_M_put 96 = .ok (.iaload, 1) := by decide +kernel
theorem d_M_put_97 : decode b_M_put 97 = .ok (.iconst 1, 1) := by decide +kernel
theorem d_M_put_98 : decode b_M_put 98 = .ok (.isub, 1) := by decide +kernel
theorem d_M_put_99 : decode b_M_put 99 = .ok (.invokevirtual 151, 3) := by decide +kernel
theorem d_M_put_102 : decode b_M_put 102 = .ok (.return_, 1) := by decide +kernel
theorem d_M_delete_0 : decode b_M_delete 0 = .ok (.aload_n 0, 1) := by decide +kernel
theorem d_M_delete_1 : decode b_M_delete 1 = .ok (.iload_n 3, 1) := by decide +kernel
theorem d_M_delete_2 : decode b_M_delete 2 = .ok (.iconst 1, 1) := by decide +kernel
theorem d_M_delete_3 : decode b_M_delete 3 = .ok (.iconst 4, 1) := by decide +kernel
theorem d_M_delete_4 : decode b_M_delete 4 = .ok (.invokestatic 133, 3) := by decide +kernel
theorem d_M_delete_7 : decode b_M_delete 7 = .ok (.ifCond .ne 7, 3) := by decide +kernel
theorem d_M_delete_10 : decode b_M_delete 10 = .ok (.iconst 1, 1) := by decide +kernel
theorem d_M_delete_11 : decode b_M_delete 11 = .ok (.goto 15, 3) := by decide +kernel
theorem d_M_delete_14 : decode b_M_delete 14 = .ok (.aload_n 0, 1) := by decide +kernel
theorem d_M_delete_15 : decode b_M_delete 15 = .ok (.getfield 137, 3) := by decide +kernel
theorem d_M_delete_18 : decode b_M_delete 18 = .ok (.ifCond .eq 7, 3) := by decide +kernel
theorem d_M_delete_21 : decode b_M_delete 21 = .ok (.iconst 2, 1) := by decide +kernel
theorem d_M_delete_22 : decode b_M_delete 22 = .ok (.goto 4, 3) := by decide +kernel
theorem d_M_delete_25 : decode b_M_delete 25 = .ok (.iconst 0, 1) := by decide +kernel
theorem d_M_delete_26 : decode b_M_delete 26 = .ok (.putfield 63, 3) := by decide +kernel
theorem d_M_delete_29 : decode b_M_delete 29 = .ok (.aload_n 0, 1) := by decide +kernel
theorem d_M_delete_30 : decode b_M_delete 30 = .ok (.getfield 63, 3) := by decide +kernel
theorem d_M_delete_33 : decode b_M_delete 33 = .ok (.ifCond .gt 16, 3) := by decide +kernel
theorem d_M_delete_36 : decode b_M_delete 36 = .ok (.aload_n 0, 1) := by decide +kernel
theorem d_M_delete_37 : decode b_M_delete 37 = .ok (.lload_n 1, 1) := by decide +kernel
theorem d_M_delete_38 : decode b_M_delete 38 = .ok (.iload_n 3, 1) := by decide +kernel
theorem d_M_delete_39 : decode b_M_delete 39 = .ok (.invokestatic 148, 3) := by decide +kernel
theorem d_M_delete_42 : decode b_M_delete 42 = .ok (.iload_n 3, 1) := by decide +kernel
theorem d_M_delete_43 : decode b_M_delete 43 = .ok (.invokevirtual 88, 3) := by decide +kernel
theorem d_M_delete_46 : decode b_M_delete 46 = .ok (.ifCond .ge 5, 3) := by decide +kernel
theorem d_M_delete_49 : decode b_M_delete 49 = .ok (.iconst 0, 1) := by decide +kernel
theorem d_M_delete_50 : decode b_M_delete 50 = .ok (.ireturn, 1) := by decide +kernel
theorem d_M_delete_51 : decode b_M_delete 51 = .ok (.aload_n 0, 1) := by decide +kernel
theorem d_M_delete_52 : decode b_M_delete 52 = .ok (.bipush 8, 2) := by decide +kernel
theorem d_M_delete_54 : decode b_M_delete 54 = .ok (.iload_n 3, 1) := by decide +kernel
theorem d_M_delete_55 : decode b_M_delete 55 = .ok (.iadd, 1) := by decide +kernel
theorem d_M_delete_56 : decode b_M_delete 56 = .ok (.invokevirtual 140, 3) := by decide +kernel
theorem d_M_delete_59 : decode b_M_delete 59 = .ok (.ifCond .eq 10, 3) := by decide +kernel
theorem d_M_delete_62 : decode b_M_delete 62 = .ok (.aload_n 0, 1) := by decide +kernel
theorem d_M_delete_63 : decode b_M_delete 63 = .ok (.iconst 3, 1) := by decide +kernel
theorem d_M_delete_64 : decode b_M_delete 64 = .ok (.putfield 63, 3) := by decide +kernel
theorem d_M_delete_67 : decode b_M_delete 67 = .ok (.iconst 0, 1) := by decide +kernel
theorem d_M_delete_68 : decode b_M_delete 68 = .ok (.ireturn, 1) := by decide +kernel
theorem d_M_delete_69 : decode b_M_delete 69 = .ok (.aload_n 0, 1) := by decide +kernel
theorem d_M_delete_70 : decode b_M_delete 70 = .ok (.lload_n 1, 1) := by decide +kernel
theorem d_M_delete_71 : decode b_M_delete 71 = .ok (.iload_n 3, 1) := by decide +kernel
theorem d_M_delete_72 : decode b_M_delete 72 = .ok (.lconst 0, 1) := by decide +kernel
theorem d_M_delete_73 : decode b_M_delete 73 = .ok (.sipush 255, 3) := by decide +kernel
theorem d_M_delete_76 : decode b_M_delete 76 = .ok (.invokevirtual 144, 3) := by decide +kernel
theorem d_M_delete_79 : decode b_M_delete 79 = .ok (.aload_n 0, 1) := by decide +kernel
theorem d_M_delete_80 : decode b_M_delete 80 = .ok (.lload_n 1, 1) := by decide +kernel
theorem d_M_delete_81 : decode b_M_delete 81 = .ok (.iload_n 3, 1) := by decide +kernel
theorem d_M_delete_82 : decode b_M_delete 82 = .ok (.invokestatic 148, 3) := by decide +kernel
theorem d_M_delete_85 : decode b_M_delete 85 = .ok (.iload_n 3, 1) := by decide +kernel
theorem d_M_delete_86 : decode b_M_delete 86 = .ok (.invokevirtual 155, 3) := by decide +kernel
theorem d_M_delete_89 : decode b_M_delete 89 = .ok (.iconst 1, 1) := by decide +kernel
theorem d_M_delete_90 : decode b_M_delete 90 = .ok (.ireturn, 1) := by decide +kernel
theorem d_M_get_0 : decode b_M_get 0 = .ok (.aload_n 0, 1) := by decide +kernel
theorem d_M_get_1 : decode b_M_get 1 = .ok (.iload_n 3, 1) := by decide +kernel
theorem d_M_get_2 : decode b_M_get 2 = .ok (.iconst 1, 1) := by decide +kernel
theorem d_M_get_3 : decode b_M_get 3 = .ok (.iconst 4, 1) := by decide +kernel
theorem d_M_get_4 : decode b_M_get 4 = .ok (.invokestatic 133, 3) := by decide +kernel
theorem d_M_get_7 : decode b_M_get 7 = .ok (.ifCond .ne 7, 3) := by decide +kernel
theorem d_M_get_10 : decode b_M_get 10 = .ok (.iconst 1, 1) := by decide +kernel
theorem d_M_get_11 : decode b_M_get 11 = .ok (.goto 15, 3) := by decide +kernel
theorem d_M_get_14 : decode b_M_get 14 = .ok (.aload_n 0, 1) := by decide +kernel
theorem d_M_get_15 : decode b_M_get 15 = .ok (.getfield 137, 3) := by decide +kernel
theorem d_M_get_18 : decode b_M_get 18 = .ok (.ifCond .eq 7, 3) := by decide +kernel
theorem d_M_get_21 : decode b_M_get 21 = .ok (.iconst 2, 1) := by decide +kernel
theorem d_M_get_22 : decode b_M_get 22 = .ok (.goto 4, 3) := by decide +kernel
theorem d_M_get_25 : decode b_M_get 25 = .ok (.iconst 0, 1) := by decide +kernel
theorem d_M_get_26 : decode b_M_get 26 = .ok (.putfield 63, 3) := by decide +kernel
theorem d_M_get_29 : decode b_M_get 29 = .ok (.aload_n 0, 1) := by decide +kernel
theorem d_M_get_30 : decode b_M_get 30 = .ok (.getfield 63, 3) := by decide +kernel
theorem d_M_get_33 : decode b_M_get 33 = .ok (.ifCond .le 5, 3) := by decide +kernel
theorem d_M_get_36 : decode b_M_get 36 = .ok (.lconst 0, 1) := by decide +kernel
theorem d_M_get_37 : decode b_M_get 37 = .ok (.lreturn, 1) := by decide +kernel
theorem d_M_get_38 : decode b_M_get 38 = .ok (.aload_n 0, 1) := by decide +kernel
theorem d_M_get_39 : decode b_M_get 39 = .ok (.lload_n 1, 1) := by decide +kernel
theorem d_M_get_40 : decode b_M_get 40 = .ok (.iload_n 3, 1) := by decide +kernel
theorem d_M_get_41 : decode b_M_get 41 = .ok (.invokestatic 148, 3) := by decide +kernel
theorem d_M_get_44 : decode b_M_get 44 = .ok (.iload_n 3, 1) := by decide +kernel
theorem d_M_get_45 : decode b_M_get 45 = .ok (.invokevirtual 88, 3) := by decide +kernel
theorem d_M_get_48 : decode b_M_get 48 = .ok (.istore 4, 2) := by decide +kernel
theorem d_M_get_50 : decode b_M_get 50 = .ok (.iload 4, 2) := by decide +kernel
theorem d_M_get_52 : decode b_M_get 52 = .ok (.ifCond .ge 10, 3) := by decide +kernel
theorem d_M_get_55 : decode b_M_get 55 = .ok (.aload_n 0, 1) := by decide +kernel
theorem d_M_get_56 : decode b_M_get 56 = .ok (.iconst 3, 1) := by decide +kernel
theorem d_M_get_57 : decode b_M_get 57 = .ok (.invokevirtual 159, 3) := by decide +kernel
theorem d_M_get_60 : decode b_M_get 60 = .ok (.i2l, 1) := by decide +kernel
theorem d_M_get_61 : decode b_M_get 61 = .ok (.lreturn, 1) := by decide +kernel
theorem d_M_get_62 : decode b_M_get 62 = .ok (.aload_n 0, 1) := by decide +kernel
theorem d_M_get_63 : decode b_M_get 63 = .ok (.aload_n 0, 1) := by decide +kernel
theorem d_M_get_64 : decode b_M_get 64 = .ok (.getfield 57, 3) := by decide +kernel
theorem d_M_get_67 : decode b_M_get 67 = .ok (.iload 4, 2) := by decide +kernel
theorem d_M_get_69 : decode b_M_get 69 = .ok (.iaload, 1) := by decide +kernel
theorem d_M_get_70 : decode b_M_get 70 = .ok (.invokevirtual 163, 3) := by decide +kernel
theorem d_M_get_73 : decode b_M_get 73 = .ok (.istore 5, 2) := by decide +kernel
theorem d_M_get_75 : decode b_M_get 75 = .ok (.bipush 100, 2) := by decide +kernel
theorem d_M_get_77 : decode b_M_get 77 = .ok (.iload 5, 2) := by decide +kernel
theorem d_M_get_79 : decode b_M_get 79 = .ok (.imul, 1) := by decide +kernel
theorem d_M_get_80 : decode b_M_get 80 = .ok (.aload_n 0, 1) := by decide +kernel
theorem d_M_get_81 : decode b_M_get 81 = .ok (.getfield 35, 3) := by decide +kernel
theorem d_M_get_84 : decode b_M_get 84 = .ok (.bipush 12, 2) := by decide +kernel
theorem d_M_get_86 : decode b_M_get 86 = .ok (.iload 5, 2) := by decide +kernel
theorem d_M_get_88 : decode b_M_get 88 = .ok (.imul, 1) := by decide +kernel
theorem d_M_get_89 : decode b_M_get 89 = .ok (.aload_n 0, 1) := by decide +kernel
theorem d_M_get_90 : decode b_M_get 90 = .ok (.getfield 60, 3) := by decide +kernel
theorem d_M_get_93 : decode b_M_get 93 = .ok (.iload 4, 2) := by decide +kernel
theorem d_M_get_95 : decode b_M_get 95 = .ok (.iaload, 1) := by decide +kernel
theorem d_M_get_96 : decode b_M_get 96 = .ok (.iadd, 1) := by decide +kernel
theorem d_M_get_97 : decode b_M_get 97 = .ok (.iaload, 1) := by decide +kernel
theorem d_M_get_98 : decode b_M_get 98 = .ok (.iadd, 1) := by decide +kernel
theorem d_M_get_99 : decode b_M_get 99 = .ok (.istore 6, 2) := by decide +kernel
theorem d_M_get_101 : decode b_M_get 101 = .ok (.aload_n 0, 1) := by decide +kernel
theorem d_M_get_102 : decode b_M_get 102 = .ok (.iload 5, 2) := by decide +kernel
theorem d_M_get_104 : decode b_M_get 104 = .ok (.aload_n 0, 1) := by decide +kernel
theorem d_M_get_105 : decode b_M_get 105 = .ok (.getfield 60, 3) := by decide +kernel
theorem d_M_get_108 : decode b_M_get 108 = .ok (.iload 4, 2) := by decide +kernel
theorem d_M_get_110 : decode b_M_get 110 = .ok (.iaload, 1) := by decide +kernel
theorem d_M_get_111 : decode b_M_get 111 = .ok (.invokevirtual 166, 3) := by decide +kernel
theorem d_M_get_114 : decode b_M_get 114 = .ok (.istore 7, 2) := by decide +kernel
theorem d_M_get_116 : decode b_M_get 116 = .ok (.aload_n 0, 1) := by decide +kernel
theorem d_M_get_117 : decode b_M_get 117 = .ok (.getfield 19, 3) := by decide +kernel
theorem d_M_get_120 : decode b_M_get 120 = .ok (.iload 6, 2) := by decide +kernel
theorem d_M_get_122 : decode b_M_get 122 = .ok (.iconst 4, 1) := by decide +kernel
theorem d_M_get_123 : decode b_M_get 123 = .ok (.invokestatic 169, 3) := by decide +kernel
theorem d_M_get_126 : decode b_M_get 126 = .ok (.aload_n 0, 1) := by decide +kernel
theorem d_M_get_127 : decode b_M_get 127 = .ok (.getfield 19, 3) := by decide +kernel
theorem d_M_get_130 : decode b_M_get 130 = .ok (.iload 6, 2) := by decide +kernel
theorem d_M_get_132 : decode b_M_get 132 = .ok (.iconst 4, 1) := by decide +kernel
theorem d_M_get_133 : decode b_M_get 133 = .ok (.iadd, 1) := by decide +kernel
theorem d_M_get_134 : decode b_M_get 134 = .ok (.iload 6, 2) := by decide +kernel
theorem d_M_get_136 : decode b_M_get 136 = .ok (.iload 7, 2) := by decide +kernel
theorem d_M_get_138 : decode b_M_get 138 = .ok (.iadd, 1) := by decide +kernel
theorem d_M_get_139 : decode b_M_get 139 = .ok (.invokestatic 128, 3) := by decide +kernel
theorem d_M_get_142 : decode b_M_get 142 = .ok (.lcmp, 1) := by decide +kernel
theorem d_M_get_143 : decode b_M_get 143 = .ok (.ifCond .eq 10, 3) := by decide +kernel
theorem d_M_get_146 : decode b_M_get 146 = .ok (.aload_n 0, 1) := by decide +kernel
theorem d_M_get_147 : decode b_M_get 147 = .ok (.iconst 4, 1) := by decide +kernel
theorem d_M_get_148 : decode b_M_get 148 = .ok (.invokevirtual 159, 3) := by decide +kernel
theorem d_M_get_151 : decode b_M_get 151 = .ok (.i2l, 1) := by decide +kernel
theorem d_M_get_152 : decode b_M_get 152 = .ok (.lreturn, 1) := by decide +kernel
theorem d_M_get_153 : decode b_M_get 153 = .ok (.aload_n 0, 1) := by decide +kernel
theorem d_M_get_154 : decode b_M_get 154 = .ok (.getfield 19, 3) := by decide +kernel
theorem d_M_get_157 : decode b_M_get 157 = .ok (.iload 6, 2) := by decide +kernel
theorem d_M_get_159 : decode b_M_get 159 = .ok (.bipush 8, 2) := by decide +kernel
theorem d_M_get_161 : decode b_M_get 161 = .ok (.iadd, 1) := by decide +kernel
theorem d_M_get_162 : decode b_M_get 162 = .ok (.iload_n 3, 1) := by decide +kernel
theorem d_M_get_163 : decode b_M_get 163 = .ok (.iadd, 1) := by decide +kernel
theorem d_M_get_164 : decode b_M_get 164 = .ok (.iload 7, 2) := by decide +kernel
theorem d_M_get_166 : decode b_M_get 166 = .ok (.bipush 8, 2) := by decide +kernel
theorem d_M_get_168 : decode b_M_get 168 = .ok (.isub, 1) := by decide +kernel
theorem d_M_get_169 : decode b_M_get 169 = .ok (.iload_n 3, 1) := by decide +kernel
theorem d_M_get_170 : decode b_M_get 170 = .ok (.isub, 1) := by decide +kernel
theorem d_M_get_171 : decode b_M_get 171 = .ok (.invokestatic 169, 3) := by decide +kernel
theorem d_M_get_174 : decode b_M_get 174 = .ok (.lreturn, 1) := by decide +kernel
theorem d_M_keys_0 : decode b_M_keys 0 = .ok (.aload_n 0, 1) := by decide +kernel
theorem d_M_keys_1 : decode b_M_keys 1 = .ok (.aload_n 0, 1) := by decide +kernel
theorem d_M_keys_2 : decode b_M_keys 2 = .ok (.getfield 137, 3) := by decide +kernel
theorem d_M_keys_5 : decode b_M_keys 5 = .ok (.ifCond .eq 7, 3) := by decide +kernel
theorem d_M_keys_8 : decode b_M_keys 8 = .ok (.iconst 1, 1) := by decide +kernel
theorem d_M_keys_9 : decode b_M_keys 9 = .ok (.goto 4, 3) := by decide +kernel
theorem d_M_keys_12 : decode b_M_keys 12 = .ok (.iconst 0, 1) := by decide +kernel
theorem d_M_keys_13 : decode b_M_keys 13 = .ok (.putfield 63, 3) := by decide +kernel
theorem d_M_keys_16 : decode b_M_keys 16 = .ok (.aload_n 0, 1) := by decide +kernel
theorem d_M_keys_17 : decode b_M_keys 17 = .ok (.getfield 137, 3) := by decide +kernel
theorem d_M_keys_20 : decode b_M_keys 20 = .ok (.ifCond .eq 7, 3) := by decide +kernel
theorem d_M_keys_23 : decode b_M_keys 23 = .ok (.iconst 0, 1) := by decide +kernel
theorem d_M_keys_24 : decode b_M_keys 24 = .ok (.goto 7, 3) := by decide +kernel
theorem d_M_keys_27 : decode b_M_keys 27 = .ok (.aload_n 0, 1) := by decide +kernel
theorem d_M_keys_28 : decode b_M_keys 28 = .ok (.getfield 85, 3) := by decide +kernel
theorem d_M_keys_31 : decode b_M_keys 31 = .ok (.ireturn, 1) := by decide +kernel
theorem d_M_key_0 : decode b_M_key 0 = .ok (.aload_n 0, 1) := by decide +kernel
theorem d_M_key_1 : decode b_M_key 1 = .ok (.iload_n 2, 1) := by decide +kernel
theorem d_M_key_2 : decode b_M_key 2 = .ok (.iconst 0, 1) := by decide +kernel
theorem d_M_key_3 : decode b_M_key 3 = .ok (.iconst 3, 1) := by decide +kernel
theorem d_M_key_4 : decode b_M_key 4 = .ok (.invokestatic 133, 3) := by decide +kernel
theorem d_M_key_7 : decode b_M_key 7 = .ok (.ifCond .ne 7, 3) := by decide +kernel
theorem d_M_key_10 : decode b_M_key 10 = .ok (.iconst 1, 1) := by decide +kernel
theorem d_M_key_11 : decode b_M_key 11 = .ok (.goto 33, 3) := by decide +kernel
theorem d_M_key_14 : decode b_M_key 14 = .ok (.aload_n 0, 1) := by decide +kernel
theorem d_M_key_15 : decode b_M_key 15 = .ok (.getfield 137, 3) := by decide +kernel
theorem d_M_key_18 : decode b_M_key 18 = .ok (.ifCond .eq 7, 3) := by decide +kernel
theorem d_M_key_21 : decode b_M_key 21 = .ok (.iconst 2, 1) := by decide +kernel
theorem d_M_key_22 : decode b_M_key 22 = .ok (.goto 22, 3) := by decide +kernel
theorem d_M_key_25 : decode b_M_key 25 = .ok (.iload_n 1, 1) := by decide +kernel
theorem d_M_key_26 : decode b_M_key 26 = .ok (.iconst 0, 1) := by decide +kernel
theorem d_M_key_27 : decode b_M_key 27 = .ok (.aload_n 0, 1) := by decide +kernel
theorem d_M_key_28 : decode b_M_key 28 = .ok (.getfield 85, 3) := by decide +kernel
theorem d_M_key_31 : decode b_M_key 31 = .ok (.iconst 1, 1) := by decide +kernel
theorem d_M_key_32 : decode b_M_key 32 = .ok (.isub, 1) := by decide +kernel
theorem d_M_key_33 : decode b_M_key 33 = .ok (.invokestatic 133, 3) := by decide +kernel
theorem d_M_key_36 : decode b_M_key 36 = .ok (.ifCond .ne 7, 3) := by decide +kernel
theorem d_M_key_39 : decode b_M_key 39 = .ok (.iconst 3, 1) := by decide +kernel
theorem d_M_key_40 : decode b_M_key 40 = .ok (.goto 4, 3) := by decide +kernel
theorem d_M_key_43 : decode b_M_key 43 = .ok (.iconst 0, 1) := by decide +kernel
theorem d_M_key_44 : decode b_M_key 44 = .ok (.putfield 63, 3) := by decide +kernel
theorem d_M_key_47 : decode b_M_key 47 = .ok (.aload_n 0, 1) := by decide +kernel
theorem d_M_key_48 : decode b_M_key 48 = .ok (.getfield 63, 3) := by decide +kernel
theorem d_M_key_51 : decode b_M_key 51 = .ok (.ifCond .le 5, 3) := by decide +kernel
theorem d_M_key_54 : decode b_M_key 54 = .ok (.lconst 0, 1) := by decide +kernel
theorem d_M_key_55 : decode b_M_key 55 = .ok (.lreturn, 1) := by decide +kernel
theorem d_M_key_56 : decode b_M_key 56 = .ok (.aload_n 0, 1) := by decide +kernel
theorem d_M_key_57 : decode b_M_key 57 = .ok (.iload_n 1, 1) := by decide +kernel
theorem d_M_key_58 : decode b_M_key 58 = .ok (.invokevirtual 172, 3) := by decide +kernel
theorem d_M_key_61 : decode b_M_key 61 = .ok (.istore_n 3, 1) := by decide +kernel
theorem d_M_key_62 : decode b_M_key 62 = .ok (.aload_n 0, 1) := by decide +kernel
theorem d_M_key_63 : decode b_M_key 63 = .ok (.aload_n 0, 1) := by decide +kernel
theorem d_M_key_64 : decode b_M_key 64 = .ok (.getfield 57, 3) := by decide +kernel
theorem d_M_key_67 : decode b_M_key 67 = .ok (.iload_n 3, 1) := by decide +kernel
theorem d_M_key_68 : decode b_M_key 68 = .ok (.iaload, 1) := by decide +kernel
theorem d_M_key_69 : decode b_M_key 69 = .ok (.invokevirtual 163, 3) := by decide +kernel
theorem d_M_key_72 : decode b_M_key 72 = .ok (.istore 4, 2) := by decide +kernel
theorem d_M_key_74 : decode b_M_key 74 = .ok (.iload_n 2, 1) := by decide +kernel
theorem d_M_key_75 : decode b_M_key 75 = .ok (.ifCond .ne 13, 3) := by decide +kernel
theorem d_M_key_78 : decode b_M_key 78 = .ok (.aload_n 0, 1) := by decide +kernel
theorem d_M_key_79 : decode b_M_key 79 = .ok (.getfield 54, 3) := by decide +kernel
theorem d_M_key_82 : decode b_M_key 82 = .ok (.iload_n 3, 1) := by decide +kernel
theorem d_M_key_83 : decode b_M_key 83 = .ok (.iaload, 1) := by decide +kernel
theorem d_M_key_84 : decode b_M_key 84 = .ok (.i2l, 1) := by decide +kernel
theorem d_M_key_85 : decode b_M_key 85 = .ok (.goto 50, 3) := by decide +kernel
theorem d_M_key_88 : decode b_M_key 88 = .ok (.iload_n 2, 1) := by decide +kernel
theorem d_M_key_89 : decode b_M_key 89 = .ok (.iconst 1, 1) := by decide +kernel
theorem d_M_key_90 : decode b_M_key 90 = .ok (.if_icmp .ne 12, 3) := by decide +kernel
theorem d_M_key_93 : decode b_M_key 93 = .ok (.aload_n 0, 1) := by decide +kernel
theorem d_M_key_94 : decode b_M_key 94 = .ok (.getfield 50, 3) := by decide +kernel
theorem d_M_key_97 : decode b_M_key 97 = .ok (.iload_n 3, 1) := by decide +kernel
theorem d_M_key_98 : decode b_M_key 98 = .ok (.laload, 1) := by decide +kernel
theorem d_M_key_99 : decode b_M_key 99 = .ok (.goto 36, 3) := by decide +kernel
theorem d_M_key_102 : decode b_M_key 102 = .ok (.iload_n 2, 1) := by decide +kernel
theorem d_M_key_103 : decode b_M_key 103 = .ok (.iconst 2, 1) := by decide +kernel
theorem d_M_key_104 : decode b_M_key 104 = .ok (.if_icmp .ne 13, 3) := by decide +kernel
theorem d_M_key_107 : decode b_M_key 107 = .ok (.aload_n 0, 1) := by decide +kernel
theorem d_M_key_108 : decode b_M_key 108 = .ok (.getfield 57, 3) := by decide +kernel
theorem d_M_key_111 : decode b_M_key 111 = .ok (.iload_n 3, 1) := by decide +kernel
theorem d_M_key_112 : decode b_M_key 112 = .ok (.iaload, 1) := by decide +kernel
theorem d_M_key_113 : decode b_M_key 113 = .ok (.i2l, 1) := by decide +kernel
theorem d_M_key_114 : decode b_M_key 114 = .ok (.goto 21, 3) := by decide +kernel
theorem d_M_key_117 : decode b_M_key 117 = .ok (.aload_n 0, 1) := by decide +kernel
theorem d_M_key_118 : decode b_M_key 118 = .ok (.getfield 35, 3) := by decide +kernel
theorem d_M_key_121 : decode b_M_key 121 = .ok (.bipush 12, 2) := by decide +kernel
theorem d_M_key_123 : decode b_M_key 123 = .ok (.iload 4, 2) := by decide +kernel
theorem d_M_key_125 : decode b_M_key 125 = .ok (.imul, 1) := by decide +kernel
theorem d_M_key_126 : decode b_M_key 126 = .ok (.aload_n 0, 1) := by decide +kernel
theorem d_M_key_127 : decode b_M_key 127 = .ok (.getfield 60, 3) := by decide +kernel
theorem d_M_key_130 : decode b_M_key 130 = .ok (.iload_n 3, 1) := by decide +kernel
theorem d_M_key_131 : decode b_M_key 131 = .ok (.iaload, 1) := by decide +kernel
theorem d_M_key_132 : decode b_M_key 132 = .ok (.iadd, 1) := by decide +kernel
theorem d_M_key_133 : decode b_M_key 133 = .ok (.iaload, 1) := by decide +kernel
theorem d_M_key_134 : decode b_M_key 134 = .ok (.i2l, 1) := by decide +kernel
theorem d_M_key_135 : decode b_M_key 135 = .ok (.lreturn, 1) := by decide +kernel
theorem d_M_sync_0 : decode b_M_sync 0 = .ok (.aload_n 0, 1) := by decide +kernel
theorem d_M_sync_1 : decode b_M_sync 1 = .ok (.aload_n 0, 1) := by decide +kernel
theorem d_M_sync_2 : decode b_M_sync 2 = .ok (.getfield 137, 3) := by decide +kernel
theorem d_M_sync_5 : decode b_M_sync 5 = .ok (.ifCond .eq 7, 3) := by decide +kernel
theorem d_M_sync_8 : decode b_M_sync 8 = .ok (.iconst 1, 1) := by decide +kernel
theorem d_M_sync_9 : decode b_M_sync 9 = .ok (.goto 4, 3) := by decide +kernel
theorem d_M_sync_12 : decode b_M_sync 12 = .ok (.iconst 0, 1) := by decide +kernel
theorem d_M_sync_13 : decode b_M_sync 13 = .ok (.putfield 63, 3) := by decide +kernel
theorem d_M_sync_16 : decode b_M_sync 16 = .ok (.aload_n 0, 1) := by decide +kernel
theorem d_M_sync_17 : decode b_M_sync 17 = .ok (.getfield 63, 3) := by decide +kernel
theorem d_M_sync_20 : decode b_M_sync 20 = .ok (.ifCond .ne 32, 3) := by decide +kernel
theorem d_M_sync_23 : decode b_M_sync 23 = .ok (.aload_n 0, 1) := by decide +kernel
theorem d_M_sync_24 : decode b_M_sync 24 = .ok (.getfield 102, 3) := by decide +kernel
theorem d_M_sync_27 : decode b_M_sync 27 = .ok (.ifCond .eq 25, 3) := by decide +kernel
theorem d_M_sync_30 : decode b_M_sync 30 = .ok (.aload_n 0, 1) := by decide +kernel
theorem d_M_sync_31 : decode b_M_sync 31 = .ok (.getfield 16, 3) := by decide +kernel
theorem d_M_sync_34 : decode b_M_sync 34 = .ok (.aload_n 0, 1) := by decide +kernel
theorem d_M_sync_35 : decode b_M_sync 35 = .ok (.getfield 99, 3) := by decide +kernel
theorem d_M_sync_38 : decode b_M_sync 38 = .ok (.iconst 1, 1) := by decide +kernel
theorem d_M_sync_39 : decode b_M_sync 39 = .ok (.isub, 1) := by decide +kernel
theorem d_M_sync_40 : decode b_M_sync 40 = .ok (.aload_n 0, 1) := by decide +kernel
theorem d_M_sync_41 : decode b_M_sync 41 = .ok (.getfield 13, 3) := by decide +kernel
theorem d_M_sync_44 : decode b_M_sync 44 = .ok (.aload_n 0, 1) := by decide +kernel
theorem d_M_sync_45 : decode b_M_sync 45 = .ok (.getfield 99, 3) := by decide +kernel
theorem d_M_sync_48 : decode b_M_sync 48 = .ok (.iconst 1, 1) := by decide +kernel
theorem d_M_sync_49 : decode b_M_sync 49 = .ok (.isub, 1) := by decide +kernel
theorem d_M_sync_50 : decode b_M_sync 50 = .ok (.iaload, 1) := by decide +kernel
theorem d_M_sync_51 : decode b_M_sync 51 = .ok (.iastore, 1) := by decide +kernel
theorem d_M_sync_52 : decode b_M_sync 52 = .ok (.return_, 1) := by decide +kernel
theorem d_M_lose_0 : decode b_M_lose 0 = .ok (.aload_n 0, 1) := by decide +kernel
theorem d_M_lose_1 : decode b_M_lose 1 = .ok (.iload_n 1, 1) := by decide +kernel
theorem d_M_lose_2 : decode b_M_lose 2 = .ok (.iconst 0, 1) := by decide +kernel
theorem d_M_lose_3 : decode b_M_lose 3 = .ok (.bipush 100, 2) := by decide +kernel
theorem d_M_lose_5 : decode b_M_lose 5 = .ok (.invokestatic 133, 3) := by decide +kernel
theorem d_M_lose_8 : decode b_M_lose 8 = .ok (.ifCond .eq 7, 3) := by decide +kernel
theorem d_M_lose_11 : decode b_M_lose 11 = .ok (.iconst 0, 1) := by decide +kernel
theorem d_M_lose_12 : decode b_M_lose 12 = .ok (.goto 4, 3) := by decide +kernel
theorem d_M_lose_15 : decode b_M_lose 15 = .ok (.iconst 1, 1) := by decide +kernel
theorem d_M_lose_16 : decode b_M_lose 16 = .ok (.putfield 63, 3) := by decide +kernel
theorem d_M_lose_19 : decode b_M_lose 19 = .ok (.aload_n 0, 1) := by decide +kernel
theorem d_M_lose_20 : decode b_M_lose 20 = .ok (.getfield 63, 3) := by decide +kernel
theorem d_M_lose_23 : decode b_M_lose 23 = .ok (.ifCond .le 4, 3) := by decide +kernel
theorem d_M_lose_26 : decode b_M_lose 26 = .ok (.return_, 1) := by decide +kernel
theorem d_M_lose_27 : decode b_M_lose 27 = .ok (.aload_n 0, 1) := by decide +kernel
theorem d_M_lose_28 : decode b_M_lose 28 = .ok (.getfield 102, 3) := by decide +kernel
theorem d_M_lose_31 : decode b_M_lose 31 = .ok (.ifCond .eq 57, 3) := by decide +kernel
theorem d_M_lose_34 : decode b_M_lose 34 = .ok (.aload_n 0, 1) := by decide +kernel
theorem d_M_lose_35 : decode b_M_lose 35 = .ok (.getfield 99, 3) := by decide +kernel
theorem d_M_lose_38 : decode b_M_lose 38 = .ok (.iconst 1, 1) := by decide +kernel
theorem d_M_lose_39 : decode b_M_lose 39 = .ok (.isub, 1) := by decide +kernel
theorem d_M_lose_40 : decode b_M_lose 40 = .ok (.istore_n 2, 1) := by decide +kernel
theorem d_M_lose_41 : decode b_M_lose 41 = .ok (.aload_n 0, 1) := by decide +kernel
theorem d_M_lose_42 : decode b_M_lose 42 = .ok (.getfield 16, 3) := by decide +kernel
theorem d_M_lose_45 : decode b_M_lose 45 = .ok (.iload_n 2, 1) := by decide +kernel
theorem d_M_lose_46 : decode b_M_lose 46 = .ok (.iaload, 1) := by decide +kernel
theorem d_M_lose_47 : decode b_M_lose 47 = .ok (.iload_n 1, 1) := by decide +kernel
theorem d_M_lose_48 : decode b_M_lose 48 = .ok (.iadd, 1) := by decide +kernel
theorem d_M_lose_49 : decode b_M_lose 49 = .ok (.istore_n 3, 1) := by decide +kernel
theorem d_M_lose_50 : decode b_M_lose 50 = .ok (.aload_n 0, 1) := by decide +kernel
theorem d_M_lose_51 : decode b_M_lose 51 = .ok (.getfield 13, 3) := by decide +kernel
theorem d_M_lose_54 : decode b_M_lose 54 = .ok (.iload_n 2, 1) := by decide +kernel
theorem d_M_lose_55 : decode b_M_lose 55 = .ok (.iload_n 3, 1) := by decide +kernel
theorem d_M_lose_56 : decode b_M_lose 56 = .ok (.aload_n 0, 1) := by decide +kernel
theorem d_M_lose_57 : decode b_M_lose 57 = .ok (.getfield 13, 3) := by decide +kernel
theorem d_M_lose_60 : decode b_M_lose 60 = .ok (.iload_n 2, 1) := by decide +kernel
theorem d_M_lose_61 : decode b_M_lose 61 = .ok (.iaload, 1) := by decide +kernel
theorem d_M_lose_62 : decode b_M_lose 62 = .ok (.if_icmp .ge 7, 3) := by decide +kernel
theorem d_M_lose_65 : decode b_M_lose 65 = .ok (.iload_n 3, 1) := by decide +kernel
theorem d_M_lose_66 : decode b_M_lose 66 = .ok (.goto 9, 3) := by decide +kernel
theorem d_M_lose_69 : decode b_M_lose 69 = .ok (.aload_n 0, 1) := by decide +kernel
theorem d_M_lose_70 : decode b_M_lose 70 = .ok (.getfield 13, 3) := by decide +kernel
theorem d_M_lose_73 : decode b_M_lose 73 = .ok (.iload_n 2, 1) := by decide +kernel
theorem d_M_lose_74 : decode b_M_lose 74 = .ok (.iaload, 1) := by decide +kernel
theorem d_M_lose_75 : decode b_M_lose 75 = .ok (.iastore, 1) := by decide +kernel
theorem d_M_lose_76 : decode b_M_lose 76 = .ok (.aload_n 0, 1) := by decide +kernel
theorem d_M_lose_77 : decode b_M_lose 77 = .ok (.getfield 16, 3) := by decide +kernel
theorem d_M_lose_80 : decode b_M_lose 80 = .ok (.iload_n 2, 1) := by decide +kernel
theorem d_M_lose_81 : decode b_M_lose 81 = .ok (.aload_n 0, 1) := by decide +kernel
theorem d_M_lose_82 : decode b_M_lose 82 = .ok (.getfield 13, 3) := by decide +kernel
theorem d_M_lose_85 : decode b_M_lose 85 = .ok (.iload_n 2, 1) := by decide +kernel
theorem d_M_lose_86 : decode b_M_lose 86 = .ok (.iaload, 1) := by decide +kernel
theorem d_M_lose_87 : decode b_M_lose 87 = .ok (.iastore, 1) := by decide +kernel
theorem d_M_lose_88 : decode b_M_lose 88 = .ok (.aload_n 0, 1) := by decide +kernel
theorem d_M_lose_89 : decode b_M_lose 89 = .ok (.iconst 0, 1) := by decide +kernel
theorem d_M_lose_90 : decode b_M_lose 90 = .ok (.putfield 102, 3) := by decide +kernel
theorem d_M_lose_93 : decode b_M_lose 93 = .ok (.aload_n 0, 1) := by decide +kernel
theorem d_M_lose_94 : decode b_M_lose 94 = .ok (.iconst 0, 1) := by decide +kernel
theorem d_M_lose_95 : decode b_M_lose 95 = .ok (.putfield 175, 3) := by decide +kernel
theorem d_M_lose_98 : decode b_M_lose 98 = .ok (.aload_n 0, 1) := by decide +kernel
theorem d_M_lose_99 : decode b_M_lose 99 = .ok (.iconst 1, 1) := by decide +kernel
theorem d_M_lose_100 : decode b_M_lose 100 = .ok (.putfield 137, 3) := by decide +kernel
theorem d_M_lose_103 : decode b_M_lose 103 = .ok (.return_, 1) := by decide +kernel
theorem d_M_tells_0 : decode b_M_tells 0 = .ok (.aload_n 0, 1) := by decide +kernel
theorem d_M_tells_1 : decode b_M_tells 1 = .ok (.getfield 32, 3) := by decide +kernel
theorem d_M_tells_4 : decode b_M_tells 4 = .ok (.iload_n 1, 1) := by decide +kernel
theorem d_M_tells_5 : decode b_M_tells 5 = .ok (.iconst 0, 1) := by decide +kernel
theorem d_M_tells_6 : decode b_M_tells 6 = .ok (.iastore, 1) := by decide +kernel
theorem d_M_tells_7 : decode b_M_tells 7 = .ok (.bipush 120, 2) := by decide +kernel
theorem d_M_tells_9 : decode b_M_tells 9 = .ok (.iload_n 1, 1) := by decide +kernel
theorem d_M_tells_10 : decode b_M_tells 10 = .ok (.imul, 1) := by decide +kernel
theorem d_M_tells_11 : decode b_M_tells 11 = .ok (.istore_n 2, 1) := by decide +kernel
theorem d_M_tells_12 : decode b_M_tells 12 = .ok (.iload_n 2, 1) := by decide +kernel
theorem d_M_tells_13 : decode b_M_tells 13 = .ok (.aload_n 0, 1) := by decide +kernel
theorem d_M_tells_14 : decode b_M_tells 14 = .ok (.getfield 26, 3) := by decide +kernel
theorem d_M_tells_17 : decode b_M_tells 17 = .ok (.iload_n 1, 1) := by decide +kernel
theorem d_M_tells_18 : decode b_M_tells 18 = .ok (.iaload, 1) := by decide +kernel
theorem d_M_tells_19 : decode b_M_tells 19 = .ok (.iadd, 1) := by decide +kernel
theorem d_M_tells_20 : decode b_M_tells 20 = .ok (.iconst 4, 1) := by decide +kernel
theorem d_M_tells_21 : decode b_M_tells 21 = .ok (.isub, 1) := by decide +kernel
theorem d_M_tells_22 : decode b_M_tells 22 = .ok (.istore_n 3, 1) := by decide +kernel
theorem d_M_tells_23 : decode b_M_tells 23 = .ok (.aload_n 0, 1) := by decide +kernel
theorem d_M_tells_24 : decode b_M_tells 24 = .ok (.getfield 22, 3) := by decide +kernel
theorem d_M_tells_27 : decode b_M_tells 27 = .ok (.iload_n 1, 1) := by decide +kernel
theorem d_M_tells_28 : decode b_M_tells 28 = .ok (.baload, 1) := by decide +kernel
theorem d_M_tells_29 : decode b_M_tells 29 = .ok (.ifCond .eq 25, 3) := by decide +kernel
theorem d_M_tells_32 : decode b_M_tells 32 = .ok (.aload_n 0, 1) := by decide +kernel
theorem d_M_tells_33 : decode b_M_tells 33 = .ok (.getfield 29, 3) := by decide +kernel
theorem d_M_tells_36 : decode b_M_tells 36 = .ok (.iload_n 3, 1) := by decide +kernel
theorem d_M_tells_37 : decode b_M_tells 37 = .ok (.iconst 4, 1) := by decide +kernel
theorem d_M_tells_38 : decode b_M_tells 38 = .ok (.invokestatic 169, 3) := by decide +kernel
theorem d_M_tells_41 : decode b_M_tells 41 = .ok (.aload_n 0, 1) := by decide +kernel
theorem d_M_tells_42 : decode b_M_tells 42 = .ok (.getfield 29, 3) := by decide +kernel
theorem d_M_tells_45 : decode b_M_tells 45 = .ok (.iload_n 2, 1) := by decide +kernel
theorem d_M_tells_46 : decode b_M_tells 46 = .ok (.iload_n 3, 1) := by decide +kernel
theorem d_M_tells_47 : decode b_M_tells 47 = .ok (.invokestatic 128, 3) := by decide +kernel
theorem d_M_tells_50 : decode b_M_tells 50 = .ok (.lcmp, 1) := by decide +kernel
theorem d_M_tells_51 : decode b_M_tells 51 = .ok (.ifCond .eq 5, 3) := by decide +kernel
theorem d_M_tells_54 : decode b_M_tells 54 = .ok (.iconst 0, 1) := by decide +kernel
theorem d_M_tells_55 : decode b_M_tells 55 = .ok (.ireturn, 1) := by decide +kernel
theorem d_M_tells_56 : decode b_M_tells 56 = .ok (.iconst 0, 1) := by decide +kernel
theorem d_M_tells_57 : decode b_M_tells 57 = .ok (.istore 4, 2) := by decide +kernel
theorem d_M_tells_59 : decode b_M_tells 59 = .ok (.iload_n 2, 1) := by decide +kernel
theorem d_M_tells_60 : decode b_M_tells 60 = .ok (.istore 5, 2) := by decide +kernel
theorem d_M_tells_62 : decode b_M_tells 62 = .ok (.iload 5, 2) := by decide +kernel
theorem d_M_tells_64 : decode b_M_tells 64 = .ok (.iconst 5, 1) := by decide +kernel
theorem d_M_tells_65 : decode b_M_tells 65 = .ok (.iadd, 1) := by decide +kernel
theorem d_M_tells_66 : decode b_M_tells 66 = .ok (.iload_n 3, 1) := by decide +kernel
theorem d_M_tells_67 : decode b_M_tells 67 = .ok (.if_icmp .ge 123, 3) := by decide +kernel
theorem d_M_tells_70 : decode b_M_tells 70 = .ok (.aload_n 0, 1) := by decide +kernel
theorem d_M_tells_71 : decode b_M_tells 71 = .ok (.getfield 29, 3) := by decide +kernel
theorem d_M_tells_74 : decode b_M_tells 74 = .ok (.iload 5, 2) := by decide +kernel
theorem d_M_tells_76 : decode b_M_tells 76 = .ok (.iconst 2, 1) := by decide +kernel
theorem d_M_tells_77 : decode b_M_tells 77 = .ok (.iadd, 1) := by decide +kernel
theorem d_M_tells_78 : decode b_M_tells 78 = .ok (.iaload, 1) := by decide +kernel
theorem d_M_tells_79 : decode b_M_tells 79 = .ok (.istore 6, 2) := by decide +kernel
theorem d_M_tells_81 : decode b_M_tells 81 = .ok (.aload_n 0, 1) := by decide +kernel
theorem d_M_tells_82 : decode b_M_tells 82 = .ok (.getfield 29, 3) := by decide +kernel
theorem d_M_tells_85 : decode b_M_tells 85 = .ok (.iload 5, 2) := by decide +kernel
theorem d_M_tells_87 : decode b_M_tells 87 = .ok (.iconst 3, 1) := by decide +kernel
theorem d_M_tells_88 : decode b_M_tells 88 = .ok (.iadd, 1) := by decide +kernel
theorem d_M_tells_89 : decode b_M_tells 89 = .ok (.iaload, 1) := by decide +kernel
theorem d_M_tells_90 : decode b_M_tells 90 = .ok (.istore 7, 2) := by decide +kernel
theorem d_M_tells_92 : decode b_M_tells 92 = .ok (.iload 6, 2) := by decide +kernel
theorem d_M_tells_94 : decode b_M_tells 94 = .ok (.iconst 1, 1) := by decide +kernel
theorem d_M_tells_95 : decode b_M_tells 95 = .ok (.iconst 4, 1) := by decide +kernel
theorem d_M_tells_96 : decode b_M_tells 96 = .ok (.invokestatic 133, 3) := by decide +kernel
theorem d_M_tells_99 : decode b_M_tells 99 = .ok (.ifCond .eq 54, 3) := by decide +kernel
theorem d_M_tells_102 : decode b_M_tells 102 = .ok (.iload 7, 2) := by decide +kernel
theorem d_M_tells_104 : decode b_M_tells 104 = .ok (.bipush 8, 2) := by decide +kernel
theorem d_M_tells_106 : decode b_M_tells 106 = .ok (.if_icmp .gt 47, 3) := by decide +kernel
theorem d_M_tells_109 : decode b_M_tells 109 = .ok (.aload_n 0, 1) := by decide +kernel
theorem d_M_tells_110 : decode b_M_tells 110 = .ok (.getfield 29, 3) := by decide +kernel
theorem d_M_tells_113 : decode b_M_tells 113 = .ok (.iload 5, 2) := by decide +kernel
theorem d_M_tells_115 : decode b_M_tells 115 = .ok (.iconst 4, 1) := by decide +kernel
theorem d_M_tells_116 : decode b_M_tells 116 = .ok (.iadd, 1) := by decide +kernel
theorem d_M_tells_117 : decode b_M_tells 117 = .ok (.iaload, 1) := by decide +kernel
theorem d_M_tells_118 : decode b_M_tells 118 = .ok (.iload 4, 2) := by decide +kernel
theorem d_M_tells_120 : decode b_M_tells 120 = .ok (.if_icmp .ne 33, 3) := by decide +kernel
theorem d_M_tells_123 : decode b_M_tells 123 = .ok (.iload 5, 2) := by decide +kernel
theorem d_M_tells_125 : decode b_M_tells 125 = .ok (.iconst 5, 1) := by decide +kernel
theorem d_M_tells_126 : decode b_M_tells 126 = .ok (.iadd, 1) := by decide +kernel
theorem d_M_tells_127 : decode b_M_tells 127 = .ok (.iload 6, 2) := by decide +kernel
theorem d_M_tells_129 : decode b_M_tells 129 = .ok (.iadd, 1) := by decide +kernel
theorem d_M_tells_130 : decode b_M_tells 130 = .ok (.iload_n 3, 1) := by decide +kernel
theorem d_M_tells_131 : decode b_M_tells 131 = .ok (.if_icmp .gt 22, 3) := by decide +kernel
theorem d_M_tells_134 : decode b_M_tells 134 = .ok (.iload 4, 2) := by decide +kernel
theorem d_M_tells_136 : decode b_M_tells 136 = .ok (.iload 6, 2) := by decide +kernel
theorem d_M_tells_138 : decode b_M_tells 138 = .ok (.iload 7, 2) := by decide +kernel
theorem d_M_tells_140 : decode b_M_tells 140 = .ok (.invokestatic 81, 3) := by decide +kernel
theorem d_M_tells_143 : decode b_M_tells 143 = .ok (.iadd, 1) := by decide +kernel
theorem d_M_tells_144 : decode b_M_tells 144 = .ok (.aload_n 0, 1) := by decide +kernel
theorem d_M_tells_145 : decode b_M_tells 145 = .ok (.getfield 13, 3) := by decide +kernel
theorem d_M_tells_148 : decode b_M_tells 148 = .ok (.iload_n 1, 1) := by decide +kernel
theorem d_M_tells_149 : decode b_M_tells 149 = .ok (.iaload, 1) := by decide +kernel
theorem d_M_tells_150 : decode b_M_tells 150 = .ok (.if_icmp .le 5, 3) := by decide +kernel
theorem d_M_tells_153 : decode b_M_tells 153 = .ok (.iconst 0, 1) := by decide +kernel
theorem d_M_tells_154 : decode b_M_tells 154 = .ok (.ireturn, 1) := by decide +kernel
theorem d_M_tells_155 : decode b_M_tells 155 = .ok (.aload_n 0, 1) := by decide +kernel
theorem d_M_tells_156 : decode b_M_tells 156 = .ok (.iload_n 1, 1) := by decide +kernel
theorem d_M_tells_157 : decode b_M_tells 157 = .ok (.iload 4, 2) := by decide +kernel
theorem d_M_tells_159 : decode b_M_tells 159 = .ok (.iload 6, 2) := by decide +kernel
theorem d_M_tells_161 : decode b_M_tells 161 = .ok (.iload 7, 2) := by decide +kernel
theorem d_M_tells_163 : decode b_M_tells 163 = .ok (.invokevirtual 117, 3) := by decide +kernel
theorem d_M_tells_166 : decode b_M_tells 166 = .ok (.iload 4, 2) := by decide +kernel
theorem d_M_tells_168 : decode b_M_tells 168 = .ok (.iload 6, 2) := by decide +kernel
theorem d_M_tells_170 : decode b_M_tells 170 = .ok (.iload 7, 2) := by decide +kernel
theorem d_M_tells_172 : decode b_M_tells 172 = .ok (.invokestatic 81, 3) := by decide +kernel
theorem d_M_tells_175 : decode b_M_tells 175 = .ok (.iadd, 1) := by decide +kernel
theorem d_M_tells_176 : decode b_M_tells 176 = .ok (.istore 4, 2) := by decide +kernel
theorem d_M_tells_178 : decode b_M_tells 178 = .ok (.iload 5, 2) := by decide +kernel
theorem d_M_tells_180 : decode b_M_tells 180 = .ok (.iconst 5, 1) := by decide +kernel
theorem d_M_tells_181 : decode b_M_tells 181 = .ok (.iadd, 1) := by decide +kernel
theorem d_M_tells_182 : decode b_M_tells 182 = .ok (.iload 6, 2) := by decide +kernel
theorem d_M_tells_184 : decode b_M_tells 184 = .ok (.iadd, 1) := by decide +kernel
theorem d_M_tells_185 : decode b_M_tells 185 = .ok (.istore 5, 2) := by decide +kernel
theorem d_M_tells_187 : decode b_M_tells 187 = .ok (.goto (-125), 3) := by decide +kernel
theorem d_M_tells_190 : decode b_M_tells 190 = .ok (.iload 5, 2) := by decide +kernel
theorem d_M_tells_192 : decode b_M_tells 192 = .ok (.iload_n 3, 1) := by decide +kernel
theorem d_M_tells_193 : decode b_M_tells 193 = .ok (.if_icmp .ne 18, 3) := by decide +kernel
theorem d_M_tells_196 : decode b_M_tells 196 = .ok (.iload 4, 2) := by decide +kernel
theorem d_M_tells_198 : decode b_M_tells 198 = .ok (.aload_n 0, 1) := by decide +kernel
theorem d_M_tells_199 : decode b_M_tells 199 = .ok (.getfield 13, 3) := by decide +kernel
theorem d_M_tells_202 : decode b_M_tells 202 = .ok (.iload_n 1, 1) := by decide +kernel
theorem d_M_tells_203 : decode b_M_tells 203 = .ok (.iaload, 1) := by decide +kernel
theorem d_M_tells_204 : decode b_M_tells 204 = .ok (.if_icmp .ne 7, 3) := by decide +kernel
theorem d_M_tells_207 : decode b_M_tells 207 = .ok (.iconst 1, 1) := by decide +kernel
theorem d_M_tells_208 : decode b_M_tells 208 = .ok (.goto 4, 3) := by decide +kernel
theorem d_M_tells_211 : decode b_M_tells 211 = .ok (.iconst 0, 1) := by decide +kernel
theorem d_M_tells_212 : decode b_M_tells 212 = .ok (.ireturn, 1) := by decide +kernel
theorem d_M_isRecord_0 : decode b_M_isRecord 0 = .ok (.iload_n 2, 1) := by decide +kernel
theorem d_M_isRecord_1 : decode b_M_isRecord 1 = .ok (.bipush 8, 2) := by decide +kernel
theorem d_M_isRecord_3 : decode b_M_isRecord 3 = .ok (.iadd, 1) := by decide +kernel
theorem d_M_isRecord_4 : decode b_M_isRecord 4 = .ok (.aload_n 0, 1) := by decide +kernel
theorem d_M_isRecord_5 : decode b_M_isRecord 5 = .ok (.getfield 13, 3) := by decide +kernel
theorem d_M_isRecord_8 : decode b_M_isRecord 8 = .ok (.iload_n 1, 1) := by decide +kernel
theorem d_M_isRecord_9 : decode b_M_isRecord 9 = .ok (.iaload, 1) := by decide +kernel
theorem d_M_isRecord_10 : decode b_M_isRecord 10 = .ok (.if_icmp .le 5, 3) := by decide +kernel
theorem d_M_isRecord_13 : decode b_M_isRecord 13 = .ok (.iconst 0, 1) := by decide +kernel
theorem d_M_isRecord_14 : decode b_M_isRecord 14 = .ok (.ireturn, 1) := by decide +kernel
theorem d_M_isRecord_15 : decode b_M_isRecord 15 = .ok (.bipush 100, 2) := by decide +kernel
theorem d_M_isRecord_17 : decode b_M_isRecord 17 = .ok (.iload_n 1, 1) := by decide +kernel
theorem d_M_isRecord_18 : decode b_M_isRecord 18 = .ok (.imul, 1) := by decide +kernel
theorem d_M_isRecord_19 : decode b_M_isRecord 19 = .ok (.iload_n 2, 1) := by decide +kernel
theorem d_M_isRecord_20 : decode b_M_isRecord 20 = .ok (.iadd, 1) := by decide +kernel
theorem d_M_isRecord_21 : decode b_M_isRecord 21 = .ok (.istore_n 3, 1) := by decide +kernel
theorem d_M_isRecord_22 : decode b_M_isRecord 22 = .ok (.aload_n 0, 1) := by decide +kernel
theorem d_M_isRecord_23 : decode b_M_isRecord 23 = .ok (.getfield 19, 3) := by decide +kernel
theorem d_M_isRecord_26 : decode b_M_isRecord 26 = .ok (.iload_n 3, 1) := by decide +kernel
theorem d_M_isRecord_27 : decode b_M_isRecord 27 = .ok (.bipush 6, 2) := by decide +kernel
theorem d_M_isRecord_29 : decode b_M_isRecord 29 = .ok (.iadd, 1) := by decide +kernel
theorem d_M_isRecord_30 : decode b_M_isRecord 30 = .ok (.iaload, 1) := by decide +kernel
theorem d_M_isRecord_31 : decode b_M_isRecord 31 = .ok (.istore 4, 2) := by decide +kernel
theorem d_M_isRecord_33 : decode b_M_isRecord 33 = .ok (.aload_n 0, 1) := by decide +kernel
theorem d_M_isRecord_34 : decode b_M_isRecord 34 = .ok (.getfield 19, 3) := by decide +kernel
theorem d_M_isRecord_37 : decode b_M_isRecord 37 = .ok (.iload_n 3, 1) := by decide +kernel
theorem d_M_isRecord_38 : decode b_M_isRecord 38 = .ok (.bipush 7, 2) := by decide +kernel
theorem d_M_isRecord_40 : decode b_M_isRecord 40 = .ok (.iadd, 1) := by decide +kernel
theorem d_M_isRecord_41 : decode b_M_isRecord 41 = .ok (.iaload, 1) := by decide +kernel
theorem d_M_isRecord_42 : decode b_M_isRecord 42 = .ok (.istore 5, 2) := by decide +kernel
theorem d_M_isRecord_44 : decode b_M_isRecord 44 = .ok (.iload 4, 2) := by decide +kernel
theorem d_M_isRecord_46 : decode b_M_isRecord 46 = .ok (.iconst 1, 1) := by decide +kernel
theorem d_M_isRecord_47 : decode b_M_isRecord 47 = .ok (.iconst 4, 1) := by decide +kernel
theorem d_M_isRecord_48 : decode b_M_isRecord 48 = .ok (.invokestatic 133, 3) := by decide +kernel
theorem d_M_isRecord_51 : decode b_M_isRecord 51 = .ok (.ifCond .eq 18, 3) := by decide +kernel
theorem d_M_isRecord_54 : decode b_M_isRecord 54 = .ok (.iload 5, 2) := by decide +kernel
theorem d_M_isRecord_56 : decode b_M_isRecord 56 = .ok (.bipush 8, 2) := by decide +kernel
theorem d_M_isRecord_58 : decode b_M_isRecord 58 = .ok (.if_icmp .le 13, 3) := by decide +kernel
theorem d_M_isRecord_61 : decode b_M_isRecord 61 = .ok (.iload 5, 2) := by decide +kernel
theorem d_M_isRecord_63 : decode b_M_isRecord 63 = .ok (.sipush 255, 3) := by decide +kernel
theorem d_M_isRecord_66 : decode b_M_isRecord 66 = .ok (.if_icmp .eq 5, 3) := by decide +kernel
theorem d_M_isRecord_69 : decode b_M_isRecord 69 = .ok (.iconst 0, 1) := by decide +kernel
theorem d_M_isRecord_70 : decode b_M_isRecord 70 = .ok (.ireturn, 1) := by decide +kernel
theorem d_M_isRecord_71 : decode b_M_isRecord 71 = .ok (.iload 4, 2) := by decide +kernel
theorem d_M_isRecord_73 : decode b_M_isRecord 73 = .ok (.iload 5, 2) := by decide +kernel
theorem d_M_isRecord_75 : decode b_M_isRecord 75 = .ok (.invokestatic 81, 3) := by decide +kernel
theorem d_M_isRecord_78 : decode b_M_isRecord 78 = .ok (.istore 6, 2) := by decide +kernel
theorem d_M_isRecord_80 : decode b_M_isRecord 80 = .ok (.iload_n 2, 1) := by decide +kernel
theorem d_M_isRecord_81 : decode b_M_isRecord 81 = .ok (.iload 6, 2) := by decide +kernel
theorem d_M_isRecord_83 : decode b_M_isRecord 83 = .ok (.iadd, 1) := by decide +kernel
theorem d_M_isRecord_84 : decode b_M_isRecord 84 = .ok (.aload_n 0, 1) := by decide +kernel
theorem d_M_isRecord_85 : decode b_M_isRecord 85 = .ok (.getfield 13, 3) := by decide +kernel
theorem d_M_isRecord_88 : decode b_M_isRecord 88 = .ok (.iload_n 1, 1) := by decide +kernel
theorem d_M_isRecord_89 : decode b_M_isRecord 89 = .ok (.iaload, 1) := by decide +kernel
theorem d_M_isRecord_90 : decode b_M_isRecord 90 = .ok (.if_icmp .gt 34, 3) := by decide +kernel
theorem d_M_isRecord_93 : decode b_M_isRecord 93 = .ok (.aload_n 0, 1) := by decide +kernel
theorem d_M_isRecord_94 : decode b_M_isRecord 94 = .ok (.getfield 19, 3) := by decide +kernel
theorem d_M_isRecord_97 : decode b_M_isRecord 97 = .ok (.iload_n 3, 1) := by decide +kernel
theorem d_M_isRecord_98 : decode b_M_isRecord 98 = .ok (.iconst 4, 1) := by decide +kernel
theorem d_M_isRecord_99 : decode b_M_isRecord 99 = .ok (.invokestatic 169, 3) := by decide +kernel
theorem d_M_isRecord_102 : decode b_M_isRecord 102 = .ok (.aload_n 0, 1) := by decide +kernel
theorem d_M_isRecord_103 : decode b_M_isRecord 103 = .ok (.getfield 19, 3) := by decide +kernel
theorem d_M_isRecord_106 : decode b_M_isRecord 106 = .ok (.iload_n 3, 1) := by decide +kernel
theorem d_M_isRecord_107 : decode b_M_isRecord 107 = .ok (.iconst 4, 1) := by decide +kernel
theorem d_M_isRecord_108 : decode b_M_isRecord 108 = .ok (.iadd, 1) := by decide +kernel
theorem d_M_isRecord_109 : decode b_M_isRecord 109 = .ok (.iload_n 3, 1) := by decide +kernel
theorem d_M_isRecord_110 : decode b_M_isRecord 110 = .ok (.iload 6, 2) := by decide +kernel
theorem d_M_isRecord_112 : decode b_M_isRecord 112 = .ok (.iadd, 1) := by decide +kernel
theorem d_M_isRecord_113 : decode b_M_isRecord 113 = .ok (.invokestatic 128, 3) := by decide +kernel
theorem d_M_isRecord_116 : decode b_M_isRecord 116 = .ok (.lcmp, 1) := by decide +kernel
theorem d_M_isRecord_117 : decode b_M_isRecord 117 = .ok (.ifCond .ne 7, 3) := by decide +kernel
theorem d_M_isRecord_120 : decode b_M_isRecord 120 = .ok (.iconst 1, 1) := by decide +kernel
theorem d_M_isRecord_121 : decode b_M_isRecord 121 = .ok (.goto 4, 3) := by decide +kernel
theorem d_M_isRecord_124 : decode b_M_isRecord 124 = .ok (.iconst 0, 1) := by decide +kernel
theorem d_M_isRecord_125 : decode b_M_isRecord 125 = .ok (.ireturn, 1) := by decide +kernel
theorem d_M_openRecords_0 : decode b_M_openRecords 0 = .ok (.aload_n 0, 1) := by decide +kernel
theorem d_M_openRecords_1 : decode b_M_openRecords 1 = .ok (.getfield 32, 3) := by decide +kernel
theorem d_M_openRecords_4 : decode b_M_openRecords 4 = .ok (.iload_n 1, 1) := by decide +kernel
theorem d_M_openRecords_5 : decode b_M_openRecords 5 = .ok (.iconst 0, 1) := by decide +kernel
theorem d_M_openRecords_6 : decode b_M_openRecords 6 = .ok (.iastore, 1) := by decide +kernel
theorem d_M_openRecords_7 : decode b_M_openRecords 7 = .ok (.iconst 0, 1) := by decide +kernel
theorem d_M_openRecords_8 : decode b_M_openRecords 8 = .ok (.istore_n 2, 1) := by decide +kernel
theorem d_M_openRecords_9 : decode b_M_openRecords 9 = .ok (.aload_n 0, 1) := by decide +kernel
theorem d_M_openRecords_10 : decode b_M_openRecords 10 = .ok (.iload_n 1, 1) := by decide +kernel
theorem d_M_openRecords_11 : decode b_M_openRecords 11 = .ok (.iload_n 2, 1) := by decide +kernel
theorem d_M_openRecords_12 : decode b_M_openRecords 12 = .ok (.invokevirtual 178, 3) := by decide +kernel
theorem d_M_openRecords_15 : decode b_M_openRecords 15 = .ok (.ifCond .eq 121, 3) := by decide +kernel
theorem d_M_openRecords_18 : decode b_M_openRecords 18 = .ok (.bipush 100, 2) := by decide +kernel
theorem d_M_openRecords_20 : decode b_M_openRecords 20 = .ok (.iload_n 1, 1) := by decide +kernel
theorem d_M_openRecords_21 : decode b_M_openRecords 21 = .ok (.imul, 1) := by decide +kernel
theorem d_M_openRecords_22 : decode b_M_openRecords 22 = .ok (.iload_n 2, 1) := by decide +kernel
theorem d_M_openRecords_23 : decode b_M_openRecords 23 = .ok (.iadd, 1) := by decide +kernel
theorem d_M_openRecords_24 : decode b_M_openRecords 24 = .ok (.istore_n 3, 1) := by decide +kernel
theorem d_M_openRecords_25 : decode b_M_openRecords 25 = .ok (.aload_n 0, 1) := by decide +kernel
theorem d_M_openRecords_26 : decode b_M_openRecords 26 = .ok (.getfield 19, 3) := by decide +kernel
theorem d_M_openRecords_29 : decode b_M_openRecords 29 = .ok (.iload_n 3, 1) := by decide +kernel
theorem d_M_openRecords_30 : decode b_M_openRecords 30 = .ok (.bipush 6, 2) := by decide +kernel
theorem d_M_openRecords_32 : decode b_M_openRecords 32 = .ok (.iadd, 1) := by decide +kernel
theorem d_M_openRecords_33 : decode b_M_openRecords 33 = .ok (.iaload, 1) := by decide +kernel
theorem d_M_openRecords_34 : decode b_M_openRecords 34 = .ok (.istore 4, 2) := by decide +kernel
theorem d_M_openRecords_36 : decode b_M_openRecords 36 = .ok (.aload_n 0, 1) := by decide +kernel
theorem d_M_openRecords_37 : decode b_M_openRecords 37 = .ok (.getfield 19, 3) := by decide +kernel
theorem d_M_openRecords_40 : decode b_M_openRecords 40 = .ok (.iload_n 3, 1) := by decide +kernel
theorem d_M_openRecords_41 : decode b_M_openRecords 41 = .ok (.bipush 8, 2) := by decide +kernel
theorem d_M_openRecords_43 : decode b_M_openRecords 43 = .ok (.iadd, 1) := by decide +kernel
theorem d_M_openRecords_44 : decode b_M_openRecords 44 = .ok (.iload 4, 2) := by decide +kernel
theorem d_M_openRecords_46 : decode b_M_openRecords 46 = .ok (.invokestatic 169, 3) := by decide +kernel
theorem d_M_openRecords_49 : decode b_M_openRecords 49 = .ok (.lstore 5, 2) := by decide +kernel
theorem d_M_openRecords_51 : decode b_M_openRecords 51 = .ok (.aload_n 0, 1) := by decide +kernel
theorem d_M_openRecords_52 : decode b_M_openRecords 52 = .ok (.iload_n 1, 1) := by decide +kernel
theorem d_M_openRecords_53 : decode b_M_openRecords 53 = .ok (.iload_n 2, 1) := by decide +kernel
theorem d_M_openRecords_54 : decode b_M_openRecords 54 = .ok (.iload 4, 2) := by decide +kernel
theorem d_M_openRecords_56 : decode b_M_openRecords 56 = .ok (.aload_n 0, 1) := by decide +kernel
theorem d_M_openRecords_57 : decode b_M_openRecords 57 = .ok (.getfield 19, 3) := by decide +kernel
theorem d_M_openRecords_60 : decode b_M_openRecords 60 = .ok (.iload_n 3, 1) := by decide +kernel
theorem d_M_openRecords_61 : decode b_M_openRecords 61 = .ok (.bipush 7, 2) := by decide +kernel
theorem d_M_openRecords_63 : decode b_M_openRecords 63 = .ok (.iadd, 1) := by decide +kernel
theorem d_M_openRecords_64 : decode b_M_openRecords 64 = .ok (.iaload, 1) := by decide +kernel
theorem d_M_openRecords_65 : decode b_M_openRecords 65 = .ok (.invokevirtual 117, 3) := by decide +kernel
theorem d_M_openRecords_68 : decode b_M_openRecords 68 = .ok (.aload_n 0, 1) := by decide +kernel
theorem d_M_openRecords_69 : decode b_M_openRecords 69 = .ok (.getfield 19, 3) := by decide +kernel
theorem d_M_openRecords_72 : decode b_M_openRecords 72 = .ok (.iload_n 3, 1) := by decide +kernel
theorem d_M_openRecords_73 : decode b_M_openRecords 73 = .ok (.bipush 7, 2) := by decide +kernel
theorem d_M_openRecords_75 : decode b_M_openRecords 75 = .ok (.iadd, 1) := by decide +kernel
theorem d_M_openRecords_76 : decode b_M_openRecords 76 = .ok (.iaload, 1) := by decide +kernel
theorem d_M_openRecords_77 : decode b_M_openRecords 77 = .ok (.sipush 255, 3) := by decide +kernel
theorem d_M_openRecords_80 : decode b_M_openRecords 80 = .ok (.if_icmp .ne 14, 3) := by decide +kernel
theorem d_M_openRecords_83 : decode b_M_openRecords 83 = .ok (.aload_n 0, 1) := by decide +kernel
theorem d_M_openRecords_84 : decode b_M_openRecords 84 = .ok (.lload 5, 2) := by decide +kernel
theorem d_M_openRecords_86 : decode b_M_openRecords 86 = .ok (.iload 4, 2) := by decide +kernel
theorem d_M_openRecords_88 : decode b_M_openRecords 88 = .ok (.invokevirtual 155, 3) := by decide +kernel
theorem d_M_openRecords_91 : decode b_M_openRecords 91 = .ok (.goto 25, 3) := by decide +kernel
theorem d_M_openRecords_94 : decode b_M_openRecords 94 = .ok (.aload_n 0, 1) := by decide +kernel
theorem d_M_openRecords_95 : decode b_M_openRecords 95 = .ok (.lload 5, 2) := by decide +kernel
theorem d_M_openRecords_97 : decode b_M_openRecords 97 = .ok (.iload 4, 2) := by decide +kernel
theorem d_M_openRecords_99 : decode b_M_openRecords 99 = .ok (.aload_n 0, 1) := by decide +kernel
theorem d_M_openRecords_100 : decode b_M_openRecords 100 = .ok (.getfield 7, 3) := by decide +kernel
theorem d_M_openRecords_103 : decode b_M_openRecords 103 = .ok (.iload_n 1, 1) := by decide +kernel
theorem d_M_openRecords_104 : decode b_M_openRecords 104 = .ok (.iaload, 1) := by decide +kernel
theorem d_M_openRecords_105 : decode b_M_openRecords 105 = .ok (.aload_n 0, 1) := by decide +kernel
theorem d_M_openRecords_106 : decode b_M_openRecords 106 = .ok (.getfield 32, 3) := by decide +kernel
theorem d_M_openRecords_109 : decode b_M_openRecords 109 = .ok (.iload_n 1, 1) := by decide +kernel
theorem d_M_openRecords_110 : decode b_M_openRecords 110 = .ok (.iaload, 1) := by decide +kernel
theorem d_M_openRecords_111 : decode b_M_openRecords 111 = .ok (.iconst 1, 1) := by decide +kernel
theorem d_M_openRecords_112 : decode b_M_openRecords 112 = .ok (.isub, 1) := by decide +kernel
theorem d_M_openRecords_113 : decode b_M_openRecords 113 = .ok (.invokevirtual 151, 3) := by decide +kernel
theorem d_M_openRecords_116 : decode b_M_openRecords 116 = .ok (.iload_n 2, 1) := by decide +kernel
theorem d_M_openRecords_117 : decode b_M_openRecords 117 = .ok (.iload 4, 2) := by decide +kernel
theorem d_M_openRecords_119 : decode b_M_openRecords 119 = .ok (.aload_n 0, 1) := by decide +kernel
theorem d_M_openRecords_120 : decode b_M_openRecords 120 = .ok (.getfield 19, 3) := by decide +kernel
theorem d_M_openRecords_123 : decode b_M_openRecords 123 = .ok (.iload_n 3, 1) := by decide +kernel
theorem d_M_openRecords_124 : decode b_M_openRecords 124 = .ok (.bipush 7, 2) := by decide +kernel
theorem d_M_openRecords_126 : decode b_M_openRecords 126 = .ok (.iadd, 1) := by decide +kernel
theorem d_M_openRecords_127 : decode b_M_openRecords 127 = .ok (.iaload, 1) := by decide +kernel
theorem d_M_openRecords_128 : decode b_M_openRecords 128 = .ok (.invokestatic 81, 3) := by decide +kernel
theorem d_M_openRecords_131 : decode b_M_openRecords 131 = .ok (.iadd, 1) := by decide +kernel
theorem d_M_openRecords_132 : decode b_M_openRecords 132 = .ok (.istore_n 2, 1) := by decide +kernel
theorem d_M_openRecords_133 : decode b_M_openRecords 133 = .ok (.goto (-124), 3) := by decide +kernel
theorem d_M_openRecords_136 : decode b_M_openRecords 136 = .ok (.aload_n 0, 1) := by decide +kernel
theorem d_M_openRecords_137 : decode b_M_openRecords 137 = .ok (.getfield 13, 3) := by decide +kernel
theorem d_M_openRecords_140 : decode b_M_openRecords 140 = .ok (.iload_n 1, 1) := by decide +kernel
theorem d_M_openRecords_141 : decode b_M_openRecords 141 = .ok (.iload_n 2, 1) := by decide +kernel
theorem d_M_openRecords_142 : decode b_M_openRecords 142 = .ok (.iastore, 1) := by decide +kernel
theorem d_M_openRecords_143 : decode b_M_openRecords 143 = .ok (.return_, 1) := by decide +kernel
theorem d_M_openHint_0 : decode b_M_openHint 0 = .ok (.bipush 120, 2) := by decide +kernel
theorem d_M_openHint_2 : decode b_M_openHint 2 = .ok (.iload_n 1, 1) := by decide +kernel
theorem d_M_openHint_3 : decode b_M_openHint 3 = .ok (.imul, 1) := by decide +kernel
theorem d_M_openHint_4 : decode b_M_openHint 4 = .ok (.istore_n 2, 1) := by decide +kernel
theorem d_M_openHint_5 : decode b_M_openHint 5 = .ok (.iconst 0, 1) := by decide +kernel
theorem d_M_openHint_6 : decode b_M_openHint 6 = .ok (.istore_n 3, 1) := by decide +kernel
theorem d_M_openHint_7 : decode b_M_openHint 7 = .ok (.iload_n 3, 1) := by decide +kernel
theorem d_M_openHint_8 : decode b_M_openHint 8 = .ok (.aload_n 0, 1) := by decide +kernel
theorem d_M_openHint_9 : decode b_M_openHint 9 = .ok (.getfield 32, 3) := by decide +kernel
theorem d_M_openHint_12 : decode b_M_openHint 12 = .ok (.iload_n 1, 1) := by decide +kernel
theorem d_M_openHint_13 : decode b_M_openHint 13 = .ok (.iaload, 1) := by decide +kernel
theorem d_M_openHint_14 : decode b_M_openHint 14 = .ok (.if_icmp .ge 54, 3) := by decide +kernel
theorem d_M_openHint_17 : decode b_M_openHint 17 = .ok (.aload_n 0, 1) := by decide +kernel
theorem d_M_openHint_18 : decode b_M_openHint 18 = .ok (.getfield 38, 3) := by decide +kernel
theorem d_M_openHint_21 : decode b_M_openHint 21 = .ok (.bipush 12, 2) := by decide +kernel
theorem d_M_openHint_23 : decode b_M_openHint 23 = .ok (.iload_n 1, 1) := by decide +kernel
theorem d_M_openHint_24 : decode b_M_openHint 24 = .ok (.imul, 1) := by decide +kernel
theorem d_M_openHint_25 : decode b_M_openHint 25 = .ok (.iload_n 3, 1) := by decide +kernel
theorem d_M_openHint_26 : decode b_M_openHint 26 = .ok (.iadd, 1) := by decide +kernel
theorem d_M_openHint_27 : decode b_M_openHint 27 = .ok (.iaload, 1) := by decide +kernel
theorem d_M_openHint_28 : decode b_M_openHint 28 = .ok (.istore 4, 2) := by decide +kernel
theorem d_M_openHint_30 : decode b_M_openHint 30 = .ok (.aload_n 0, 1) := by decide +kernel
theorem d_M_openHint_31 : decode b_M_openHint 31 = .ok (.aload_n 0, 1) := by decide +kernel
theorem d_M_openHint_32 : decode b_M_openHint 32 = .ok (.getfield 29, 3) := by decide +kernel
theorem d_M_openHint_35 : decode b_M_openHint 35 = .ok (.iload_n 2, 1) := by decide +kernel
theorem d_M_openHint_36 : decode b_M_openHint 36 = .ok (.iconst 5, 1) := by decide +kernel
theorem d_M_openHint_37 : decode b_M_openHint 37 = .ok (.iadd, 1) := by decide +kernel
theorem d_M_openHint_38 : decode b_M_openHint 38 = .ok (.iload 4, 2) := by decide +kernel
theorem d_M_openHint_40 : decode b_M_openHint 40 = .ok (.invokestatic 169, 3) := by decide +kernel
theorem d_M_openHint_43 : decode b_M_openHint 43 = .ok (.iload 4, 2) := by decide +kernel
theorem d_M_openHint_45 : decode b_M_openHint 45 = .ok (.aload_n 0, 1) := by decide +kernel
theorem d_M_openHint_46 : decode b_M_openHint 46 = .ok (.getfield 7, 3) := by decide +kernel
theorem d_M_openHint_49 : decode b_M_openHint 49 = .ok (.iload_n 1, 1) := by decide +kernel
theorem d_M_openHint_50 : decode b_M_openHint 50 = .ok (.iaload, 1) := by decide +kernel
theorem d_M_openHint_51 : decode b_M_openHint 51 = .ok (.iload_n 3, 1) := by decide +kernel
theorem d_M_openHint_52 : decode b_M_openHint 52 = .ok (.invokevirtual 151, 3) := by decide +kernel
theorem d_M_openHint_55 : decode b_M_openHint 55 = .ok (.iload_n 2, 1) := by decide +kernel
theorem d_M_openHint_56 : decode b_M_openHint 56 = .ok (.iconst 5, 1) := by decide +kernel
theorem d_M_openHint_57 : decode b_M_openHint 57 = .ok (.iadd, 1) := by decide +kernel
theorem d_M_openHint_58 : decode b_M_openHint 58 = .ok (.iload 4, 2) := by decide +kernel
theorem d_M_openHint_60 : decode b_M_openHint 60 = .ok (.iadd, 1) := by decide +kernel
theorem d_M_openHint_61 : decode b_M_openHint 61 = .ok (.istore_n 2, 1) := by decide +kernel
theorem d_M_openHint_62 : decode b_M_openHint 62 = .ok (.iinc 3 1, 3) := by decide +kernel
theorem d_M_openHint_65 : decode b_M_openHint 65 = .ok (.goto (-58), 3) := by decide +kernel
theorem d_M_openHint_68 : decode b_M_openHint 68 = .ok (.return_, 1) := by decide +kernel
theorem d_M_open_0 : decode b_M_open 0 = .ok (.aload_n 0, 1) := by decide +kernel
theorem d_M_open_1 : decode b_M_open 1 = .ok (.iconst 0, 1) := by decide +kernel
theorem d_M_open_2 : decode b_M_open 2 = .ok (.putfield 63, 3) := by decide +kernel
theorem d_M_open_5 : decode b_M_open 5 = .ok (.aload_n 0, 1) := by decide +kernel
theorem d_M_open_6 : decode b_M_open 6 = .ok (.iconst 0, 1) := by decide +kernel
theorem d_M_open_7 : decode b_M_open 7 = .ok (.putfield 85, 3) := by decide +kernel
theorem d_M_open_10 : decode b_M_open 10 = .ok (.iconst 0, 1) := by decide +kernel
theorem d_M_open_11 : decode b_M_open 11 = .ok (.istore_n 2, 1) := by decide +kernel
theorem d_M_open_12 : decode b_M_open 12 = .ok (.iload_n 2, 1) := by decide +kernel
theorem d_M_open_13 : decode b_M_open 13 = .ok (.aload_n 0, 1) := by decide +kernel
theorem d_M_open_14 : decode b_M_open 14 = .ok (.getfield 99, 3) := by decide +kernel
theorem d_M_open_17 : decode b_M_open 17 = .ok (.if_icmp .ge 46, 3) := by decide +kernel
theorem d_M_open_20 : decode b_M_open 20 = .ok (.iload_n 1, 1) := by decide +kernel
theorem d_M_open_21 : decode b_M_open 21 = .ok (.ifCond .eq 19, 3) := by decide +kernel
theorem d_M_open_24 : decode b_M_open 24 = .ok (.aload_n 0, 1) := by decide +kernel
theorem d_M_open_25 : decode b_M_open 25 = .ok (.iload_n 2, 1) := by decide +kernel
theorem d_M_open_26 : decode b_M_open 26 = .ok (.invokevirtual 181, 3) := by decide +kernel
theorem d_M_open_29 : decode b_M_open 29 = .ok (.ifCond .eq 11, 3) := by decide +kernel
theorem d_M_open_32 : decode b_M_open 32 = .ok (.aload_n 0, 1) := by decide +kernel
theorem d_M_open_33 : decode b_M_open 33 = .ok (.iload_n 2, 1) := by decide +kernel
theorem d_M_open_34 : decode b_M_open 34 = .ok (.invokevirtual 184, 3) := by decide +kernel
theorem d_M_open_37 : decode b_M_open 37 = .ok (.goto 8, 3) := by decide +kernel
theorem d_M_open_40 : decode b_M_open 40 = .ok (.aload_n 0, 1) := by decide +kernel
theorem d_M_open_41 : decode b_M_open 41 = .ok (.iload_n 2, 1) := by decide +kernel
theorem d_M_open_42 : decode b_M_open 42 = .ok (.invokevirtual 187, 3) := by decide +kernel
theorem d_M_open_45 : decode b_M_open 45 = .ok (.aload_n 0, 1) := by decide +kernel
theorem d_M_open_46 : decode b_M_open 46 = .ok (.getfield 16, 3) := by decide +kernel
theorem d_M_open_49 : decode b_M_open 49 = .ok (.iload_n 2, 1) := by decide +kernel
theorem d_M_open_50 : decode b_M_open 50 = .ok (.aload_n 0, 1) := by decide +kernel
theorem d_M_open_51 : decode b_M_open 51 = .ok (.getfield 13, 3) := by decide +kernel
theorem d_M_open_54 : decode b_M_open 54 = .ok (.iload_n 2, 1) := by decide +kernel
theorem d_M_open_55 : decode b_M_open 55 = .ok (.iaload, 1) := by decide +kernel
theorem d_M_open_56 : decode b_M_open 56 = .ok (.iastore, 1) := by decide +kernel
theorem d_M_open_57 : decode b_M_open 57 = .ok (.iinc 2 1, 3) := by decide +kernel
theorem d_M_open_60 : decode b_M_open 60 = .ok (.goto (-48), 3) := by decide +kernel
theorem d_M_open_63 : decode b_M_open 63 = .ok (.aload_n 0, 1) := by decide +kernel
theorem d_M_open_64 : decode b_M_open 64 = .ok (.iconst 0, 1) := by decide +kernel
theorem d_M_open_65 : decode b_M_open 65 = .ok (.putfield 102, 3) := by decide +kernel
theorem d_M_open_68 : decode b_M_open 68 = .ok (.aload_n 0, 1) := by decide +kernel
theorem d_M_open_69 : decode b_M_open 69 = .ok (.iconst 0, 1) := by decide +kernel
theorem d_M_open_70 : decode b_M_open 70 = .ok (.putfield 175, 3) := by decide +kernel
theorem d_M_open_73 : decode b_M_open 73 = .ok (.aload_n 0, 1) := by decide +kernel
theorem d_M_open_74 : decode b_M_open 74 = .ok (.iconst 0, 1) := by decide +kernel
theorem d_M_open_75 : decode b_M_open 75 = .ok (.putfield 137, 3) := by decide +kernel
theorem d_M_open_78 : decode b_M_open 78 = .ok (.aload_n 0, 1) := by decide +kernel
theorem d_M_open_79 : decode b_M_open 79 = .ok (.getfield 85, 3) := by decide +kernel
theorem d_M_open_82 : decode b_M_open 82 = .ok (.ireturn, 1) := by decide +kernel
theorem d_M_skip_0 : decode b_M_skip 0 = .ok (.aload_n 0, 1) := by decide +kernel
theorem d_M_skip_1 : decode b_M_skip 1 = .ok (.getfield 190, 3) := by decide +kernel
theorem d_M_skip_4 : decode b_M_skip 4 = .ok (.aload_n 0, 1) := by decide +kernel
theorem d_M_skip_5 : decode b_M_skip 5 = .ok (.getfield 193, 3) := by decide +kernel
theorem d_M_skip_8 : decode b_M_skip 8 = .ok (.if_icmp .ge 37, 3) := by decide +kernel
theorem d_M_skip_11 : decode b_M_skip 11 = .ok (.aload_n 0, 1) := by decide +kernel
theorem d_M_skip_12 : decode b_M_skip 12 = .ok (.getfield 196, 3) := by decide +kernel
theorem d_M_skip_15 : decode b_M_skip 15 = .ok (.aload_n 0, 1) := by decide +kernel
theorem d_M_skip_16 : decode b_M_skip 16 = .ok (.getfield 32, 3) := by decide +kernel
theorem d_M_skip_19 : decode b_M_skip 19 = .ok (.aload_n 0, 1) := by decide +kernel
theorem d_M_skip_20 : decode b_M_skip 20 = .ok (.getfield 190, 3) := by decide +kernel
theorem d_M_skip_23 : decode b_M_skip 23 = .ok (.iaload, 1) := by decide +kernel
theorem d_M_skip_24 : decode b_M_skip 24 = .ok (.if_icmp .ne 21, 3) := by decide +kernel
theorem d_M_skip_27 : decode b_M_skip 27 = .ok (.aload_n 0, 1) := by decide +kernel
theorem d_M_skip_28 : decode b_M_skip 28 = .ok (.dup, 1) := by decide +kernel
theorem d_M_skip_29 : decode b_M_skip 29 = .ok (.getfield 190, 3) := by decide +kernel
theorem d_M_skip_32 : decode b_M_skip 32 = .ok (.iconst 1, 1) := by decide +kernel
theorem d_M_skip_33 : decode b_M_skip 33 = .ok (.iadd, 1) := by decide +kernel
theorem d_M_skip_34 : decode b_M_skip 34 = .ok (.putfield 190, 3) := by decide +kernel
theorem d_M_skip_37 : decode b_M_skip 37 = .ok (.aload_n 0, 1) := by decide +kernel
theorem d_M_skip_38 : decode b_M_skip 38 = .ok (.iconst 0, 1) := by decide +kernel
theorem d_M_skip_39 : decode b_M_skip 39 = .ok (.putfield 196, 3) := by decide +kernel
theorem d_M_skip_42 : decode b_M_skip 42 = .ok (.goto (-42), 3) := by decide +kernel
theorem d_M_skip_45 : decode b_M_skip 45 = .ok (.return_, 1) := by decide +kernel
theorem d_M_comeToNext_0 : decode b_M_comeToNext 0 = .ok (.aload_n 0, 1) := by decide +kernel
theorem d_M_comeToNext_1 : decode b_M_comeToNext 1 = .ok (.aload_n 0, 1) := by decide +kernel
theorem d_M_comeToNext_2 : decode b_M_comeToNext 2 = .ok (.getfield 7, 3) := by decide +kernel
theorem d_M_comeToNext_5 : decode b_M_comeToNext 5 = .ok (.aload_n 0, 1) := by decide +kernel
theorem d_M_comeToNext_6 : decode b_M_comeToNext 6 = .ok (.getfield 190, 3) := by decide +kernel
theorem d_M_comeToNext_9 : decode b_M_comeToNext 9 = .ok (.iaload, 1) := by decide +kernel
theorem d_M_comeToNext_10 : decode b_M_comeToNext 10 = .ok (.aload_n 0, 1) := by decide +kernel
theorem d_M_comeToNext_11 : decode b_M_comeToNext 11 = .ok (.getfield 196, 3) := by decide +kernel
theorem d_M_comeToNext_14 : decode b_M_comeToNext 14 = .ok (.invokevirtual 199, 3) := by decide +kernel
theorem d_M_comeToNext_17 : decode b_M_comeToNext 17 = .ok (.ifCond .lt 208, 3) := by decide +kernel
theorem d_M_comeToNext_20 : decode b_M_comeToNext 20 = .ok (.aload_n 0, 1) := by decide +kernel
theorem d_M_comeToNext_21 : decode b_M_comeToNext 21 = .ok (.aload_n 0, 1) := by decide +kernel
theorem d_M_comeToNext_22 : decode b_M_comeToNext 22 = .ok (.getfield 190, 3) := by decide +kernel
theorem d_M_comeToNext_25 : decode b_M_comeToNext 25 = .ok (.aload_n 0, 1) := by decide +kernel
theorem d_M_comeToNext_26 : decode b_M_comeToNext 26 = .ok (.getfield 196, 3) := by decide +kernel
theorem d_M_comeToNext_29 : decode b_M_comeToNext 29 = .ok (.invokevirtual 166, 3) := by decide +kernel
theorem d_M_comeToNext_32 : decode b_M_comeToNext 32 = .ok (.istore_n 1, 1) := by decide +kernel
theorem d_M_comeToNext_33 : decode b_M_comeToNext 33 = .ok (.aload_n 0, 1) := by decide +kernel
theorem d_M_comeToNext_34 : decode b_M_comeToNext 34 = .ok (.getfield 202, 3) := by decide +kernel
theorem d_M_comeToNext_37 : decode b_M_comeToNext 37 = .ok (.ifCond .eq 21, 3) := by decide +kernel
theorem d_M_comeToNext_40 : decode b_M_comeToNext 40 = .ok (.aload_n 0, 1) := by decide +kernel
theorem d_M_comeToNext_41 : decode b_M_comeToNext 41 = .ok (.getfield 13, 3) := by decide +kernel
theorem d_M_comeToNext_44 : decode b_M_comeToNext 44 = .ok (.iconst 5, 1) := by decide +kernel
theorem d_M_comeToNext_45 : decode b_M_comeToNext 45 = .ok (.aload_n 0, 1) := by decide +kernel
theorem d_M_comeToNext_46 : decode b_M_comeToNext 46 = .ok (.getfield 202, 3) := by decide +kernel
theorem d_M_comeToNext_49 : decode b_M_comeToNext 49 = .ok (.iadd, 1) := by decide +kernel
theorem d_M_comeToNext_50 : decode b_M_comeToNext 50 = .ok (.iaload, 1) := by decide +kernel
theorem d_M_comeToNext_51 : decode b_M_comeToNext 51 = .ok (.iload_n 1, 1) := by decide +kernel
theorem d_M_comeToNext_52 : decode b_M_comeToNext 52 = .ok (.iadd, 1) := by decide +kernel
theorem d_M_comeToNext_53 : decode b_M_comeToNext 53 = .ok (.bipush 100, 2) := by decide +kernel
theorem d_M_comeToNext_55 : decode b_M_comeToNext 55 = .ok (.if_icmp .le 24, 3) := by decide +kernel
theorem d_M_comeToNext_58 : decode b_M_comeToNext 58 = .ok (.aload_n 0, 1) := by decide +kernel
theorem d_M_comeToNext_59 : decode b_M_comeToNext 59 = .ok (.bipush 6, 2) := by decide +kernel
theorem d_M_comeToNext_61 : decode b_M_comeToNext 61 = .ok (.aload_n 0, 1) := by decide +kernel
theorem d_M_comeToNext_62 : decode b_M_comeToNext 62 = .ok (.getfield 202, 3) := by decide +kernel
theorem d_M_comeToNext_65 : decode b_M_comeToNext 65 = .ok (.iadd, 1) := by decide +kernel
theorem d_M_comeToNext_66 : decode b_M_comeToNext 66 = .ok (.invokevirtual 110, 3) := by decide +kernel
theorem d_M_comeToNext_69 : decode b_M_comeToNext 69 = .ok (.aload_n 0, 1) := by decide +kernel
theorem d_M_comeToNext_70 : decode b_M_comeToNext 70 = .ok (.dup, 1) := by decide +kernel
theorem d_M_comeToNext_71 : decode b_M_comeToNext 71 = .ok (.getfield 202, 3) := by decide +kernel
theorem d_M_comeToNext_74 : decode b_M_comeToNext 74 = .ok (.iconst 1, 1) := by decide +kernel
theorem d_M_comeToNext_75 : decode b_M_comeToNext 75 = .ok (.iadd, 1) := by decide +kernel
theorem d_M_comeToNext_76 : decode b_M_comeToNext 76 = .ok (.putfield 202, 3) := by decide +kernel
theorem d_M_comeToNext_79 : decode b_M_comeToNext 79 = .ok (.iconst 5, 1) := by decide +kernel
theorem d_M_comeToNext_80 : decode b_M_comeToNext 80 = .ok (.aload_n 0, 1) := by decide +kernel
theorem d_M_comeToNext_81 : decode b_M_comeToNext 81 = .ok (.getfield 202, 3) := by decide +kernel
theorem d_M_comeToNext_84 : decode b_M_comeToNext 84 = .ok (.iadd, 1) := by decide +kernel
theorem d_M_comeToNext_85 : decode b_M_comeToNext 85 = .ok (.istore_n 2, 1) := by decide +kernel
theorem d_M_comeToNext_86 : decode b_M_comeToNext 86 = .ok (.bipush 12, 2) := by decide +kernel
theorem d_M_comeToNext_88 : decode b_M_comeToNext 88 = .ok (.iload_n 2, 1) := by decide +kernel
theorem d_M_comeToNext_89 : decode b_M_comeToNext 89 = .ok (.imul, 1) := by decide +kernel
theorem d_M_comeToNext_90 : decode b_M_comeToNext 90 = .ok (.aload_n 0, 1) := by decide +kernel
theorem d_M_comeToNext_91 : decode b_M_comeToNext 91 = .ok (.getfield 32, 3) := by decide +kernel
theorem d_M_comeToNext_94 : decode b_M_comeToNext 94 = .ok (.iload_n 2, 1) := by decide +kernel
theorem d_M_comeToNext_95 : decode b_M_comeToNext 95 = .ok (.iaload, 1) := by decide +kernel
theorem d_M_comeToNext_96 : decode b_M_comeToNext 96 = .ok (.iadd, 1) := by decide +kernel
theorem d_M_comeToNext_97 : decode b_M_comeToNext 97 = .ok (.istore_n 3, 1) := by decide +kernel
theorem d_M_comeToNext_98 : decode b_M_comeToNext 98 = .ok (.aload_n 0, 1) := by decide +kernel
theorem d_M_comeToNext_99 : decode b_M_comeToNext 99 = .ok (.getfield 44, 3) := by decide +kernel
theorem d_M_comeToNext_102 : decode b_M_comeToNext 102 = .ok (.iload_n 3, 1) := by decide +kernel
theorem d_M_comeToNext_103 : decode b_M_comeToNext 103 = .ok (.aload_n 0, 1) := by decide +kernel
theorem d_M_comeToNext_104 : decode b_M_comeToNext 104 = .ok (.getfield 7, 3) := by decide +kernel
theorem d_M_comeToNext_107 : decode b_M_comeToNext 107 = .ok (.aload_n 0, 1) := by decide +kernel
theorem d_M_comeToNext_108 : decode b_M_comeToNext 108 = .ok (.getfield 190, 3) := by decide +kernel
theorem d_M_comeToNext_111 : decode b_M_comeToNext 111 = .ok (.iaload, 1) := by decide +kernel
theorem d_M_comeToNext_112 : decode b_M_comeToNext 112 = .ok (.iastore, 1) := by decide +kernel
theorem d_M_comeToNext_113 : decode b_M_comeToNext 113 = .ok (.aload_n 0, 1) := by decide +kernel
theorem d_M_comeToNext_114 : decode b_M_comeToNext 114 = .ok (.getfield 47, 3) := by decide +kernel
theorem d_M_comeToNext_117 : decode b_M_comeToNext 117 = .ok (.iload_n 3, 1) := by decide +kernel
theorem d_M_comeToNext_118 : decode b_M_comeToNext 118 = .ok (.aload_n 0, 1) := by decide +kernel
theorem d_M_comeToNext_119 : decode b_M_comeToNext 119 = .ok (.getfield 196, 3) := by decide +kernel
theorem d_M_comeToNext_122 : decode b_M_comeToNext 122 = .ok (.iastore, 1) := by decide +kernel
theorem d_M_comeToNext_123 : decode b_M_comeToNext 123 = .ok (.bipush 100, 2) := by decide +kernel
theorem d_M_comeToNext_125 : decode b_M_comeToNext 125 = .ok (.aload_n 0, 1) := by decide +kernel
theorem d_M_comeToNext_126 : decode b_M_comeToNext 126 = .ok (.getfield 190, 3) := by decide +kernel
theorem d_M_comeToNext_129 : decode b_M_comeToNext 129 = .ok (.imul, 1) := by decide +kernel
theorem d_M_comeToNext_130 : decode b_M_comeToNext 130 = .ok (.aload_n 0, 1) := by decide +kernel
theorem d_M_comeToNext_131 : decode b_M_comeToNext 131 = .ok (.getfield 35, 3) := by decide +kernel
theorem d_M_comeToNext_134 : decode b_M_comeToNext 134 = .ok (.bipush 12, 2) := by decide +kernel
theorem d_M_comeToNext_136 : decode b_M_comeToNext 136 = .ok (.aload_n 0, 1) := by decide +kernel
theorem d_M_comeToNext_137 : decode b_M_comeToNext 137 = .ok (.getfield 190, 3) := by decide +kernel
theorem d_M_comeToNext_140 : decode b_M_comeToNext 140 = .ok (.imul, 1) := by decide +kernel
theorem d_M_comeToNext_141 : decode b_M_comeToNext 141 = .ok (.aload_n 0, 1) := by decide +kernel
theorem d_M_comeToNext_142 : decode b_M_comeToNext 142 = .ok (.getfield 196, 3) := by decide +kernel
theorem d_M_comeToNext_145 : decode b_M_comeToNext 145 = .ok (.iadd, 1) := by decide +kernel
theorem d_M_comeToNext_146 : decode b_M_comeToNext 146 = .ok (.iaload, 1) := by decide +kernel
theorem d_M_comeToNext_147 : decode b_M_comeToNext 147 = .ok (.iadd, 1) := by decide +kernel
theorem d_M_comeToNext_148 : decode b_M_comeToNext 148 = .ok (.istore 4, 2) := by decide +kernel
theorem d_M_comeToNext_150 : decode b_M_comeToNext 150 = .ok (.aload_n 0, 1) := by decide +kernel
theorem d_M_comeToNext_151 : decode b_M_comeToNext 151 = .ok (.iload_n 2, 1) := by decide +kernel
theorem d_M_comeToNext_152 : decode b_M_comeToNext 152 = .ok (.aload_n 0, 1) := by decide +kernel
theorem d_M_comeToNext_153 : decode b_M_comeToNext 153 = .ok (.getfield 13, 3) := by decide +kernel
theorem d_M_comeToNext_156 : decode b_M_comeToNext 156 = .ok (.iload_n 2, 1) := by decide +kernel
theorem d_M_comeToNext_157 : decode b_M_comeToNext 157 = .ok (.iaload, 1) := by decide +kernel
theorem d_M_comeToNext_158 : decode b_M_comeToNext 158 = .ok (.aload_n 0, 1) := by decide +kernel
theorem d_M_comeToNext_159 : decode b_M_comeToNext 159 = .ok (.getfield 38, 3) := by decide +kernel
theorem d_M_comeToNext_162 : decode b_M_comeToNext 162 = .ok (.bipush 12, 2) := by decide +kernel
theorem d_M_comeToNext_164 : decode b_M_comeToNext 164 = .ok (.aload_n 0, 1) := by decide +kernel
theorem d_M_comeToNext_165 : decode b_M_comeToNext 165 = .ok (.getfield 190, 3) := by decide +kernel
theorem d_M_comeToNext_168 : decode b_M_comeToNext 168 = .ok (.imul, 1) := by decide +kernel
theorem d_M_comeToNext_169 : decode b_M_comeToNext 169 = .ok (.aload_n 0, 1) := by decide +kernel
theorem d_M_comeToNext_170 : decode b_M_comeToNext 170 = .ok (.getfield 196, 3) := by decide +kernel
theorem d_M_comeToNext_173 : decode b_M_comeToNext 173 = .ok (.iadd, 1) := by decide +kernel
theorem d_M_comeToNext_174 : decode b_M_comeToNext 174 = .ok (.iaload, 1) := by decide +kernel
theorem d_M_comeToNext_175 : decode b_M_comeToNext 175 = .ok (.aload_n 0, 1) := by decide +kernel
theorem d_M_comeToNext_176 : decode b_M_comeToNext 176 = .ok (.getfield 41, 3) := by decide +kernel
theorem d_M_comeToNext_179 : decode b_M_comeToNext 179 = .ok (.bipush 12, 2) := by decide +kernel
theorem d_M_comeToNext_181 : decode b_M_comeToNext 181 = .ok (.aload_n 0, 1) := by decide +kernel
theorem d_M_comeToNext_182 : decode b_M_comeToNext 182 = .ok (.getfield 190, 3) := by decide +kernel
theorem d_M_comeToNext_185 : decode b_M_comeToNext 185 = .ok (.imul, 1) := by decide +kernel
theorem d_M_comeToNext_186 : decode b_M_comeToNext 186 = .ok (.aload_n 0, 1) := by decide +kernel
theorem d_M_comeToNext_187 : decode b_M_comeToNext 187 = .ok (.getfield 196, 3) := by decide +kernel
theorem d_M_comeToNext_190 : decode b_M_comeToNext 190 = .ok (.iadd, 1) := by decide +kernel
theorem d_M_comeToNext_191 : decode b_M_comeToNext 191 = .ok (.iaload, 1) := by decide +kernel
theorem d_M_comeToNext_192 : decode b_M_comeToNext 192 = .ok (.invokevirtual 117, 3) := by decide +kernel
theorem d_M_comeToNext_195 : decode b_M_comeToNext 195 = .ok (.iconst 0, 1) := by decide +kernel
theorem d_M_comeToNext_196 : decode b_M_comeToNext 196 = .ok (.istore 5, 2) := by decide +kernel
theorem d_M_comeToNext_198 : decode b_M_comeToNext 198 = .ok (.iload 5, 2) := by decide +kernel
theorem d_M_comeToNext_200 : decode b_M_comeToNext 200 = .ok (.iload_n 1, 1) := by decide +kernel
theorem d_M_comeToNext_201 : decode b_M_comeToNext 201 = .ok (.if_icmp .ge 24, 3) := by decide +kernel
theorem d_M_comeToNext_204 : decode b_M_comeToNext 204 = .ok (.aload_n 0, 1) := by decide +kernel
theorem d_M_comeToNext_205 : decode b_M_comeToNext 205 = .ok (.iload_n 2, 1) := by decide +kernel
theorem d_M_comeToNext_206 : decode b_M_comeToNext 206 = .ok (.aload_n 0, 1) := by decide +kernel
theorem d_M_comeToNext_207 : decode b_M_comeToNext 207 = .ok (.getfield 19, 3) := by decide +kernel
theorem d_M_comeToNext_210 : decode b_M_comeToNext 210 = .ok (.iload 4, 2) := by decide +kernel
theorem d_M_comeToNext_212 : decode b_M_comeToNext 212 = .ok (.iload 5, 2) := by decide +kernel
theorem d_M_comeToNext_214 : decode b_M_comeToNext 214 = .ok (.iadd, 1) := by decide +kernel
theorem d_M_comeToNext_215 : decode b_M_comeToNext 215 = .ok (.iaload, 1) := by decide +kernel
theorem d_M_comeToNext_216 : decode b_M_comeToNext 216 = .ok (.invokevirtual 106, 3) := by decide +kernel
theorem d_M_comeToNext_219 : decode b_M_comeToNext 219 = .ok (.iinc 5 1, 3) := by decide +kernel
theorem d_M_comeToNext_222 : decode b_M_comeToNext 222 = .ok (.goto (-24), 3) := by decide +kernel
theorem d_M_comeToNext_225 : decode b_M_comeToNext 225 = .ok (.aload_n 0, 1) := by decide +kernel
theorem d_M_comeToNext_226 : decode b_M_comeToNext 226 = .ok (.dup, 1) := by decide +kernel
theorem d_M_comeToNext_227 : decode b_M_comeToNext 227 = .ok (.getfield 196, 3) := by decide +kernel
theorem d_M_comeToNext_230 : decode b_M_comeToNext 230 = .ok (.iconst 1, 1) := by decide +kernel
theorem d_M_comeToNext_231 : decode b_M_comeToNext 231 = .ok (.iadd, 1) := by decide +kernel
theorem d_M_comeToNext_232 : decode b_M_comeToNext 232 = .ok (.putfield 196, 3) := by decide +kernel
theorem d_M_comeToNext_235 : decode b_M_comeToNext 235 = .ok (.aload_n 0, 1) := by decide +kernel
theorem d_M_comeToNext_236 : decode b_M_comeToNext 236 = .ok (.invokevirtual 205, 3) := by decide +kernel
theorem d_M_comeToNext_239 : decode b_M_comeToNext 239 = .ok (.return_, 1) := by decide +kernel
theorem d_M_makeHint_0 : decode b_M_makeHint 0 = .ok (.bipush 120, 2) := by decide +kernel
theorem d_M_makeHint_2 : decode b_M_makeHint 2 = .ok (.iload_n 1, 1) := by decide +kernel
theorem d_M_makeHint_3 : decode b_M_makeHint 3 = .ok (.imul, 1) := by decide +kernel
theorem d_M_makeHint_4 : decode b_M_makeHint 4 = .ok (.istore_n 2, 1) := by decide +kernel
theorem d_M_makeHint_5 : decode b_M_makeHint 5 = .ok (.iload_n 2, 1) := by decide +kernel
theorem d_M_makeHint_6 : decode b_M_makeHint 6 = .ok (.istore_n 3, 1) := by decide +kernel
theorem d_M_makeHint_7 : decode b_M_makeHint 7 = .ok (.iconst 0, 1) := by decide +kernel
theorem d_M_makeHint_8 : decode b_M_makeHint 8 = .ok (.istore 4, 2) := by decide +kernel
theorem d_M_makeHint_10 : decode b_M_makeHint 10 = .ok (.iload 4, 2) := by decide +kernel
theorem d_M_makeHint_12 : decode b_M_makeHint 12 = .ok (.aload_n 0, 1) := by decide +kernel
theorem d_M_makeHint_13 : decode b_M_makeHint 13 = .ok (.getfield 32, 3) := by decide +kernel
theorem d_M_makeHint_16 : decode b_M_makeHint 16 = .ok (.iload_n 1, 1) := by decide +kernel
theorem d_M_makeHint_17 : decode b_M_makeHint 17 = .ok (.iaload, 1) := by decide +kernel
theorem d_M_makeHint_18 : decode b_M_makeHint 18 = .ok (.if_icmp .ge 94, 3) := by decide +kernel
theorem d_M_makeHint_21 : decode b_M_makeHint 21 = .ok (.aload_n 0, 1) := by decide +kernel
theorem d_M_makeHint_22 : decode b_M_makeHint 22 = .ok (.getfield 35, 3) := by decide +kernel
theorem d_M_makeHint_25 : decode b_M_makeHint 25 = .ok (.bipush 12, 2) := by decide +kernel
theorem d_M_makeHint_27 : decode b_M_makeHint 27 = .ok (.iload_n 1, 1) := by decide +kernel
theorem d_M_makeHint_28 : decode b_M_makeHint 28 = .ok (.imul, 1) := by decide +kernel
theorem d_M_makeHint_29 : decode b_M_makeHint 29 = .ok (.iload 4, 2) := by decide +kernel
theorem d_M_makeHint_31 : decode b_M_makeHint 31 = .ok (.iadd, 1) := by decide +kernel
theorem d_M_makeHint_32 : decode b_M_makeHint 32 = .ok (.iaload, 1) := by decide +kernel
theorem d_M_makeHint_33 : decode b_M_makeHint 33 = .ok (.istore 5, 2) := by decide +kernel
theorem d_M_makeHint_35 : decode b_M_makeHint 35 = .ok (.iconst 4, 1) := by decide +kernel
theorem d_M_makeHint_36 : decode b_M_makeHint 36 = .ok (.istore 6, 2) := by decide +kernel
theorem d_M_makeHint_38 : decode b_M_makeHint 38 = .ok (.iload 6, 2) := by decide +kernel
theorem d_M_makeHint_40 : decode b_M_makeHint 40 = .ok (.bipush 8, 2) := by decide +kernel
theorem d_M_makeHint_42 : decode b_M_makeHint 42 = .ok (.aload_n 0, 1) := by decide +kernel
theorem d_M_makeHint_43 : decode b_M_makeHint 43 = .ok (.getfield 38, 3) := by decide +kernel
theorem d_M_makeHint_46 : decode b_M_makeHint 46 = .ok (.bipush 12, 2) := by decide +kernel
theorem d_M_makeHint_48 : decode b_M_makeHint 48 = .ok (.iload_n 1, 1) := by decide +kernel
theorem d_M_makeHint_49 : decode b_M_makeHint 49 = .ok (.imul, 1) := by decide +kernel
theorem d_M_makeHint_50 : decode b_M_makeHint 50 = .ok (.iload 4, 2) := by decide +kernel
theorem d_M_makeHint_52 : decode b_M_makeHint 52 = .ok (.iadd, 1) := by decide +kernel
theorem d_M_makeHint_53 : decode b_M_makeHint 53 = .ok (.iaload, 1) := by decide +kernel
theorem d_M_makeHint_54 : decode b_M_makeHint 54 = .ok (.iadd, 1) := by decide +kernel
theorem d_M_makeHint_55 : decode b_M_makeHint 55 = .ok (.if_icmp .ge 51, 3) := by decide +kernel
theorem d_M_makeHint_58 : decode b_M_makeHint 58 = .ok (.iload 6, 2) := by decide +kernel
theorem d_M_makeHint_60 : decode b_M_makeHint 60 = .ok (.bipush 8, 2) := by decide +kernel
theorem d_M_makeHint_62 : decode b_M_makeHint 62 = .ok (.if_icmp .ne 14, 3) := by decide +kernel
theorem d_M_makeHint_65 : decode b_M_makeHint 65 = .ok (.aload_n 0, 1) := by decide +kernel
theorem d_M_makeHint_66 : decode b_M_makeHint 66 = .ok (.getfield 29, 3) := by decide +kernel
theorem d_M_makeHint_69 : decode b_M_makeHint 69 = .ok (.iload_n 3, 1) := by decide +kernel
theorem d_M_makeHint_70 : decode b_M_makeHint 70 = .ok (.iload 5, 2) := by decide +kernel
theorem d_M_makeHint_72 : decode b_M_makeHint 72 = .ok (.iastore, 1) := by decide +kernel
theorem d_M_makeHint_73 : decode b_M_makeHint 73 = .ok (.iinc 3 1, 3) := by decide +kernel
theorem d_M_makeHint_76 : decode b_M_makeHint 76 = .ok (.aload_n 0, 1) := by decide +kernel
theorem d_M_makeHint_77 : decode b_M_makeHint 77 = .ok (.getfield 29, 3) := by decide +kernel
theorem d_M_makeHint_80 : decode b_M_makeHint 80 = .ok (.iload_n 3, 1) := by decide +kernel
theorem d_M_makeHint_81 : decode b_M_makeHint 81 = .ok (.aload_n 0, 1) := by decide +kernel
theorem d_M_makeHint_82 : decode b_M_makeHint 82 = .ok (.getfield 19, 3) := by decide +kernel
theorem d_M_makeHint_85 : decode b_M_makeHint 85 = .ok (.bipush 100, 2) := by decide +kernel
theorem d_M_makeHint_87 : decode b_M_makeHint 87 = .ok (.iload_n 1, 1) := by decide +kernel
theorem d_M_makeHint_88 : decode b_M_makeHint 88 = .ok (.imul, 1) := by decide +kernel
theorem d_M_makeHint_89 : decode b_M_makeHint 89 = .ok (.iload 5, 2) := by decide +kernel
theorem d_M_makeHint_91 : decode b_M_makeHint 91 = .ok (.iadd, 1) := by decide +kernel
theorem d_M_makeHint_92 : decode b_M_makeHint 92 = .ok (.iload 6, 2) := by decide +kernel
theorem d_M_makeHint_94 : decode b_M_makeHint 94 = .ok (.iadd, 1) := by decide +kernel
theorem d_M_makeHint_95 : decode b_M_makeHint 95 = .ok (.iaload, 1) := by decide +kernel
theorem d_M_makeHint_96 : decode b_M_makeHint 96 = .ok (.iastore, 1) := by decide +kernel
theorem d_M_makeHint_97 : decode b_M_makeHint 97 = .ok (.iinc 3 1, 3) := by decide +kernel
theorem d_M_makeHint_100 : decode b_M_makeHint 100 = .ok (.iinc 6 1, 3) := by decide +kernel
theorem d_M_makeHint_103 : decode b_M_makeHint 103 = .ok (.goto (-65), 3) := by decide +kernel
theorem d_M_makeHint_106 : decode b_M_makeHint 106 = .ok (.iinc 4 1, 3) := by decide +kernel
theorem d_M_makeHint_109 : decode b_M_makeHint 109 = .ok (.goto (-99), 3) := by decide +kernel
theorem d_M_makeHint_112 : decode b_M_makeHint 112 = .ok (.aload_n 0, 1) := by decide +kernel
theorem d_M_makeHint_113 : decode b_M_makeHint 113 = .ok (.getfield 29, 3) := by decide +kernel
theorem d_M_makeHint_116 : decode b_M_makeHint 116 = .ok (.iload_n 2, 1) := by decide +kernel
theorem d_M_makeHint_117 : decode b_M_makeHint 117 = .ok (.iload_n 3, 1) := by decide +kernel
theorem d_M_makeHint_118 : decode b_M_makeHint 118 = .ok (.invokestatic 128, 3) := by decide +kernel
theorem d_M_makeHint_121 : decode b_M_makeHint 121 = .ok (.lstore 4, 2) := by decide +kernel
theorem d_M_makeHint_123 : decode b_M_makeHint 123 = .ok (.iconst 3, 1) := by decide +kernel
theorem d_M_makeHint_124 : decode b_M_makeHint 124 = .ok (.istore 6, 2) := by decide +kernel
theorem d_M_makeHint_126 : decode b_M_makeHint 126 = .ok (.iload 6, 2) := by decide +kernel
theorem d_M_makeHint_128 : decode b_M_makeHint 128 = .ok (.ifCond .lt 31, 3) := by decide +kernel
theorem d_M_makeHint_131 : decode b_M_makeHint 131 = .ok (.aload_n 0, 1) := by decide +kernel
theorem d_M_makeHint_132 : decode b_M_makeHint 132 = .ok (.getfield 29, 3) := by decide +kernel
theorem d_M_makeHint_135 : decode b_M_makeHint 135 = .ok (.iload_n 3, 1) := by decide +kernel
theorem d_M_makeHint_136 : decode b_M_makeHint 136 = .ok (.lload 4, 2) := by decide +kernel
theorem d_M_makeHint_138 : decode b_M_makeHint 138 = .ok (.bipush 8, 2) := by decide +kernel
theorem d_M_makeHint_140 : decode b_M_makeHint 140 = .ok (.iload 6, 2) := by decide +kernel
theorem d_M_makeHint_142 : decode b_M_makeHint 142 = .ok (.imul, 1) := by decide +kernel
theorem d_M_makeHint_143 : decode b_M_makeHint 143 = .ok (.lshr, 1) := by decide +kernel
theorem d_M_makeHint_144 : decode b_M_makeHint 144 = .ok (.ldc2_w 79, 3) := by decide +kernel
theorem d_M_makeHint_147 : decode b_M_makeHint 147 = .ok (.land, 1) := by decide +kernel
theorem d_M_makeHint_148 : decode b_M_makeHint 148 = .ok (.l2i, 1) := by decide +kernel
theorem d_M_makeHint_149 : decode b_M_makeHint 149 = .ok (.iastore, 1) := by decide +kernel
theorem d_M_makeHint_150 : decode b_M_makeHint 150 = .ok (.iinc 3 1, 3) := by decide +kernel
theorem d_M_makeHint_153 : decode b_M_makeHint 153 = .ok (.iinc 6 (-1), 3) := by decide +kernel
theorem d_M_makeHint_156 : decode b_M_makeHint 156 = .ok (.goto (-30), 3) := by decide +kernel
theorem d_M_makeHint_159 : decode b_M_makeHint 159 = .ok (.aload_n 0, 1) := by decide +kernel
theorem d_M_makeHint_160 : decode b_M_makeHint 160 = .ok (.getfield 26, 3) := by decide +kernel
theorem d_M_makeHint_163 : decode b_M_makeHint 163 = .ok (.iload_n 1, 1) := by decide +kernel
theorem d_M_makeHint_164 : decode b_M_makeHint 164 = .ok (.iload_n 3, 1) := by decide +kernel
theorem d_M_makeHint_165 : decode b_M_makeHint 165 = .ok (.iload_n 2, 1) := by decide +kernel
theorem d_M_makeHint_166 : decode b_M_makeHint 166 = .ok (.isub, 1) := by decide +kernel
theorem d_M_makeHint_167 : decode b_M_makeHint 167 = .ok (.iastore, 1) := by decide +kernel
theorem d_M_makeHint_168 : decode b_M_makeHint 168 = .ok (.aload_n 0, 1) := by decide +kernel
theorem d_M_makeHint_169 : decode b_M_makeHint 169 = .ok (.getfield 22, 3) := by decide +kernel
theorem d_M_makeHint_172 : decode b_M_makeHint 172 = .ok (.iload_n 1, 1) := by decide +kernel
theorem d_M_makeHint_173 : decode b_M_makeHint 173 = .ok (.iconst 1, 1) := by decide +kernel
theorem d_M_makeHint_174 : decode b_M_makeHint 174 = .ok (.bastore, 1) := by decide +kernel
theorem d_M_makeHint_175 : decode b_M_makeHint 175 = .ok (.return_, 1) := by decide +kernel
theorem d_M_publish_0 : decode b_M_publish 0 = .ok (.iconst 0, 1) := by decide +kernel
theorem d_M_publish_1 : decode b_M_publish 1 = .ok (.istore_n 1, 1) := by decide +kernel
theorem d_M_publish_2 : decode b_M_publish 2 = .ok (.iload_n 1, 1) := by decide +kernel
theorem d_M_publish_3 : decode b_M_publish 3 = .ok (.aload_n 0, 1) := by decide +kernel
theorem d_M_publish_4 : decode b_M_publish 4 = .ok (.getfield 202, 3) := by decide +kernel
theorem d_M_publish_7 : decode b_M_publish 7 = .ok (.if_icmp .ge 89, 3) := by decide +kernel
theorem d_M_publish_10 : decode b_M_publish 10 = .ok (.bipush 6, 2) := by decide +kernel
theorem d_M_publish_12 : decode b_M_publish 12 = .ok (.iload_n 1, 1) := by decide +kernel
theorem d_M_publish_13 : decode b_M_publish 13 = .ok (.iadd, 1) := by decide +kernel
theorem d_M_publish_14 : decode b_M_publish 14 = .ok (.istore_n 2, 1) := by decide +kernel
theorem d_M_publish_15 : decode b_M_publish 15 = .ok (.iconst 0, 1) := by decide +kernel
theorem d_M_publish_16 : decode b_M_publish 16 = .ok (.istore_n 3, 1) := by decide +kernel
theorem d_M_publish_17 : decode b_M_publish 17 = .ok (.iload_n 3, 1) := by decide +kernel
theorem d_M_publish_18 : decode b_M_publish 18 = .ok (.aload_n 0, 1) := by decide +kernel
theorem d_M_publish_19 : decode b_M_publish 19 = .ok (.getfield 32, 3) := by decide +kernel
theorem d_M_publish_22 : decode b_M_publish 22 = .ok (.iload_n 2, 1) := by decide +kernel
theorem d_M_publish_23 : decode b_M_publish 23 = .ok (.iaload, 1) := by decide +kernel
theorem d_M_publish_24 : decode b_M_publish 24 = .ok (.if_icmp .ge 66, 3) := by decide +kernel
theorem d_M_publish_27 : decode b_M_publish 27 = .ok (.aload_n 0, 1) := by decide +kernel
theorem d_M_publish_28 : decode b_M_publish 28 = .ok (.aload_n 0, 1) := by decide +kernel
theorem d_M_publish_29 : decode b_M_publish 29 = .ok (.getfield 44, 3) := by decide +kernel
theorem d_M_publish_32 : decode b_M_publish 32 = .ok (.bipush 12, 2) := by decide +kernel
theorem d_M_publish_34 : decode b_M_publish 34 = .ok (.iload_n 2, 1) := by decide +kernel
theorem d_M_publish_35 : decode b_M_publish 35 = .ok (.imul, 1) := by decide +kernel
theorem d_M_publish_36 : decode b_M_publish 36 = .ok (.iload_n 3, 1) := by decide +kernel
theorem d_M_publish_37 : decode b_M_publish 37 = .ok (.iadd, 1) := by decide +kernel
theorem d_M_publish_38 : decode b_M_publish 38 = .ok (.iaload, 1) := by decide +kernel
theorem d_M_publish_39 : decode b_M_publish 39 = .ok (.aload_n 0, 1) := by decide +kernel
theorem d_M_publish_40 : decode b_M_publish 40 = .ok (.getfield 47, 3) := by decide +kernel
theorem d_M_publish_43 : decode b_M_publish 43 = .ok (.bipush 12, 2) := by decide +kernel
theorem d_M_publish_45 : decode b_M_publish 45 = .ok (.iload_n 2, 1) := by decide +kernel
theorem d_M_publish_46 : decode b_M_publish 46 = .ok (.imul, 1) := by decide +kernel
theorem d_M_publish_47 : decode b_M_publish 47 = .ok (.iload_n 3, 1) := by decide +kernel
theorem d_M_publish_48 : decode b_M_publish 48 = .ok (.iadd, 1) := by decide +kernel
theorem d_M_publish_49 : decode b_M_publish 49 = .ok (.iaload, 1) := by decide +kernel
theorem d_M_publish_50 : decode b_M_publish 50 = .ok (.invokevirtual 199, 3) := by decide +kernel
theorem d_M_publish_53 : decode b_M_publish 53 = .ok (.istore 4, 2) := by decide +kernel
theorem d_M_publish_55 : decode b_M_publish 55 = .ok (.iload 4, 2) := by decide +kernel
theorem d_M_publish_57 : decode b_M_publish 57 = .ok (.ifCond .lt 27, 3) := by decide +kernel
theorem d_M_publish_60 : decode b_M_publish 60 = .ok (.aload_n 0, 1) := by decide +kernel
theorem d_M_publish_61 : decode b_M_publish 61 = .ok (.getfield 57, 3) := by decide +kernel
theorem d_M_publish_64 : decode b_M_publish 64 = .ok (.iload 4, 2) := by decide +kernel
theorem d_M_publish_66 : decode b_M_publish 66 = .ok (.ldc 208, 2) := by decide +kernel
theorem d_M_publish_68 : decode b_M_publish 68 = .ok (.aload_n 0, 1) := by decide +kernel
theorem d_M_publish_69 : decode b_M_publish 69 = .ok (.getfield 7, 3) := by decide +kernel
theorem d_M_publish_72 : decode b_M_publish 72 = .ok (.iload_n 1, 1) := by decide +kernel
theorem d_M_publish_73 : decode b_M_publish 73 = .ok (.iaload, 1) := by decide +kernel
theorem d_M_publish_74 : decode b_M_publish 74 = .ok (.iadd, 1) := by decide +kernel
theorem d_M_publish_75 : decode b_M_publish 75 = .ok (.iastore, 1) := by decide +kernel
theorem d_M_publish_76 : decode b_M_publish 76 = .ok (.aload_n 0, 1) := by decide +kernel
theorem d_M_publish_77 : decode b_M_publish 77 = .ok (.getfield 60, 3) := by decide +kernel
theorem d_M_publish_80 : decode b_M_publish 80 = .ok (.iload 4, 2) := by decide +kernel
theorem d_M_publish_82 : decode b_M_publish 82 = .ok (.iload_n 3, 1) := by decide +kernel
theorem d_M_publish_83 : decode b_M_publish 83 = .ok (.iastore, 1) := by decide +kernel
theorem d_M_publish_84 : decode b_M_publish 84 = .ok (.iinc 3 1, 3) := by decide +kernel
theorem d_M_publish_87 : decode b_M_publish 87 = .ok (.goto (-70), 3) := by decide +kernel
theorem d_M_publish_90 : decode b_M_publish 90 = .ok (.iinc 1 1, 3) := by decide +kernel
theorem d_M_publish_93 : decode b_M_publish 93 = .ok (.goto (-91), 3) := by decide +kernel
theorem d_M_publish_96 : decode b_M_publish 96 = .ok (.iconst 0, 1) := by decide +kernel
theorem d_M_publish_97 : decode b_M_publish 97 = .ok (.istore_n 1, 1) := by decide +kernel
theorem d_M_publish_98 : decode b_M_publish 98 = .ok (.iload_n 1, 1) := by decide +kernel
theorem d_M_publish_99 : decode b_M_publish 99 = .ok (.aload_n 0, 1) := by decide +kernel
theorem d_M_publish_100 : decode b_M_publish 100 = .ok (.getfield 85, 3) := by decide +kernel
theorem d_M_publish_103 : decode b_M_publish 103 = .ok (.if_icmp .ge 35, 3) := by decide +kernel
theorem d_M_publish_106 : decode b_M_publish 106 = .ok (.aload_n 0, 1) := by decide +kernel
theorem d_M_publish_107 : decode b_M_publish 107 = .ok (.getfield 57, 3) := by decide +kernel
theorem d_M_publish_110 : decode b_M_publish 110 = .ok (.iload_n 1, 1) := by decide +kernel
theorem d_M_publish_111 : decode b_M_publish 111 = .ok (.iaload, 1) := by decide +kernel
theorem d_M_publish_112 : decode b_M_publish 112 = .ok (.ldc 208, 2) := by decide +kernel
theorem d_M_publish_114 : decode b_M_publish 114 = .ok (.if_icmp .lt 18, 3) := by decide +kernel
theorem d_M_publish_117 : decode b_M_publish 117 = .ok (.aload_n 0, 1) := by decide +kernel
theorem d_M_publish_118 : decode b_M_publish 118 = .ok (.getfield 57, 3) := by decide +kernel
theorem d_M_publish_121 : decode b_M_publish 121 = .ok (.iload_n 1, 1) := by decide +kernel
theorem d_M_publish_122 : decode b_M_publish 122 = .ok (.aload_n 0, 1) := by decide +kernel
theorem d_M_publish_123 : decode b_M_publish 123 = .ok (.getfield 57, 3) := by decide +kernel
theorem d_M_publish_126 : decode b_M_publish 126 = .ok (.iload_n 1, 1) := by decide +kernel
theorem d_M_publish_127 : decode b_M_publish 127 = .ok (.iaload, 1) := by decide +kernel
theorem d_M_publish_128 : decode b_M_publish 128 = .ok (.ldc 208, 2) := by decide +kernel
theorem d_M_publish_130 : decode b_M_publish 130 = .ok (.isub, 1) := by decide +kernel
theorem d_M_publish_131 : decode b_M_publish 131 = .ok (.iastore, 1) := by decide +kernel
theorem d_M_publish_132 : decode b_M_publish 132 = .ok (.iinc 1 1, 3) := by decide +kernel
theorem d_M_publish_135 : decode b_M_publish 135 = .ok (.goto (-37), 3) := by decide +kernel
theorem d_M_publish_138 : decode b_M_publish 138 = .ok (.iconst 0, 1) := by decide +kernel
theorem d_M_publish_139 : decode b_M_publish 139 = .ok (.istore_n 1, 1) := by decide +kernel
theorem d_M_publish_140 : decode b_M_publish 140 = .ok (.iload_n 1, 1) := by decide +kernel
theorem d_M_publish_141 : decode b_M_publish 141 = .ok (.aload_n 0, 1) := by decide +kernel
theorem d_M_publish_142 : decode b_M_publish 142 = .ok (.getfield 202, 3) := by decide +kernel
theorem d_M_publish_145 : decode b_M_publish 145 = .ok (.if_icmp .ge 49, 3) := by decide +kernel
theorem d_M_publish_148 : decode b_M_publish 148 = .ok (.bipush 6, 2) := by decide +kernel
theorem d_M_publish_150 : decode b_M_publish 150 = .ok (.iload_n 1, 1) := by decide +kernel
theorem d_M_publish_151 : decode b_M_publish 151 = .ok (.iadd, 1) := by decide +kernel
theorem d_M_publish_152 : decode b_M_publish 152 = .ok (.istore_n 2, 1) := by decide +kernel
theorem d_M_publish_153 : decode b_M_publish 153 = .ok (.aload_n 0, 1) := by decide +kernel
theorem d_M_publish_154 : decode b_M_publish 154 = .ok (.getfield 7, 3) := by decide +kernel
theorem d_M_publish_157 : decode b_M_publish 157 = .ok (.iload_n 2, 1) := by decide +kernel
theorem d_M_publish_158 : decode b_M_publish 158 = .ok (.aload_n 0, 1) := by decide +kernel
theorem d_M_publish_159 : decode b_M_publish 159 = .ok (.getfield 7, 3) := by decide +kernel
theorem d_M_publish_162 : decode b_M_publish 162 = .ok (.iload_n 1, 1) := by decide +kernel
theorem d_M_publish_163 : decode b_M_publish 163 = .ok (.iaload, 1) := by decide +kernel
theorem d_M_publish_164 : decode b_M_publish 164 = .ok (.iastore, 1) := by decide +kernel
theorem d_M_publish_165 : decode b_M_publish 165 = .ok (.aload_n 0, 1) := by decide +kernel
theorem d_M_publish_166 : decode b_M_publish 166 = .ok (.getfield 16, 3) := by decide +kernel
theorem d_M_publish_169 : decode b_M_publish 169 = .ok (.iload_n 2, 1) := by decide +kernel
theorem d_M_publish_170 : decode b_M_publish 170 = .ok (.aload_n 0, 1) := by decide +kernel
theorem d_M_publish_171 : decode b_M_publish 171 = .ok (.getfield 13, 3) := by decide +kernel
theorem d_M_publish_174 : decode b_M_publish 174 = .ok (.iload_n 2, 1) := by decide +kernel
theorem d_M_publish_175 : decode b_M_publish 175 = .ok (.iaload, 1) := by decide +kernel
theorem d_M_publish_176 : decode b_M_publish 176 = .ok (.iastore, 1) := by decide +kernel
theorem d_M_publish_177 : decode b_M_publish 177 = .ok (.aload_n 0, 1) := by decide +kernel
theorem d_M_publish_178 : decode b_M_publish 178 = .ok (.iload_n 2, 1) := by decide +kernel
theorem d_M_publish_179 : decode b_M_publish 179 = .ok (.invokevirtual 209, 3) := by decide +kernel
theorem d_M_publish_182 : decode b_M_publish 182 = .ok (.aload_n 0, 1) := by decide +kernel
theorem d_M_publish_183 : decode b_M_publish 183 = .ok (.iload_n 2, 1) := by decide +kernel
theorem d_M_publish_184 : decode b_M_publish 184 = .ok (.iload_n 1, 1) := by decide +kernel
theorem d_M_publish_185 : decode b_M_publish 185 = .ok (.invokevirtual 212, 3) := by decide +kernel
theorem d_M_publish_188 : decode b_M_publish 188 = .ok (.iinc 1 1, 3) := by decide +kernel
theorem d_M_publish_191 : decode b_M_publish 191 = .ok (.goto (-51), 3) := by decide +kernel
theorem d_M_publish_194 : decode b_M_publish 194 = .ok (.aload_n 0, 1) := by decide +kernel
theorem d_M_publish_195 : decode b_M_publish 195 = .ok (.getfield 193, 3) := by decide +kernel
theorem d_M_publish_198 : decode b_M_publish 198 = .ok (.aload_n 0, 1) := by decide +kernel
theorem d_M_publish_199 : decode b_M_publish 199 = .ok (.getfield 202, 3) := by decide +kernel
theorem d_M_publish_202 : decode b_M_publish 202 = .ok (.isub, 1) := by decide +kernel
theorem d_M_publish_203 : decode b_M_publish 203 = .ok (.istore_n 1, 1) := by decide +kernel
theorem d_M_publish_204 : decode b_M_publish 204 = .ok (.aload_n 0, 1) := by decide +kernel
theorem d_M_publish_205 : decode b_M_publish 205 = .ok (.getfield 193, 3) := by decide +kernel
theorem d_M_publish_208 : decode b_M_publish 208 = .ok (.istore_n 2, 1) := by decide +kernel
theorem d_M_publish_209 : decode b_M_publish 209 = .ok (.iload_n 2, 1) := by decide +kernel
theorem d_M_publish_210 : decode b_M_publish 210 = .ok (.aload_n 0, 1) := by decide +kernel
theorem d_M_publish_211 : decode b_M_publish 211 = .ok (.getfield 99, 3) := by decide +kernel
theorem d_M_publish_214 : decode b_M_publish 214 = .ok (.if_icmp .ge 21, 3) := by decide +kernel
theorem d_M_publish_217 : decode b_M_publish 217 = .ok (.iload_n 1, 1) := by decide +kernel
theorem d_M_publish_218 : decode b_M_publish 218 = .ok (.ifCond .le 17, 3) := by decide +kernel
theorem d_M_publish_221 : decode b_M_publish 221 = .ok (.aload_n 0, 1) := by decide +kernel
theorem d_M_publish_222 : decode b_M_publish 222 = .ok (.iload_n 2, 1) := by decide +kernel
theorem d_M_publish_223 : decode b_M_publish 223 = .ok (.iload_n 2, 1) := by decide +kernel
theorem d_M_publish_224 : decode b_M_publish 224 = .ok (.iload_n 1, 1) := by decide +kernel
theorem d_M_publish_225 : decode b_M_publish 225 = .ok (.isub, 1) := by decide +kernel
theorem d_M_publish_226 : decode b_M_publish 226 = .ok (.invokevirtual 212, 3) := by decide +kernel
theorem d_M_publish_229 : decode b_M_publish 229 = .ok (.iinc 2 1, 3) := by decide +kernel
theorem d_M_publish_232 : decode b_M_publish 232 = .ok (.goto (-23), 3) := by decide +kernel
theorem d_M_publish_235 : decode b_M_publish 235 = .ok (.aload_n 0, 1) := by decide +kernel
theorem d_M_publish_236 : decode b_M_publish 236 = .ok (.aload_n 0, 1) := by decide +kernel
theorem d_M_publish_237 : decode b_M_publish 237 = .ok (.getfield 99, 3) := by decide +kernel
theorem d_M_publish_240 : decode b_M_publish 240 = .ok (.iload_n 1, 1) := by decide +kernel
theorem d_M_publish_241 : decode b_M_publish 241 = .ok (.isub, 1) := by decide +kernel
theorem d_M_publish_242 : decode b_M_publish 242 = .ok (.putfield 99, 3) := by decide +kernel
theorem d_M_publish_245 : decode b_M_publish 245 = .ok (.aload_n 0, 1) := by decide +kernel
theorem d_M_publish_246 : decode b_M_publish 246 = .ok (.iconst 0, 1) := by decide +kernel
theorem d_M_publish_247 : decode b_M_publish 247 = .ok (.putfield 175, 3) := by decide +kernel
theorem d_M_publish_250 : decode b_M_publish 250 = .ok (.return_, 1) := by decide +kernel
theorem d_M_merge_0 : decode b_M_merge 0 = .ok (.aload_n 0, 1) := by decide +kernel
theorem d_M_merge_1 : decode b_M_merge 1 = .ok (.getfield 102, 3) := by decide +kernel
theorem d_M_merge_4 : decode b_M_merge 4 = .ok (.ifCond .eq 12, 3) := by decide +kernel
theorem d_M_merge_7 : decode b_M_merge 7 = .ok (.aload_n 0, 1) := by decide +kernel
theorem d_M_merge_8 : decode b_M_merge 8 = .ok (.getfield 99, 3) := by decide +kernel
theorem d_M_merge_11 : decode b_M_merge 11 = .ok (.iconst 1, 1) := by decide +kernel
theorem d_M_merge_12 : decode b_M_merge 12 = .ok (.isub, 1) := by decide +kernel
theorem d_M_merge_13 : decode b_M_merge 13 = .ok (.goto 7, 3) := by decide +kernel
theorem d_M_merge_16 : decode b_M_merge 16 = .ok (.aload_n 0, 1) := by decide +kernel
theorem d_M_merge_17 : decode b_M_merge 17 = .ok (.getfield 99, 3) := by decide +kernel
theorem d_M_merge_20 : decode b_M_merge 20 = .ok (.istore_n 2, 1) := by decide +kernel
theorem d_M_merge_21 : decode b_M_merge 21 = .ok (.aload_n 0, 1) := by decide +kernel
theorem d_M_merge_22 : decode b_M_merge 22 = .ok (.iload_n 1, 1) := by decide +kernel
theorem d_M_merge_23 : decode b_M_merge 23 = .ok (.iconst 1, 1) := by decide +kernel
theorem d_M_merge_24 : decode b_M_merge 24 = .ok (.bipush 20, 2) := by decide +kernel
theorem d_M_merge_26 : decode b_M_merge 26 = .ok (.invokestatic 133, 3) := by decide +kernel
theorem d_M_merge_29 : decode b_M_merge 29 = .ok (.ifCond .ne 7, 3) := by decide +kernel
theorem d_M_merge_32 : decode b_M_merge 32 = .ok (.iconst 1, 1) := by decide +kernel
theorem d_M_merge_33 : decode b_M_merge 33 = .ok (.goto 26, 3) := by decide +kernel
theorem d_M_merge_36 : decode b_M_merge 36 = .ok (.aload_n 0, 1) := by decide +kernel
theorem d_M_merge_37 : decode b_M_merge 37 = .ok (.getfield 137, 3) := by decide +kernel
theorem d_M_merge_40 : decode b_M_merge 40 = .ok (.ifCond .ne 14, 3) := by decide +kernel
theorem d_M_merge_43 : decode b_M_merge 43 = .ok (.aload_n 0, 1) := by decide +kernel
theorem d_M_merge_44 : decode b_M_merge 44 = .ok (.getfield 175, 3) := by decide +kernel
theorem d_M_merge_47 : decode b_M_merge 47 = .ok (.ifCond .ne 11, 3) := by decide +kernel
theorem d_M_merge_50 : decode b_M_merge 50 = .ok (.iload_n 2, 1) := by decide +kernel
theorem d_M_merge_51 : decode b_M_merge 51 = .ok (.ifCond .ne 7, 3) := by decide +kernel
theorem d_M_merge_54 : decode b_M_merge 54 = .ok (.iconst 2, 1) := by decide +kernel
theorem d_M_merge_55 : decode b_M_merge 55 = .ok (.goto 4, 3) := by decide +kernel
theorem d_M_merge_58 : decode b_M_merge 58 = .ok (.iconst 0, 1) := by decide +kernel
theorem d_M_merge_59 : decode b_M_merge 59 = .ok (.putfield 63, 3) := by decide +kernel
theorem d_M_merge_62 : decode b_M_merge 62 = .ok (.aload_n 0, 1) := by decide +kernel
theorem d_M_merge_63 : decode b_M_merge 63 = .ok (.getfield 63, 3) := by decide +kernel
theorem d_M_merge_66 : decode b_M_merge 66 = .ok (.ifCond .le 5, 3) := by decide +kernel
theorem d_M_merge_69 : decode b_M_merge 69 = .ok (.iconst 0, 1) := by decide +kernel
theorem d_M_merge_70 : decode b_M_merge 70 = .ok (.ireturn, 1) := by decide +kernel
theorem d_M_merge_71 : decode b_M_merge 71 = .ok (.aload_n 0, 1) := by decide +kernel
theorem d_M_merge_72 : decode b_M_merge 72 = .ok (.getfield 175, 3) := by decide +kernel
theorem d_M_merge_75 : decode b_M_merge 75 = .ok (.ifCond .ne 32, 3) := by decide +kernel
theorem d_M_merge_78 : decode b_M_merge 78 = .ok (.aload_n 0, 1) := by decide +kernel
theorem d_M_merge_79 : decode b_M_merge 79 = .ok (.iconst 1, 1) := by decide +kernel
theorem d_M_merge_80 : decode b_M_merge 80 = .ok (.putfield 175, 3) := by decide +kernel
theorem d_M_merge_83 : decode b_M_merge 83 = .ok (.aload_n 0, 1) := by decide +kernel
theorem d_M_merge_84 : decode b_M_merge 84 = .ok (.iload_n 2, 1) := by decide +kernel
theorem d_M_merge_85 : decode b_M_merge 85 = .ok (.putfield 193, 3) := by decide +kernel
theorem d_M_merge_88 : decode b_M_merge 88 = .ok (.aload_n 0, 1) := by decide +kernel
theorem d_M_merge_89 : decode b_M_merge 89 = .ok (.iconst 0, 1) := by decide +kernel
theorem d_M_merge_90 : decode b_M_merge 90 = .ok (.putfield 190, 3) := by decide +kernel
theorem d_M_merge_93 : decode b_M_merge 93 = .ok (.aload_n 0, 1) := by decide +kernel
theorem d_M_merge_94 : decode b_M_merge 94 = .ok (.iconst 0, 1) := by decide +kernel
theorem d_M_merge_95 : decode b_M_merge 95 = .ok (.putfield 196, 3) := by decide +kernel
theorem d_M_merge_98 : decode b_M_merge 98 = .ok (.aload_n 0, 1) := by decide +kernel
theorem d_M_merge_99 : decode b_M_merge 99 = .ok (.iconst 0, 1) := by decide +kernel
theorem d_M_merge_100 : decode b_M_merge 100 = .ok (.putfield 202, 3) := by decide +kernel
theorem d_M_merge_103 : decode b_M_merge 103 = .ok (.aload_n 0, 1) := by decide +kernel
theorem d_M_merge_104 : decode b_M_merge 104 = .ok (.invokevirtual 205, 3) := by decide +kernel
theorem d_M_merge_107 : decode b_M_merge 107 = .ok (.iconst 0, 1) := by decide +kernel
theorem d_M_merge_108 : decode b_M_merge 108 = .ok (.istore_n 3, 1) := by decide +kernel
theorem d_M_merge_109 : decode b_M_merge 109 = .ok (.iload_n 3, 1) := by decide +kernel
theorem d_M_merge_110 : decode b_M_merge 110 = .ok (.iload_n 1, 1) := by decide +kernel
theorem d_M_merge_111 : decode b_M_merge 111 = .ok (.if_icmp .ge 24, 3) := by decide +kernel
theorem d_M_merge_114 : decode b_M_merge 114 = .ok (.aload_n 0, 1) := by decide +kernel
theorem d_M_merge_115 : decode b_M_merge 115 = .ok (.getfield 190, 3) := by decide +kernel
theorem d_M_merge_118 : decode b_M_merge 118 = .ok (.aload_n 0, 1) := by decide +kernel
theorem d_M_merge_119 : decode b_M_merge 119 = .ok (.getfield 193, 3) := by decide +kernel
theorem d_M_merge_122 : decode b_M_merge 122 = .ok (.if_icmp .ge 13, 3) := by decide +kernel
theorem d_M_merge_125 : decode b_M_merge 125 = .ok (.aload_n 0, 1) := by decide +kernel
theorem d_M_merge_126 : decode b_M_merge 126 = .ok (.invokevirtual 215, 3) := by decide +kernel
theorem d_M_merge_129 : decode b_M_merge 129 = .ok (.iinc 3 1, 3) := by decide +kernel
theorem d_M_merge_132 : decode b_M_merge 132 = .ok (.goto (-23), 3) := by decide +kernel
theorem d_M_merge_135 : decode b_M_merge 135 = .ok (.aload_n 0, 1) := by decide +kernel
theorem d_M_merge_136 : decode b_M_merge 136 = .ok (.getfield 190, 3) := by decide +kernel
theorem d_M_merge_139 : decode b_M_merge 139 = .ok (.aload_n 0, 1) := by decide +kernel
theorem d_M_merge_140 : decode b_M_merge 140 = .ok (.getfield 193, 3) := by decide +kernel
theorem d_M_merge_143 : decode b_M_merge 143 = .ok (.if_icmp .ge 5, 3) := by decide +kernel
theorem d_M_merge_146 : decode b_M_merge 146 = .ok (.iconst 0, 1) := by decide +kernel
theorem d_M_merge_147 : decode b_M_merge 147 = .ok (.ireturn, 1) := by decide +kernel
theorem d_M_merge_148 : decode b_M_merge 148 = .ok (.aload_n 0, 1) := by decide +kernel
theorem d_M_merge_149 : decode b_M_merge 149 = .ok (.invokevirtual 218, 3) := by decide +kernel
theorem d_M_merge_152 : decode b_M_merge 152 = .ok (.iconst 1, 1) := by decide +kernel
theorem d_M_merge_153 : decode b_M_merge 153 = .ok (.ireturn, 1) := by decide +kernel
theorem d_M_files_0 : decode b_M_files 0 = .ok (.aload_n 0, 1) := by decide +kernel
theorem d_M_files_1 : decode b_M_files 1 = .ok (.iconst 0, 1) := by decide +kernel
theorem d_M_files_2 : decode b_M_files 2 = .ok (.putfield 63, 3) := by decide +kernel
theorem d_M_files_5 : decode b_M_files 5 = .ok (.aload_n 0, 1) := by decide +kernel
theorem d_M_files_6 : decode b_M_files 6 = .ok (.getfield 99, 3) := by decide +kernel
theorem d_M_files_9 : decode b_M_files 9 = .ok (.ireturn, 1) := by decide +kernel
theorem d_M_file_0 : decode b_M_file 0 = .ok (.aload_n 0, 1) := by decide +kernel
theorem d_M_file_1 : decode b_M_file 1 = .ok (.iload_n 1, 1) := by decide +kernel
theorem d_M_file_2 : decode b_M_file 2 = .ok (.iconst 0, 1) := by decide +kernel
theorem d_M_file_3 : decode b_M_file 3 = .ok (.aload_n 0, 1) := by decide +kernel
theorem d_M_file_4 : decode b_M_file 4 = .ok (.getfield 99, 3) := by decide +kernel
theorem d_M_file_7 : decode b_M_file 7 = .ok (.iconst 1, 1) := by decide +kernel
theorem d_M_file_8 : decode b_M_file 8 = .ok (.isub, 1) := by decide +kernel
theorem d_M_file_9 : decode b_M_file 9 = .ok (.invokestatic 133, 3) := by decide +kernel
theorem d_M_file_12 : decode b_M_file 12 = .ok (.ifCond .eq 16, 3) := by decide +kernel
theorem d_M_file_15 : decode b_M_file 15 = .ok (.iload_n 2, 1) := by decide +kernel
theorem d_M_file_16 : decode b_M_file 16 = .ok (.iconst 0, 1) := by decide +kernel
theorem d_M_file_17 : decode b_M_file 17 = .ok (.iconst 4, 1) := by decide +kernel
theorem d_M_file_18 : decode b_M_file 18 = .ok (.invokestatic 133, 3) := by decide +kernel
theorem d_M_file_21 : decode b_M_file 21 = .ok (.ifCond .eq 7, 3) := by decide +kernel
theorem d_M_file_24 : decode b_M_file 24 = .ok (.iconst 0, 1) := by decide +kernel
theorem d_M_file_25 : decode b_M_file 25 = .ok (.goto 4, 3) := by decide +kernel
theorem d_M_file_28 : decode b_M_file 28 = .ok (.iconst 1, 1) := by decide +kernel
theorem d_M_file_29 : decode b_M_file 29 = .ok (.putfield 63, 3) := by decide +kernel
theorem d_M_file_32 : decode b_M_file 32 = .ok (.aload_n 0, 1) := by decide +kernel
theorem d_M_file_33 : decode b_M_file 33 = .ok (.getfield 63, 3) := by decide +kernel
theorem d_M_file_36 : decode b_M_file 36 = .ok (.ifCond .le 5, 3) := by decide +kernel
theorem d_M_file_39 : decode b_M_file 39 = .ok (.iconst 0, 1) := by decide +kernel
theorem d_M_file_40 : decode b_M_file 40 = .ok (.ireturn, 1) := by decide +kernel
theorem d_M_file_41 : decode b_M_file 41 = .ok (.iload_n 2, 1) := by decide +kernel
theorem d_M_file_42 : decode b_M_file 42 = .ok (.iconst 3, 1) := by decide +kernel
theorem d_M_file_43 : decode b_M_file 43 = .ok (.if_icmp .ne 9, 3) := by decide +kernel
theorem d_M_file_46 : decode b_M_file 46 = .ok (.aload_n 0, 1) := by decide +kernel
theorem d_M_file_47 : decode b_M_file 47 = .ok (.iload_n 1, 1) := by decide +kernel
theorem d_M_file_48 : decode b_M_file 48 = .ok (.invokevirtual 221, 3) := by decide +kernel
theorem d_M_file_51 : decode b_M_file 51 = .ok (.ireturn, 1) := by decide +kernel
theorem d_M_file_52 : decode b_M_file 52 = .ok (.iload_n 2, 1) := by decide +kernel
theorem d_M_file_53 : decode b_M_file 53 = .ok (.ifCond .ne 12, 3) := by decide +kernel
theorem d_M_file_56 : decode b_M_file 56 = .ok (.aload_n 0, 1) := by decide +kernel
theorem d_M_file_57 : decode b_M_file 57 = .ok (.getfield 7, 3) := by decide +kernel
theorem d_M_file_60 : decode b_M_file 60 = .ok (.iload_n 1, 1) := by decide +kernel
theorem d_M_file_61 : decode b_M_file 61 = .ok (.iaload, 1) := by decide +kernel
theorem d_M_file_62 : decode b_M_file 62 = .ok (.goto 50, 3) := by decide +kernel
theorem d_M_file_65 : decode b_M_file 65 = .ok (.iload_n 2, 1) := by decide +kernel
theorem d_M_file_66 : decode b_M_file 66 = .ok (.iconst 1, 1) := by decide +kernel
theorem d_M_file_67 : decode b_M_file 67 = .ok (.if_icmp .ne 12, 3) := by decide +kernel
theorem d_M_file_70 : decode b_M_file 70 = .ok (.aload_n 0, 1) := by decide +kernel
theorem d_M_file_71 : decode b_M_file 71 = .ok (.getfield 13, 3) := by decide +kernel
theorem d_M_file_74 : decode b_M_file 74 = .ok (.iload_n 1, 1) := by decide +kernel
theorem d_M_file_75 : decode b_M_file 75 = .ok (.iaload, 1) := by decide +kernel
theorem d_M_file_76 : decode b_M_file 76 = .ok (.goto 36, 3) := by decide +kernel
theorem d_M_file_79 : decode b_M_file 79 = .ok (.iload_n 2, 1) := by decide +kernel
theorem d_M_file_80 : decode b_M_file 80 = .ok (.iconst 2, 1) := by decide +kernel
theorem d_M_file_81 : decode b_M_file 81 = .ok (.if_icmp .ne 12, 3) := by decide +kernel
theorem d_M_file_84 : decode b_M_file 84 = .ok (.aload_n 0, 1) := by decide +kernel
theorem d_M_file_85 : decode b_M_file 85 = .ok (.getfield 16, 3) := by decide +kernel
theorem d_M_file_88 : decode b_M_file 88 = .ok (.iload_n 1, 1) := by decide +kernel
theorem d_M_file_89 : decode b_M_file 89 = .ok (.iaload, 1) := by decide +kernel
theorem d_M_file_90 : decode b_M_file 90 = .ok (.goto 22, 3) := by decide +kernel
theorem d_M_file_93 : decode b_M_file 93 = .ok (.aload_n 0, 1) := by decide +kernel
theorem d_M_file_94 : decode b_M_file 94 = .ok (.getfield 22, 3) := by decide +kernel
theorem d_M_file_97 : decode b_M_file 97 = .ok (.iload_n 1, 1) := by decide +kernel
theorem d_M_file_98 : decode b_M_file 98 = .ok (.baload, 1) := by decide +kernel
theorem d_M_file_99 : decode b_M_file 99 = .ok (.ifCond .eq 12, 3) := by decide +kernel
theorem d_M_file_102 : decode b_M_file 102 = .ok (.aload_n 0, 1) := by decide +kernel
theorem d_M_file_103 : decode b_M_file 103 = .ok (.getfield 26, 3) := by decide +kernel
theorem d_M_file_106 : decode b_M_file 106 = .ok (.iload_n 1, 1) := by decide +kernel
theorem d_M_file_107 : decode b_M_file 107 = .ok (.iaload, 1) := by decide +kernel
theorem d_M_file_108 : decode b_M_file 108 = .ok (.goto 4, 3) := by decide +kernel
theorem d_M_file_111 : decode b_M_file 111 = .ok (.iconst 0, 1) := by decide +kernel
theorem d_M_file_112 : decode b_M_file 112 = .ok (.ireturn, 1) := by decide +kernel
theorem d_M_liveIn_0 : decode b_M_liveIn 0 = .ok (.iconst 0, 1) := by decide +kernel
theorem d_M_liveIn_1 : decode b_M_liveIn 1 = .ok (.istore_n 2, 1) := by decide +kernel
theorem d_M_liveIn_2 : decode b_M_liveIn 2 = .ok (.iconst 0, 1) := by decide +kernel
theorem d_M_liveIn_3 : decode b_M_liveIn 3 = .ok (.istore_n 3, 1) := by decide +kernel
theorem d_M_liveIn_4 : decode b_M_liveIn 4 = .ok (.iload_n 3, 1) := by decide +kernel
theorem d_M_liveIn_5 : decode b_M_liveIn 5 = .ok (.aload_n 0, 1) := by decide +kernel
theorem d_M_liveIn_6 : decode b_M_liveIn 6 = .ok (.getfield 85, 3) := by decide +kernel
theorem d_M_liveIn_9 : decode b_M_liveIn 9 = .ok (.if_icmp .ge 49, 3) := by decide +kernel
theorem d_M_liveIn_12 : decode b_M_liveIn 12 = .ok (.aload_n 0, 1) := by decide +kernel
theorem d_M_liveIn_13 : decode b_M_liveIn 13 = .ok (.getfield 137, 3) := by decide +kernel
theorem d_M_liveIn_16 : decode b_M_liveIn 16 = .ok (.ifCond .ne 42, 3) := by decide +kernel
theorem d_M_liveIn_19 : decode b_M_liveIn 19 = .ok (.aload_n 0, 1) := by decide +kernel
theorem d_M_liveIn_20 : decode b_M_liveIn 20 = .ok (.getfield 57, 3) := by decide +kernel
theorem d_M_liveIn_23 : decode b_M_liveIn 23 = .ok (.iload_n 3, 1) := by decide +kernel
theorem d_M_liveIn_24 : decode b_M_liveIn 24 = .ok (.iaload, 1) := by decide +kernel
theorem d_M_liveIn_25 : decode b_M_liveIn 25 = .ok (.aload_n 0, 1) := by decide +kernel
theorem d_M_liveIn_26 : decode b_M_liveIn 26 = .ok (.getfield 7, 3) := by decide +kernel
theorem d_M_liveIn_29 : decode b_M_liveIn 29 = .ok (.iload_n 1, 1) := by decide +kernel
theorem d_M_liveIn_30 : decode b_M_liveIn 30 = .ok (.iaload, 1) := by decide +kernel
theorem d_M_liveIn_31 : decode b_M_liveIn 31 = .ok (.if_icmp .ne 19, 3) := by decide +kernel
theorem d_M_liveIn_34 : decode b_M_liveIn 34 = .ok (.iload_n 2, 1) := by decide +kernel
theorem d_M_liveIn_35 : decode b_M_liveIn 35 = .ok (.aload_n 0, 1) := by decide +kernel
theorem d_M_liveIn_36 : decode b_M_liveIn 36 = .ok (.iload_n 1, 1) := by decide +kernel
theorem d_M_liveIn_37 : decode b_M_liveIn 37 = .ok (.aload_n 0, 1) := by decide +kernel
theorem d_M_liveIn_38 : decode b_M_liveIn 38 = .ok (.getfield 60, 3) := by decide +kernel
theorem d_M_liveIn_41 : decode b_M_liveIn 41 = .ok (.iload_n 3, 1) := by decide +kernel
theorem d_M_liveIn_42 : decode b_M_liveIn 42 = .ok (.iaload, 1) := by decide +kernel
theorem d_M_liveIn_43 : decode b_M_liveIn 43 = .ok (.invokevirtual 166, 3) := by decide +kernel
theorem d_M_liveIn_46 : decode b_M_liveIn 46 = .ok (.iadd, 1) := by decide +kernel
theorem d_M_liveIn_47 : decode b_M_liveIn 47 = .ok (.goto 4, 3) := by decide +kernel
theorem d_M_liveIn_50 : decode b_M_liveIn 50 = .ok (.iload_n 2, 1) := by decide +kernel
theorem d_M_liveIn_51 : decode b_M_liveIn 51 = .ok (.istore_n 2, 1) := by decide +kernel
theorem d_M_liveIn_52 : decode b_M_liveIn 52 = .ok (.iinc 3 1, 3) := by decide +kernel
theorem d_M_liveIn_55 : decode b_M_liveIn 55 = .ok (.goto (-51), 3) := by decide +kernel
theorem d_M_liveIn_58 : decode b_M_liveIn 58 = .ok (.iload_n 2, 1) := by decide +kernel
theorem d_M_liveIn_59 : decode b_M_liveIn 59 = .ok (.ireturn, 1) := by decide +kernel
theorem d_M_isByte_0 : decode b_M_isByte 0 = .ok (.iload_n 1, 1) := by decide +kernel
theorem d_M_isByte_1 : decode b_M_isByte 1 = .ok (.iconst 0, 1) := by decide +kernel
theorem d_M_isByte_2 : decode b_M_isByte 2 = .ok (.aload_n 0, 1) := by decide +kernel
theorem d_M_isByte_3 : decode b_M_isByte 3 = .ok (.getfield 99, 3) := by decide +kernel
theorem d_M_isByte_6 : decode b_M_isByte 6 = .ok (.iconst 1, 1) := by decide +kernel
theorem d_M_isByte_7 : decode b_M_isByte 7 = .ok (.isub, 1) := by decide +kernel
theorem d_M_isByte_8 : decode b_M_isByte 8 = .ok (.invokestatic 133, 3) := by decide +kernel
theorem d_M_isByte_11 : decode b_M_isByte 11 = .ok (.ifCond .eq 55, 3) := by decide +kernel
theorem d_M_isByte_14 : decode b_M_isByte 14 = .ok (.iload_n 3, 1) := by decide +kernel
theorem d_M_isByte_15 : decode b_M_isByte 15 = .ok (.ifCond .eq 31, 3) := by decide +kernel
theorem d_M_isByte_18 : decode b_M_isByte 18 = .ok (.aload_n 0, 1) := by decide +kernel
theorem d_M_isByte_19 : decode b_M_isByte 19 = .ok (.getfield 22, 3) := by decide +kernel
theorem d_M_isByte_22 : decode b_M_isByte 22 = .ok (.iload_n 1, 1) := by decide +kernel
theorem d_M_isByte_23 : decode b_M_isByte 23 = .ok (.baload, 1) := by decide +kernel
theorem d_M_isByte_24 : decode b_M_isByte 24 = .ok (.ifCond .eq 42, 3) := by decide +kernel
theorem d_M_isByte_27 : decode b_M_isByte 27 = .ok (.iload_n 2, 1) := by decide +kernel
theorem d_M_isByte_28 : decode b_M_isByte 28 = .ok (.iconst 0, 1) := by decide +kernel
theorem d_M_isByte_29 : decode b_M_isByte 29 = .ok (.aload_n 0, 1) := by decide +kernel
theorem d_M_isByte_30 : decode b_M_isByte 30 = .ok (.getfield 26, 3) := by decide +kernel
theorem d_M_isByte_33 : decode b_M_isByte 33 = .ok (.iload_n 1, 1) := by decide +kernel
theorem d_M_isByte_34 : decode b_M_isByte 34 = .ok (.iaload, 1) := by decide +kernel
theorem d_M_isByte_35 : decode b_M_isByte 35 = .ok (.iconst 1, 1) := by decide +kernel
theorem d_M_isByte_36 : decode b_M_isByte 36 = .ok (.isub, 1) := by decide +kernel
theorem d_M_isByte_37 : decode b_M_isByte 37 = .ok (.invokestatic 133, 3) := by decide +kernel
theorem d_M_isByte_40 : decode b_M_isByte 40 = .ok (.ifCond .eq 26, 3) := by decide +kernel
theorem d_M_isByte_43 : decode b_M_isByte 43 = .ok (.goto 19, 3) := by decide +kernel
theorem d_M_isByte_46 : decode b_M_isByte 46 = .ok (.iload_n 2, 1) := by decide +kernel
theorem d_M_isByte_47 : decode b_M_isByte 47 = .ok (.iconst 0, 1) := by decide +kernel
theorem d_M_isByte_48 : decode b_M_isByte 48 = .ok (.aload_n 0, 1) := by decide +kernel
theorem d_M_isByte_49 : decode b_M_isByte 49 = .ok (.getfield 13, 3) := by decide +kernel
theorem d_M_isByte_52 : decode b_M_isByte 52 = .ok (.iload_n 1, 1) := by decide +kernel
theorem d_M_isByte_53 : decode b_M_isByte 53 = .ok (.iaload, 1) := by decide +kernel
theorem d_M_isByte_54 : decode b_M_isByte 54 = .ok (.iconst 1, 1) := by decide +kernel
theorem d_M_isByte_55 : decode b_M_isByte 55 = .ok (.isub, 1) := by decide +kernel
theorem d_M_isByte_56 : decode b_M_isByte 56 = .ok (.invokestatic 133, 3) := by decide +kernel
theorem d_M_isByte_59 : decode b_M_isByte 59 = .ok (.ifCond .eq 7, 3) := by decide +kernel
theorem d_M_isByte_62 : decode b_M_isByte 62 = .ok (.iconst 1, 1) := by decide +kernel
theorem d_M_isByte_63 : decode b_M_isByte 63 = .ok (.goto 4, 3) := by decide +kernel
theorem d_M_isByte_66 : decode b_M_isByte 66 = .ok (.iconst 0, 1) := by decide +kernel
theorem d_M_isByte_67 : decode b_M_isByte 67 = .ok (.ireturn, 1) := by decide +kernel
theorem d_M_octet_0 : decode b_M_octet 0 = .ok (.aload_n 0, 1) := by decide +kernel
theorem d_M_octet_1 : decode b_M_octet 1 = .ok (.aload_n 0, 1) := by decide +kernel
theorem d_M_octet_2 : decode b_M_octet 2 = .ok (.iload_n 1, 1) := by decide +kernel
theorem d_M_octet_3 : decode b_M_octet 3 = .ok (.iload_n 2, 1) := by decide +kernel
theorem d_M_octet_4 : decode b_M_octet 4 = .ok (.iload_n 3, 1) := by decide +kernel
theorem d_M_octet_5 : decode b_M_octet 5 = .ok (.invokevirtual 224, 3) := by decide +kernel
theorem d_M_octet_8 : decode b_M_octet 8 = .ok (.ifCond .eq 7, 3) := by decide +kernel
theorem d_M_octet_11 : decode b_M_octet 11 = .ok (.iconst 0, 1) := by decide +kernel
theorem d_M_octet_12 : decode b_M_octet 12 = .ok (.goto 4, 3) := by decide +kernel
theorem d_M_octet_15 : decode b_M_octet 15 = .ok (.iconst 1, 1) := by decide +kernel
theorem d_M_octet_16 : decode b_M_octet 16 = .ok (.putfield 63, 3) := by decide +kernel
theorem d_M_octet_19 : decode b_M_octet 19 = .ok (.aload_n 0, 1) := by decide +kernel
theorem d_M_octet_20 : decode b_M_octet 20 = .ok (.getfield 63, 3) := by decide +kernel
theorem d_M_octet_23 : decode b_M_octet 23 = .ok (.ifCond .le 5, 3) := by decide +kernel
theorem d_M_octet_26 : decode b_M_octet 26 = .ok (.iconst 0, 1) := by decide +kernel
theorem d_M_octet_27 : decode b_M_octet 27 = .ok (.ireturn, 1) := by decide +kernel
theorem d_M_octet_28 : decode b_M_octet 28 = .ok (.iload_n 3, 1) := by decide +kernel
theorem d_M_octet_29 : decode b_M_octet 29 = .ok (.ifCond .eq 17, 3) := by decide +kernel
theorem d_M_octet_32 : decode b_M_octet 32 = .ok (.aload_n 0, 1) := by decide +kernel
theorem d_M_octet_33 : decode b_M_octet 33 = .ok (.getfield 29, 3) := by decide +kernel
theorem d_M_octet_36 : decode b_M_octet 36 = .ok (.bipush 120, 2) := by decide +kernel
theorem d_M_octet_38 : decode b_M_octet 38 = .ok (.iload_n 1, 1) := by decide +kernel
theorem d_M_octet_39 : decode b_M_octet 39 = .ok (.imul, 1) := by decide +kernel
theorem d_M_octet_40 : decode b_M_octet 40 = .ok (.iload_n 2, 1) := by decide +kernel
theorem d_M_octet_41 : decode b_M_octet 41 = .ok (.iadd, 1) := by decide +kernel
theorem d_M_octet_42 : decode b_M_octet 42 = .ok (.iaload, 1) := by decide +kernel
theorem d_M_octet_43 : decode b_M_octet 43 = .ok (.goto 14, 3) := by decide +kernel
theorem d_M_octet_46 : decode b_M_octet 46 = .ok (.aload_n 0, 1) := by decide +kernel
theorem d_M_octet_47 : decode b_M_octet 47 = .ok (.getfield 19, 3) := by decide +kernel
theorem d_M_octet_50 : decode b_M_octet 50 = .ok (.bipush 100, 2) := by decide +kernel
theorem d_M_octet_52 : decode b_M_octet 52 = .ok (.iload_n 1, 1) := by decide +kernel
theorem d_M_octet_53 : decode b_M_octet 53 = .ok (.imul, 1) := by decide +kernel
theorem d_M_octet_54 : decode b_M_octet 54 = .ok (.iload_n 2, 1) := by decide +kernel
theorem d_M_octet_55 : decode b_M_octet 55 = .ok (.iadd, 1) := by decide +kernel
theorem d_M_octet_56 : decode b_M_octet 56 = .ok (.iaload, 1) := by decide +kernel
theorem d_M_octet_57 : decode b_M_octet 57 = .ok (.ireturn, 1) := by decide +kernel
theorem d_M_spoil_0 : decode b_M_spoil 0 = .ok (.aload_n 0, 1) := by decide +kernel
theorem d_M_spoil_1 : decode b_M_spoil 1 = .ok (.aload_n 0, 1) := by decide +kernel
theorem d_M_spoil_2 : decode b_M_spoil 2 = .ok (.iload_n 1, 1) := by decide +kernel
theorem d_M_spoil_3 : decode b_M_spoil 3 = .ok (.iload_n 2, 1) := by decide +kernel
theorem d_M_spoil_4 : decode b_M_spoil 4 = .ok (.iload_n 3, 1) := by decide +kernel
theorem d_M_spoil_5 : decode b_M_spoil 5 = .ok (.invokevirtual 224, 3) := by decide +kernel
theorem d_M_spoil_8 : decode b_M_spoil 8 = .ok (.ifCond .eq 7, 3) := by decide +kernel
theorem d_M_spoil_11 : decode b_M_spoil 11 = .ok (.iconst 0, 1) := by decide +kernel
theorem d_M_spoil_12 : decode b_M_spoil 12 = .ok (.goto 4, 3) := by decide +kernel
theorem d_M_spoil_15 : decode b_M_spoil 15 = .ok (.iconst 1, 1) := by decide +kernel
theorem d_M_spoil_16 : decode b_M_spoil 16 = .ok (.putfield 63, 3) := by decide +kernel
theorem d_M_spoil_19 : decode b_M_spoil 19 = .ok (.aload_n 0, 1) := by decide +kernel
theorem d_M_spoil_20 : decode b_M_spoil 20 = .ok (.getfield 63, 3) := by decide +kernel
theorem d_M_spoil_23 : decode b_M_spoil 23 = .ok (.ifCond .le 4, 3) := by decide +kernel
theorem d_M_spoil_26 : decode b_M_spoil 26 = .ok (.return_, 1) := by decide +kernel
theorem d_M_spoil_27 : decode b_M_spoil 27 = .ok (.iload_n 3, 1) := by decide +kernel
theorem d_M_spoil_28 : decode b_M_spoil 28 = .ok (.ifCond .eq 35, 3) := by decide +kernel
theorem d_M_spoil_31 : decode b_M_spoil 31 = .ok (.aload_n 0, 1) := by decide +kernel
theorem d_M_spoil_32 : decode b_M_spoil 32 = .ok (.getfield 29, 3) := by decide +kernel
theorem d_M_spoil_35 : decode b_M_spoil 35 = .ok (.bipush 120, 2) := by decide +kernel
theorem d_M_spoil_37 : decode b_M_spoil 37 = .ok (.iload_n 1, 1) := by decide +kernel
theorem d_M_spoil_38 : decode b_M_spoil 38 = .ok (.imul, 1) := by decide +kernel
theorem d_M_spoil_39 : decode b_M_spoil 39 = .ok (.iload_n 2, 1) := by decide +kernel
theorem d_M_spoil_40 : decode b_M_spoil 40 = .ok (.iadd, 1) := by decide +kernel
theorem d_M_spoil_41 : decode b_M_spoil 41 = .ok (.aload_n 0, 1) := by decide +kernel
theorem d_M_spoil_42 : decode b_M_spoil 42 = .ok (.getfield 29, 3) := by decide +kernel
theorem d_M_spoil_45 : decode b_M_spoil 45 = .ok (.bipush 120, 2) := by decide +kernel
theorem d_M_spoil_47 : decode b_M_spoil 47 = .ok (.iload_n 1, 1) := by decide +kernel
theorem d_M_spoil_48 : decode b_M_spoil 48 = .ok (.imul, 1) := by decide +kernel
theorem d_M_spoil_49 : decode b_M_spoil 49 = .ok (.iload_n 2, 1) := by decide +kernel
theorem d_M_spoil_50 : decode b_M_spoil 50 = .ok (.iadd, 1) := by decide +kernel
theorem d_M_spoil_51 : decode b_M_spoil 51 = .ok (.iaload, 1) := by decide +kernel
theorem d_M_spoil_52 : decode b_M_spoil 52 = .ok (.iload 4, 2) := by decide +kernel
theorem d_M_spoil_54 : decode b_M_spoil 54 = .ok (.sipush 255, 3) := by decide +kernel
theorem d_M_spoil_57 : decode b_M_spoil 57 = .ok (.iand, 1) := by decide +kernel
theorem d_M_spoil_58 : decode b_M_spoil 58 = .ok (.ixor, 1) := by decide +kernel
theorem d_M_spoil_59 : decode b_M_spoil 59 = .ok (.iastore, 1) := by decide +kernel
theorem d_M_spoil_60 : decode b_M_spoil 60 = .ok (.goto 32, 3) := by decide +kernel
theorem d_M_spoil_63 : decode b_M_spoil 63 = .ok (.aload_n 0, 1) := by decide +kernel
theorem d_M_spoil_64 : decode b_M_spoil 64 = .ok (.getfield 19, 3) := by decide +kernel
theorem d_M_spoil_67 : decode b_M_spoil 67 = .ok (.bipush 100, 2) := by decide +kernel
theorem d_M_spoil_69 : decode b_M_spoil 69 = .ok (.iload_n 1, 1) := by decide +kernel
theorem d_M_spoil_70 : decode b_M_spoil 70 = .ok (.imul, 1) := by decide +kernel
theorem d_M_spoil_71 : decode b_M_spoil 71 = .ok (.iload_n 2, 1) := by decide +kernel
theorem d_M_spoil_72 : decode b_M_spoil 72 = .ok (.iadd, 1) := by decide +kernel
theorem d_M_spoil_73 : decode b_M_spoil 73 = .ok (.aload_n 0, 1) := by decide +kernel
theorem d_M_spoil_74 : decode b_M_spoil 74 = .ok (.getfield 19, 3) := by decide +kernel
theorem d_M_spoil_77 : decode b_M_spoil 77 = .ok (.bipush 100, 2) := by decide +kernel
theorem d_M_spoil_79 : decode b_M_spoil 79 = .ok (.iload_n 1, 1) := by decide +kernel
theorem d_M_spoil_80 : decode b_M_spoil 80 = .ok (.imul, 1) := by decide +kernel
theorem d_M_spoil_81 : decode b_M_spoil 81 = .ok (.iload_n 2, 1) := by decide +kernel
theorem d_M_spoil_82 : decode b_M_spoil 82 = .ok (.iadd, 1) := by decide +kernel
theorem d_M_spoil_83 : decode b_M_spoil 83 = .ok (.iaload, 1) := by decide +kernel
theorem d_M_spoil_84 : decode b_M_spoil 84 = .ok (.iload 4, 2) := by decide +kernel
theorem d_M_spoil_86 : decode b_M_spoil 86 = .ok (.sipush 255, 3) := by decide +kernel
theorem d_M_spoil_89 : decode b_M_spoil 89 = .ok (.iand, 1) := by decide +kernel
theorem d_M_spoil_90 : decode b_M_spoil 90 = .ok (.ixor, 1) := by decide +kernel
theorem d_M_spoil_91 : decode b_M_spoil 91 = .ok (.iastore, 1) := by decide +kernel
theorem d_M_spoil_92 : decode b_M_spoil 92 = .ok (.return_, 1) := by decide +kernel
