theorem dX0_init_0 : decode cX0_init 0 = .ok (.aload_n 0, 1) := by decide +kernel
theorem dX0_init_1 : decode cX0_init 1 = .ok (.invokespecial 3, 3) := by decide +kernel
theorem dX0_init_4 : decode cX0_init 4 = .ok (.aload_n 0, 1) := by decide +kernel
theorem dX0_init_5 : decode cX0_init 5 = .ok (.bipush 36, 2) := by decide +kernel
theorem dX0_init_7 : decode cX0_init 7 = .ok (.newarray .int, 2) := by decide +kernel
theorem dX0_init_9 : decode cX0_init 9 = .ok (.putfield 9, 3) := by decide +kernel
theorem dX0_init_12 : decode cX0_init 12 = .ok (.aload_n 0, 1) := by decide +kernel
theorem dX0_init_13 : decode cX0_init 13 = .ok (.invokevirtual 15, 3) := by decide +kernel
theorem dX0_init_16 : decode cX0_init 16 = .ok (.return_, 1) := by decide +kernel
theorem dX0_clear_0 : decode cX0_clear 0 = .ok (.aload_n 0, 1) := by decide +kernel
theorem dX0_clear_1 : decode cX0_clear 1 = .ok (.iconst 1, 1) := by decide +kernel
theorem dX0_clear_2 : decode cX0_clear 2 = .ok (.putfield 18, 3) := by decide +kernel
theorem dX0_clear_5 : decode cX0_clear 5 = .ok (.iconst 0, 1) := by decide +kernel
theorem dX0_clear_6 : decode cX0_clear 6 = .ok (.istore_n 1, 1) := by decide +kernel
theorem dX0_clear_7 : decode cX0_clear 7 = .ok (.iload_n 1, 1) := by decide +kernel
theorem dX0_clear_8 : decode cX0_clear 8 = .ok (.bipush 36, 2) := by decide +kernel
theorem dX0_clear_10 : decode cX0_clear 10 = .ok (.if_icmp .ge 32, 3) := by decide +kernel
theorem dX0_clear_13 : decode cX0_clear 13 = .ok (.aload_n 0, 1) := by decide +kernel
theorem dX0_clear_14 : decode cX0_clear 14 = .ok (.getfield 9, 3) := by decide +kernel
theorem dX0_clear_17 : decode cX0_clear 17 = .ok (.iload_n 1, 1) := by decide +kernel
theorem dX0_clear_18 : decode cX0_clear 18 = .ok (.iload_n 1, 1) := by decide +kernel
theorem dX0_clear_19 : decode cX0_clear 19 = .ok (.bipush 6, 2) := by decide +kernel
theorem dX0_clear_21 : decode cX0_clear 21 = .ok (.idiv, 1) := by decide +kernel
theorem dX0_clear_22 : decode cX0_clear 22 = .ok (.iload_n 1, 1) := by decide +kernel
theorem dX0_clear_23 : decode cX0_clear 23 = .ok (.bipush 6, 2) := by decide +kernel
theorem dX0_clear_25 : decode cX0_clear 25 = .ok (.irem, 1) := by decide +kernel
theorem dX0_clear_26 : decode cX0_clear 26 = .ok (.if_icmp .ne 7, 3) := by decide +kernel
theorem dX0_clear_29 : decode cX0_clear 29 = .ok (.iconst 0, 1) := by decide +kernel
theorem dX0_clear_30 : decode cX0_clear 30 = .ok (.goto 5, 3) := by decide +kernel
theorem dX0_clear_33 : decode cX0_clear 33 = .ok (.ldc 22, 2) := by decide +kernel
theorem dX0_clear_35 : decode cX0_clear 35 = .ok (.iastore, 1) := by decide +kernel
theorem dX0_clear_36 : decode cX0_clear 36 = .ok (.iinc 1 1, 3) := by decide +kernel
theorem dX0_clear_39 : decode cX0_clear 39 = .ok (.goto (-32), 3) := by decide +kernel
theorem dX0_clear_42 : decode cX0_clear 42 = .ok (.return_, 1) := by decide +kernel
theorem dX0_copyFrom_0 : decode cX0_copyFrom 0 = .ok (.aload_n 0, 1) := by decide +kernel
theorem dX0_copyFrom_1 : decode cX0_copyFrom 1 = .ok (.aload_n 1, 1) := by decide +kernel
theorem dX0_copyFrom_2 : decode cX0_copyFrom 2 = .ok (.getfield 18, 3) := by decide +kernel
theorem dX0_copyFrom_5 : decode cX0_copyFrom 5 = .ok (.putfield 18, 3) := by decide +kernel
theorem dX0_copyFrom_8 : decode cX0_copyFrom 8 = .ok (.aload_n 1, 1) := by decide +kernel
theorem dX0_copyFrom_9 : decode cX0_copyFrom 9 = .ok (.getfield 9, 3) := by decide +kernel
theorem dX0_copyFrom_12 : decode cX0_copyFrom 12 = .ok (.iconst 0, 1) := by decide +kernel
theorem dX0_copyFrom_13 : decode cX0_copyFrom 13 = .ok (.aload_n 0, 1) := by decide +kernel
theorem dX0_copyFrom_14 : decode cX0_copyFrom 14 = .ok (.getfield 9, 3) := by decide +kernel
theorem dX0_copyFrom_17 : decode cX0_copyFrom 17 = .ok (.iconst 0, 1) := by decide +kernel
theorem dX0_copyFrom_18 : decode cX0_copyFrom 18 = .ok (.bipush 36, 2) := by decide +kernel
theorem dX0_copyFrom_20 : decode cX0_copyFrom 20 = .ok (.invokestatic 23, 3) := by decide +kernel
theorem dX0_copyFrom_23 : decode cX0_copyFrom 23 = .ok (.return_, 1) := by decide +kernel
theorem dX0_leastOf_0 : decode cX0_leastOf 0 = .ok (.aload_n 0, 1) := by decide +kernel
theorem dX0_leastOf_1 : decode cX0_leastOf 1 = .ok (.getfield 9, 3) := by decide +kernel
theorem dX0_leastOf_4 : decode cX0_leastOf 4 = .ok (.iload_n 1, 1) := by decide +kernel
theorem dX0_leastOf_5 : decode cX0_leastOf 5 = .ok (.bipush 6, 2) := by decide +kernel
theorem dX0_leastOf_7 : decode cX0_leastOf 7 = .ok (.imul, 1) := by decide +kernel
theorem dX0_leastOf_8 : decode cX0_leastOf 8 = .ok (.iload_n 2, 1) := by decide +kernel
theorem dX0_leastOf_9 : decode cX0_leastOf 9 = .ok (.iadd, 1) := by decide +kernel
theorem dX0_leastOf_10 : decode cX0_leastOf 10 = .ok (.iaload, 1) := by decide +kernel
theorem dX0_leastOf_11 : decode cX0_leastOf 11 = .ok (.ireturn, 1) := by decide +kernel
theorem dX0_add_0 : decode cX0_add 0 = .ok (.aload_n 0, 1) := by decide +kernel
theorem dX0_add_1 : decode cX0_add 1 = .ok (.getfield 18, 3) := by decide +kernel
theorem dX0_add_4 : decode cX0_add 4 = .ok (.ifCond .eq 18, 3) := by decide +kernel
theorem dX0_add_7 : decode cX0_add 7 = .ok (.iload_n 3, 1) := by decide +kernel
theorem dX0_add_8 : decode cX0_add 8 = .ok (.aload_n 0, 1) := by decide +kernel
theorem dX0_add_9 : decode cX0_add 9 = .ok (.getfield 9, 3) := by decide +kernel
theorem dX0_add_12 : decode cX0_add 12 = .ok (.iload_n 1, 1) := by decide +kernel
theorem dX0_add_13 : decode cX0_add 13 = .ok (.bipush 6, 2) := by decide +kernel
theorem dX0_add_15 : decode cX0_add 15 = .ok (.imul, 1) := by decide +kernel
theorem dX0_add_16 : decode cX0_add 16 = .ok (.iload_n 2, 1) := by decide +kernel
theorem dX0_add_17 : decode cX0_add 17 = .ok (.iadd, 1) := by decide +kernel
theorem dX0_add_18 : decode cX0_add 18 = .ok (.iaload, 1) := by decide +kernel
theorem dX0_add_19 : decode cX0_add 19 = .ok (.if_icmp .lt 4, 3) := by decide +kernel
theorem dX0_add_22 : decode cX0_add 22 = .ok (.return_, 1) := by decide +kernel
theorem dX0_add_23 : decode cX0_add 23 = .ok (.aload_n 0, 1) := by decide +kernel
theorem dX0_add_24 : decode cX0_add 24 = .ok (.getfield 9, 3) := by decide +kernel
theorem dX0_add_27 : decode cX0_add 27 = .ok (.iload_n 2, 1) := by decide +kernel
theorem dX0_add_28 : decode cX0_add 28 = .ok (.bipush 6, 2) := by decide +kernel
theorem dX0_add_30 : decode cX0_add 30 = .ok (.imul, 1) := by decide +kernel
theorem dX0_add_31 : decode cX0_add 31 = .ok (.iload_n 1, 1) := by decide +kernel
theorem dX0_add_32 : decode cX0_add 32 = .ok (.iadd, 1) := by decide +kernel
theorem dX0_add_33 : decode cX0_add 33 = .ok (.iaload, 1) := by decide +kernel
theorem dX0_add_34 : decode cX0_add 34 = .ok (.istore 4, 2) := by decide +kernel
theorem dX0_add_36 : decode cX0_add 36 = .ok (.iload 4, 2) := by decide +kernel
theorem dX0_add_38 : decode cX0_add 38 = .ok (.ldc 22, 2) := by decide +kernel
theorem dX0_add_40 : decode cX0_add 40 = .ok (.if_icmp .eq 16, 3) := by decide +kernel
theorem dX0_add_43 : decode cX0_add 43 = .ok (.iload 4, 2) := by decide +kernel
theorem dX0_add_45 : decode cX0_add 45 = .ok (.iload_n 3, 1) := by decide +kernel
theorem dX0_add_46 : decode cX0_add 46 = .ok (.iadd, 1) := by decide +kernel
theorem dX0_add_47 : decode cX0_add 47 = .ok (.ifCond .ge 9, 3) := by decide +kernel
theorem dX0_add_50 : decode cX0_add 50 = .ok (.aload_n 0, 1) := by decide +kernel
theorem dX0_add_51 : decode cX0_add 51 = .ok (.iconst 0, 1) := by decide +kernel
theorem dX0_add_52 : decode cX0_add 52 = .ok (.putfield 18, 3) := by decide +kernel
theorem dX0_add_55 : decode cX0_add 55 = .ok (.return_, 1) := by decide +kernel
theorem dX0_add_56 : decode cX0_add 56 = .ok (.iconst 0, 1) := by decide +kernel
theorem dX0_add_57 : decode cX0_add 57 = .ok (.istore 5, 2) := by decide +kernel
theorem dX0_add_59 : decode cX0_add 59 = .ok (.iload 5, 2) := by decide +kernel
theorem dX0_add_61 : decode cX0_add 61 = .ok (.bipush 36, 2) := by decide +kernel
theorem dX0_add_63 : decode cX0_add 63 = .ok (.if_icmp .ge 101, 3) := by decide +kernel
theorem dX0_add_66 : decode cX0_add 66 = .ok (.aload_n 0, 1) := by decide +kernel
theorem dX0_add_67 : decode cX0_add 67 = .ok (.getfield 9, 3) := by decide +kernel
theorem dX0_add_70 : decode cX0_add 70 = .ok (.iload 5, 2) := by decide +kernel
theorem dX0_add_72 : decode cX0_add 72 = .ok (.iload_n 1, 1) := by decide +kernel
theorem dX0_add_73 : decode cX0_add 73 = .ok (.iadd, 1) := by decide +kernel
theorem dX0_add_74 : decode cX0_add 74 = .ok (.iaload, 1) := by decide +kernel
theorem dX0_add_75 : decode cX0_add 75 = .ok (.istore 6, 2) := by decide +kernel
theorem dX0_add_77 : decode cX0_add 77 = .ok (.iconst 0, 1) := by decide +kernel
theorem dX0_add_78 : decode cX0_add 78 = .ok (.istore 7, 2) := by decide +kernel
theorem dX0_add_80 : decode cX0_add 80 = .ok (.iload 7, 2) := by decide +kernel
theorem dX0_add_82 : decode cX0_add 82 = .ok (.bipush 6, 2) := by decide +kernel
theorem dX0_add_84 : decode cX0_add 84 = .ok (.if_icmp .ge 74, 3) := by decide +kernel
theorem dX0_add_87 : decode cX0_add 87 = .ok (.iload 6, 2) := by decide +kernel
theorem dX0_add_89 : decode cX0_add 89 = .ok (.ldc 22, 2) := by decide +kernel
theorem dX0_add_91 : decode cX0_add 91 = .ok (.if_icmp .eq 67, 3) := by decide +kernel
theorem dX0_add_94 : decode cX0_add 94 = .ok (.aload_n 0, 1) := by decide +kernel
theorem dX0_add_95 : decode cX0_add 95 = .ok (.getfield 9, 3) := by decide +kernel
theorem dX0_add_98 : decode cX0_add 98 = .ok (.iload_n 2, 1) := by decide +kernel
theorem dX0_add_99 : decode cX0_add 99 = .ok (.bipush 6, 2) := by decide +kernel
theorem dX0_add_101 : decode cX0_add 101 = .ok (.imul, 1) := by decide +kernel
theorem dX0_add_102 : decode cX0_add 102 = .ok (.iload 7, 2) := by decide +kernel
theorem dX0_add_104 : decode cX0_add 104 = .ok (.iadd, 1) := by decide +kernel
theorem dX0_add_105 : decode cX0_add 105 = .ok (.iaload, 1) := by decide +kernel
theorem dX0_add_106 : decode cX0_add 106 = .ok (.istore 8, 2) := by decide +kernel
theorem dX0_add_108 : decode cX0_add 108 = .ok (.iload 8, 2) := by decide +kernel
theorem dX0_add_110 : decode cX0_add 110 = .ok (.ldc 22, 2) := by decide +kernel
theorem dX0_add_112 : decode cX0_add 112 = .ok (.if_icmp .eq 40, 3) := by decide +kernel
theorem dX0_add_115 : decode cX0_add 115 = .ok (.iload 6, 2) := by decide +kernel
theorem dX0_add_117 : decode cX0_add 117 = .ok (.iload_n 3, 1) := by decide +kernel
theorem dX0_add_118 : decode cX0_add 118 = .ok (.iadd, 1) := by decide +kernel
theorem dX0_add_119 : decode cX0_add 119 = .ok (.iload 8, 2) := by decide +kernel
theorem dX0_add_121 : decode cX0_add 121 = .ok (.iadd, 1) := by decide +kernel
theorem dX0_add_122 : decode cX0_add 122 = .ok (.aload_n 0, 1) := by decide +kernel
theorem dX0_add_123 : decode cX0_add 123 = .ok (.getfield 9, 3) := by decide +kernel
theorem dX0_add_126 : decode cX0_add 126 = .ok (.iload 5, 2) := by decide +kernel
theorem dX0_add_128 : decode cX0_add 128 = .ok (.iload 7, 2) := by decide +kernel
theorem dX0_add_130 : decode cX0_add 130 = .ok (.iadd, 1) := by decide +kernel
theorem dX0_add_131 : decode cX0_add 131 = .ok (.iaload, 1) := by decide +kernel
theorem dX0_add_132 : decode cX0_add 132 = .ok (.if_icmp .ge 20, 3) := by decide +kernel
theorem dX0_add_135 : decode cX0_add 135 = .ok (.aload_n 0, 1) := by decide +kernel
theorem dX0_add_136 : decode cX0_add 136 = .ok (.getfield 9, 3) := by decide +kernel
theorem dX0_add_139 : decode cX0_add 139 = .ok (.iload 5, 2) := by decide +kernel
theorem dX0_add_141 : decode cX0_add 141 = .ok (.iload 7, 2) := by decide +kernel
theorem dX0_add_143 : decode cX0_add 143 = .ok (.iadd, 1) := by decide +kernel
theorem dX0_add_144 : decode cX0_add 144 = .ok (.iload 6, 2) := by decide +kernel
theorem dX0_add_146 : decode cX0_add 146 = .ok (.iload_n 3, 1) := by decide +kernel
theorem dX0_add_147 : decode cX0_add 147 = .ok (.iadd, 1) := by decide +kernel
theorem dX0_add_148 : decode cX0_add 148 = .ok (.iload 8, 2) := by decide +kernel
theorem dX0_add_150 : decode cX0_add 150 = .ok (.iadd, 1) := by decide +kernel
theorem dX0_add_151 : decode cX0_add 151 = .ok (.iastore, 1) := by decide +kernel
theorem dX0_add_152 : decode cX0_add 152 = .ok (.iinc 7 1, 3) := by decide +kernel
theorem dX0_add_155 : decode cX0_add 155 = .ok (.goto (-75), 3) := by decide +kernel
theorem dX0_add_158 : decode cX0_add 158 = .ok (.iinc 5 6, 3) := by decide +kernel
theorem dX0_add_161 : decode cX0_add 161 = .ok (.goto (-102), 3) := by decide +kernel
theorem dX0_add_164 : decode cX0_add 164 = .ok (.return_, 1) := by decide +kernel
theorem dX1_init_0 : decode cX1_init 0 = .ok (.aload_n 0, 1) := by decide +kernel
theorem dX1_init_1 : decode cX1_init 1 = .ok (.invokespecial 3, 3) := by decide +kernel
theorem dX1_init_4 : decode cX1_init 4 = .ok (.aload_n 0, 1) := by decide +kernel
theorem dX1_init_5 : decode cX1_init 5 = .ok (.new 9, 3) := by decide +kernel
theorem dX1_init_8 : decode cX1_init 8 = .ok (.dup, 1) := by decide +kernel
theorem dX1_init_9 : decode cX1_init 9 = .ok (.invokespecial 11, 3) := by decide +kernel
theorem dX1_init_12 : decode cX1_init 12 = .ok (.putfield 12, 3) := by decide +kernel
theorem dX1_init_15 : decode cX1_init 15 = .ok (.aload_n 0, 1) := by decide +kernel
theorem dX1_init_16 : decode cX1_init 16 = .ok (.iconst 2, 1) := by decide +kernel
theorem dX1_init_17 : decode cX1_init 17 = .ok (.anewarray 9, 3) := by decide +kernel
theorem dX1_init_20 : decode cX1_init 20 = .ok (.putfield 18, 3) := by decide +kernel
theorem dX1_init_23 : decode cX1_init 23 = .ok (.aload_n 0, 1) := by decide +kernel
theorem dX1_init_24 : decode cX1_init 24 = .ok (.new 22, 3) := by decide +kernel
theorem dX1_init_27 : decode cX1_init 27 = .ok (.dup, 1) := by decide +kernel
theorem dX1_init_28 : decode cX1_init 28 = .ok (.invokespecial 24, 3) := by decide +kernel
theorem dX1_init_31 : decode cX1_init 31 = .ok (.putfield 25, 3) := by decide +kernel
theorem dX1_init_34 : decode cX1_init 34 = .ok (.iconst 0, 1) := by decide +kernel
theorem dX1_init_35 : decode cX1_init 35 = .ok (.istore_n 1, 1) := by decide +kernel
theorem dX1_init_36 : decode cX1_init 36 = .ok (.iload_n 1, 1) := by decide +kernel
theorem dX1_init_37 : decode cX1_init 37 = .ok (.iconst 2, 1) := by decide +kernel
theorem dX1_init_38 : decode cX1_init 38 = .ok (.if_icmp .ge 22, 3) := by decide +kernel
theorem dX1_init_41 : decode cX1_init 41 = .ok (.aload_n 0, 1) := by decide +kernel
theorem dX1_init_42 : decode cX1_init 42 = .ok (.getfield 18, 3) := by decide +kernel
theorem dX1_init_45 : decode cX1_init 45 = .ok (.iload_n 1, 1) := by decide +kernel
theorem dX1_init_46 : decode cX1_init 46 = .ok (.new 9, 3) := by decide +kernel
theorem dX1_init_49 : decode cX1_init 49 = .ok (.dup, 1) := by decide +kernel
theorem dX1_init_50 : decode cX1_init 50 = .ok (.invokespecial 11, 3) := by decide +kernel
theorem dX1_init_53 : decode cX1_init 53 = .ok (.aastore, 1) := by decide +kernel
theorem dX1_init_54 : decode cX1_init 54 = .ok (.iinc 1 1, 3) := by decide +kernel
theorem dX1_init_57 : decode cX1_init 57 = .ok (.goto (-21), 3) := by decide +kernel
theorem dX1_init_60 : decode cX1_init 60 = .ok (.return_, 1) := by decide +kernel
theorem dX1_premise_0 : decode cX1_premise 0 = .ok (.iload_n 1, 1) := by decide +kernel
theorem dX1_premise_1 : decode cX1_premise 1 = .ok (.aload_n 0, 1) := by decide +kernel
theorem dX1_premise_2 : decode cX1_premise 2 = .ok (.getfield 29, 3) := by decide +kernel
theorem dX1_premise_5 : decode cX1_premise 5 = .ok (.if_icmp .lt 5, 3) := by decide +kernel
theorem dX1_premise_8 : decode cX1_premise 8 = .ok (.iconst (-1), 1) := by decide +kernel
theorem dX1_premise_9 : decode cX1_premise 9 = .ok (.ireturn, 1) := by decide +kernel
theorem dX1_premise_10 : decode cX1_premise 10 = .ok (.iload_n 1, 1) := by decide +kernel
theorem dX1_premise_11 : decode cX1_premise 11 = .ok (.ifCond .ne 10, 3) := by decide +kernel
theorem dX1_premise_14 : decode cX1_premise 14 = .ok (.iload_n 2, 1) := by decide +kernel
theorem dX1_premise_15 : decode cX1_premise 15 = .ok (.bipush 16, 2) := by decide +kernel
theorem dX1_premise_17 : decode cX1_premise 17 = .ok (.idiv, 1) := by decide +kernel
theorem dX1_premise_18 : decode cX1_premise 18 = .ok (.goto 7, 3) := by decide +kernel
theorem dX1_premise_21 : decode cX1_premise 21 = .ok (.iload_n 2, 1) := by decide +kernel
theorem dX1_premise_22 : decode cX1_premise 22 = .ok (.bipush 16, 2) := by decide +kernel
theorem dX1_premise_24 : decode cX1_premise 24 = .ok (.irem, 1) := by decide +kernel
theorem dX1_premise_25 : decode cX1_premise 25 = .ok (.ireturn, 1) := by decide +kernel
theorem dX2_init_0 : decode cX2_init 0 = .ok (.aload_n 0, 1) := by decide +kernel
theorem dX2_init_1 : decode cX2_init 1 = .ok (.invokespecial 1, 3) := by decide +kernel
theorem dX2_init_4 : decode cX2_init 4 = .ok (.return_, 1) := by decide +kernel
theorem dX2_point_0 : decode cX2_point 0 = .ok (.iload_n 1, 1) := by decide +kernel
theorem dX2_point_1 : decode cX2_point 1 = .ok (.aload_n 0, 1) := by decide +kernel
theorem dX2_point_2 : decode cX2_point 2 = .ok (.getfield 7, 3) := by decide +kernel
theorem dX2_point_5 : decode cX2_point 5 = .ok (.aload_n 0, 1) := by decide +kernel
theorem dX2_point_6 : decode cX2_point 6 = .ok (.getfield 13, 3) := by decide +kernel
theorem dX2_point_9 : decode cX2_point 9 = .ok (.invokestatic 16, 3) := by decide +kernel
theorem dX2_point_12 : decode cX2_point 12 = .ok (.ireturn, 1) := by decide +kernel
theorem dX3_init_0 : decode cX3_init 0 = .ok (.aload_n 0, 1) := by decide +kernel
theorem dX3_init_1 : decode cX3_init 1 = .ok (.invokespecial 1, 3) := by decide +kernel
theorem dX3_init_4 : decode cX3_init 4 = .ok (.aload_n 0, 1) := by decide +kernel
theorem dX3_init_5 : decode cX3_init 5 = .ok (.new 7, 3) := by decide +kernel
theorem dX3_init_8 : decode cX3_init 8 = .ok (.dup, 1) := by decide +kernel
theorem dX3_init_9 : decode cX3_init 9 = .ok (.invokespecial 9, 3) := by decide +kernel
theorem dX3_init_12 : decode cX3_init 12 = .ok (.putfield 10, 3) := by decide +kernel
theorem dX3_init_15 : decode cX3_init 15 = .ok (.return_, 1) := by decide +kernel
theorem dX3_fill_0 : decode cX3_fill 0 = .ok (.aload_n 0, 1) := by decide +kernel
theorem dX3_fill_1 : decode cX3_fill 1 = .ok (.iload_n 1, 1) := by decide +kernel
theorem dX3_fill_2 : decode cX3_fill 2 = .ok (.putfield 16, 3) := by decide +kernel
theorem dX3_fill_5 : decode cX3_fill 5 = .ok (.aload_n 0, 1) := by decide +kernel
theorem dX3_fill_6 : decode cX3_fill 6 = .ok (.iload_n 2, 1) := by decide +kernel
theorem dX3_fill_7 : decode cX3_fill 7 = .ok (.putfield 20, 3) := by decide +kernel
theorem dX3_fill_10 : decode cX3_fill 10 = .ok (.aload_n 0, 1) := by decide +kernel
theorem dX3_fill_11 : decode cX3_fill 11 = .ok (.iload_n 3, 1) := by decide +kernel
theorem dX3_fill_12 : decode cX3_fill 12 = .ok (.putfield 23, 3) := by decide +kernel
theorem dX3_fill_15 : decode cX3_fill 15 = .ok (.aload_n 0, 1) := by decide +kernel
theorem dX3_fill_16 : decode cX3_fill 16 = .ok (.iload 4, 2) := by decide +kernel
theorem dX3_fill_18 : decode cX3_fill 18 = .ok (.putfield 26, 3) := by decide +kernel
theorem dX3_fill_21 : decode cX3_fill 21 = .ok (.return_, 1) := by decide +kernel
theorem dX4_init_0 : decode cX4_init 0 = .ok (.aload_n 0, 1) := by decide +kernel
theorem dX4_init_1 : decode cX4_init 1 = .ok (.invokespecial 3, 3) := by decide +kernel
theorem dX4_init_4 : decode cX4_init 4 = .ok (.aload_n 0, 1) := by decide +kernel
theorem dX4_init_5 : decode cX4_init 5 = .ok (.iconst 4, 1) := by decide +kernel
theorem dX4_init_6 : decode cX4_init 6 = .ok (.newarray .int, 2) := by decide +kernel
theorem dX4_init_8 : decode cX4_init 8 = .ok (.putfield 9, 3) := by decide +kernel
theorem dX4_init_11 : decode cX4_init 11 = .ok (.aload_n 0, 1) := by decide +kernel
theorem dX4_init_12 : decode cX4_init 12 = .ok (.iconst 4, 1) := by decide +kernel
theorem dX4_init_13 : decode cX4_init 13 = .ok (.newarray .int, 2) := by decide +kernel
theorem dX4_init_15 : decode cX4_init 15 = .ok (.putfield 15, 3) := by decide +kernel
theorem dX4_init_18 : decode cX4_init 18 = .ok (.aload_n 0, 1) := by decide +kernel
theorem dX4_init_19 : decode cX4_init 19 = .ok (.iconst 4, 1) := by decide +kernel
theorem dX4_init_20 : decode cX4_init 20 = .ok (.newarray .int, 2) := by decide +kernel
theorem dX4_init_22 : decode cX4_init 22 = .ok (.putfield 18, 3) := by decide +kernel
theorem dX4_init_25 : decode cX4_init 25 = .ok (.aload_n 0, 1) := by decide +kernel
theorem dX4_init_26 : decode cX4_init 26 = .ok (.bipush 16, 2) := by decide +kernel
theorem dX4_init_28 : decode cX4_init 28 = .ok (.newarray .int, 2) := by decide +kernel
theorem dX4_init_30 : decode cX4_init 30 = .ok (.putfield 21, 3) := by decide +kernel
theorem dX4_init_33 : decode cX4_init 33 = .ok (.aload_n 0, 1) := by decide +kernel
theorem dX4_init_34 : decode cX4_init 34 = .ok (.bipush 16, 2) := by decide +kernel
theorem dX4_init_36 : decode cX4_init 36 = .ok (.newarray .int, 2) := by decide +kernel
theorem dX4_init_38 : decode cX4_init 38 = .ok (.putfield 24, 3) := by decide +kernel
theorem dX4_init_41 : decode cX4_init 41 = .ok (.aload_n 0, 1) := by decide +kernel
theorem dX4_init_42 : decode cX4_init 42 = .ok (.bipush 16, 2) := by decide +kernel
theorem dX4_init_44 : decode cX4_init 44 = .ok (.newarray .int, 2) := by decide +kernel
theorem dX4_init_46 : decode cX4_init 46 = .ok (.putfield 27, 3) := by decide +kernel
theorem dX4_init_49 : decode cX4_init 49 = .ok (.aload_n 0, 1) := by decide +kernel
theorem dX4_init_50 : decode cX4_init 50 = .ok (.bipush 16, 2) := by decide +kernel
theorem dX4_init_52 : decode cX4_init 52 = .ok (.newarray .int, 2) := by decide +kernel
theorem dX4_init_54 : decode cX4_init 54 = .ok (.putfield 30, 3) := by decide +kernel
theorem dX4_init_57 : decode cX4_init 57 = .ok (.return_, 1) := by decide +kernel
theorem dX4_cubes_0 : decode cX4_cubes 0 = .ok (.iconst 1, 1) := by decide +kernel
theorem dX4_cubes_1 : decode cX4_cubes 1 = .ok (.aload_n 0, 1) := by decide +kernel
theorem dX4_cubes_2 : decode cX4_cubes 2 = .ok (.getfield 33, 3) := by decide +kernel
theorem dX4_cubes_5 : decode cX4_cubes 5 = .ok (.ishl, 1) := by decide +kernel
theorem dX4_cubes_6 : decode cX4_cubes 6 = .ok (.ireturn, 1) := by decide +kernel
theorem dX4_areTwoCorners_0 : decode cX4_areTwoCorners 0 = .ok (.aload_n 0, 1) := by decide +kernel
theorem dX4_areTwoCorners_1 : decode cX4_areTwoCorners 1 = .ok (.iload_n 1, 1) := by decide +kernel
theorem dX4_areTwoCorners_2 : decode cX4_areTwoCorners 2 = .ok (.invokevirtual 37, 3) := by decide +kernel
theorem dX4_areTwoCorners_5 : decode cX4_areTwoCorners 5 = .ok (.ifCond .eq 20, 3) := by decide +kernel
theorem dX4_areTwoCorners_8 : decode cX4_areTwoCorners 8 = .ok (.aload_n 0, 1) := by decide +kernel
theorem dX4_areTwoCorners_9 : decode cX4_areTwoCorners 9 = .ok (.iload_n 2, 1) := by decide +kernel
theorem dX4_areTwoCorners_10 : decode cX4_areTwoCorners 10 = .ok (.invokevirtual 37, 3) := by decide +kernel
theorem dX4_areTwoCorners_13 : decode cX4_areTwoCorners 13 = .ok (.ifCond .eq 12, 3) := by decide +kernel
theorem dX4_areTwoCorners_16 : decode cX4_areTwoCorners 16 = .ok (.iload_n 1, 1) := by decide +kernel
theorem dX4_areTwoCorners_17 : decode cX4_areTwoCorners 17 = .ok (.iload_n 2, 1) := by decide +kernel
theorem dX4_areTwoCorners_18 : decode cX4_areTwoCorners 18 = .ok (.if_icmp .eq 7, 3) := by decide +kernel
theorem dX4_areTwoCorners_21 : decode cX4_areTwoCorners 21 = .ok (.iconst 1, 1) := by decide +kernel
theorem dX4_areTwoCorners_22 : decode cX4_areTwoCorners 22 = .ok (.goto 4, 3) := by decide +kernel
theorem dX4_areTwoCorners_25 : decode cX4_areTwoCorners 25 = .ok (.iconst 0, 1) := by decide +kernel
theorem dX4_areTwoCorners_26 : decode cX4_areTwoCorners 26 = .ok (.ireturn, 1) := by decide +kernel
theorem dX4_isCorner_0 : decode cX4_isCorner 0 = .ok (.iload_n 1, 1) := by decide +kernel
theorem dX4_isCorner_1 : decode cX4_isCorner 1 = .ok (.iconst 2, 1) := by decide +kernel
theorem dX4_isCorner_2 : decode cX4_isCorner 2 = .ok (.if_icmp .eq 15, 3) := by decide +kernel
theorem dX4_isCorner_5 : decode cX4_isCorner 5 = .ok (.iload_n 1, 1) := by decide +kernel
theorem dX4_isCorner_6 : decode cX4_isCorner 6 = .ok (.ifCond .lt 15, 3) := by decide +kernel
theorem dX4_isCorner_9 : decode cX4_isCorner 9 = .ok (.iload_n 1, 1) := by decide +kernel
theorem dX4_isCorner_10 : decode cX4_isCorner 10 = .ok (.aload_n 0, 1) := by decide +kernel
theorem dX4_isCorner_11 : decode cX4_isCorner 11 = .ok (.getfield 41, 3) := by decide +kernel
theorem dX4_isCorner_14 : decode cX4_isCorner 14 = .ok (.if_icmp .ge 7, 3) := by decide +kernel
theorem dX4_isCorner_17 : decode cX4_isCorner 17 = .ok (.iconst 1, 1) := by decide +kernel
theorem dX4_isCorner_18 : decode cX4_isCorner 18 = .ok (.goto 4, 3) := by decide +kernel
theorem dX4_isCorner_21 : decode cX4_isCorner 21 = .ok (.iconst 0, 1) := by decide +kernel
theorem dX4_isCorner_22 : decode cX4_isCorner 22 = .ok (.ireturn, 1) := by decide +kernel
theorem dX4_canMark_0 : decode cX4_canMark 0 = .ok (.aload_n 0, 1) := by decide +kernel
theorem dX4_canMark_1 : decode cX4_canMark 1 = .ok (.iload_n 1, 1) := by decide +kernel
theorem dX4_canMark_2 : decode cX4_canMark 2 = .ok (.iload_n 2, 1) := by decide +kernel
theorem dX4_canMark_3 : decode cX4_canMark 3 = .ok (.invokevirtual 44, 3) := by decide +kernel
theorem dX4_canMark_6 : decode cX4_canMark 6 = .ok (.ifCond .eq 14, 3) := by decide +kernel
theorem dX4_canMark_9 : decode cX4_canMark 9 = .ok (.iload_n 3, 1) := by decide +kernel
theorem dX4_canMark_10 : decode cX4_canMark 10 = .ok (.invokestatic 48, 3) := by decide +kernel
theorem dX4_canMark_13 : decode cX4_canMark 13 = .ok (.ifCond .eq 7, 3) := by decide +kernel
theorem dX4_canMark_16 : decode cX4_canMark 16 = .ok (.iconst 1, 1) := by decide +kernel
theorem dX4_canMark_17 : decode cX4_canMark 17 = .ok (.goto 4, 3) := by decide +kernel
theorem dX4_canMark_20 : decode cX4_canMark 20 = .ok (.iconst 0, 1) := by decide +kernel
theorem dX4_canMark_21 : decode cX4_canMark 21 = .ok (.ireturn, 1) := by decide +kernel
theorem dX4_hasMark_0 : decode cX4_hasMark 0 = .ok (.iconst 0, 1) := by decide +kernel
theorem dX4_hasMark_1 : decode cX4_hasMark 1 = .ok (.istore 4, 2) := by decide +kernel
theorem dX4_hasMark_3 : decode cX4_hasMark 3 = .ok (.iload 4, 2) := by decide +kernel
theorem dX4_hasMark_5 : decode cX4_hasMark 5 = .ok (.aload_n 0, 1) := by decide +kernel
theorem dX4_hasMark_6 : decode cX4_hasMark 6 = .ok (.getfield 33, 3) := by decide +kernel
theorem dX4_hasMark_9 : decode cX4_hasMark 9 = .ok (.if_icmp .ge 44, 3) := by decide +kernel
theorem dX4_hasMark_12 : decode cX4_hasMark 12 = .ok (.aload_n 0, 1) := by decide +kernel
theorem dX4_hasMark_13 : decode cX4_hasMark 13 = .ok (.getfield 9, 3) := by decide +kernel
theorem dX4_hasMark_16 : decode cX4_hasMark 16 = .ok (.iload 4, 2) := by decide +kernel
theorem dX4_hasMark_18 : decode cX4_hasMark 18 = .ok (.iaload, 1) := by decide +kernel
theorem dX4_hasMark_19 : decode cX4_hasMark 19 = .ok (.iload_n 1, 1) := by decide +kernel
theorem dX4_hasMark_20 : decode cX4_hasMark 20 = .ok (.if_icmp .ne 27, 3) := by decide +kernel
theorem dX4_hasMark_23 : decode cX4_hasMark 23 = .ok (.aload_n 0, 1) := by decide +kernel
theorem dX4_hasMark_24 : decode cX4_hasMark 24 = .ok (.getfield 15, 3) := by decide +kernel
theorem dX4_hasMark_27 : decode cX4_hasMark 27 = .ok (.iload 4, 2) := by decide +kernel
theorem dX4_hasMark_29 : decode cX4_hasMark 29 = .ok (.iaload, 1) := by decide +kernel
theorem dX4_hasMark_30 : decode cX4_hasMark 30 = .ok (.iload_n 2, 1) := by decide +kernel
theorem dX4_hasMark_31 : decode cX4_hasMark 31 = .ok (.if_icmp .ne 16, 3) := by decide +kernel
theorem dX4_hasMark_34 : decode cX4_hasMark 34 = .ok (.aload_n 0, 1) := by decide +kernel
theorem dX4_hasMark_35 : decode cX4_hasMark 35 = .ok (.getfield 18, 3) := by decide +kernel
theorem dX4_hasMark_38 : decode cX4_hasMark 38 = .ok (.iload 4, 2) := by decide +kernel
theorem dX4_hasMark_40 : decode cX4_hasMark 40 = .ok (.iaload, 1) := by decide +kernel
theorem dX4_hasMark_41 : decode cX4_hasMark 41 = .ok (.iload_n 3, 1) := by decide +kernel
theorem dX4_hasMark_42 : decode cX4_hasMark 42 = .ok (.if_icmp .ne 5, 3) := by decide +kernel
theorem dX4_hasMark_45 : decode cX4_hasMark 45 = .ok (.iconst 1, 1) := by decide +kernel
theorem dX4_hasMark_46 : decode cX4_hasMark 46 = .ok (.ireturn, 1) := by decide +kernel
theorem dX4_hasMark_47 : decode cX4_hasMark 47 = .ok (.iinc 4 1, 3) := by decide +kernel
theorem dX4_hasMark_50 : decode cX4_hasMark 50 = .ok (.goto (-47), 3) := by decide +kernel
theorem dX4_hasMark_53 : decode cX4_hasMark 53 = .ok (.iconst 0, 1) := by decide +kernel
theorem dX4_hasMark_54 : decode cX4_hasMark 54 = .ok (.ireturn, 1) := by decide +kernel
theorem dX4_addMark_0 : decode cX4_addMark 0 = .ok (.aload_n 0, 1) := by decide +kernel
theorem dX4_addMark_1 : decode cX4_addMark 1 = .ok (.getfield 9, 3) := by decide +kernel
theorem dX4_addMark_4 : decode cX4_addMark 4 = .ok (.aload_n 0, 1) := by decide +kernel
theorem dX4_addMark_5 : decode cX4_addMark 5 = .ok (.getfield 33, 3) := by decide +kernel
theorem dX4_addMark_8 : decode cX4_addMark 8 = .ok (.iload_n 1, 1) := by decide +kernel
theorem dX4_addMark_9 : decode cX4_addMark 9 = .ok (.iastore, 1) := by decide +kernel
theorem dX4_addMark_10 : decode cX4_addMark 10 = .ok (.aload_n 0, 1) := by decide +kernel
theorem dX4_addMark_11 : decode cX4_addMark 11 = .ok (.getfield 15, 3) := by decide +kernel
theorem dX4_addMark_14 : decode cX4_addMark 14 = .ok (.aload_n 0, 1) := by decide +kernel
theorem dX4_addMark_15 : decode cX4_addMark 15 = .ok (.getfield 33, 3) := by decide +kernel
theorem dX4_addMark_18 : decode cX4_addMark 18 = .ok (.iload_n 2, 1) := by decide +kernel
theorem dX4_addMark_19 : decode cX4_addMark 19 = .ok (.iastore, 1) := by decide +kernel
theorem dX4_addMark_20 : decode cX4_addMark 20 = .ok (.aload_n 0, 1) := by decide +kernel
theorem dX4_addMark_21 : decode cX4_addMark 21 = .ok (.getfield 18, 3) := by decide +kernel
theorem dX4_addMark_24 : decode cX4_addMark 24 = .ok (.aload_n 0, 1) := by decide +kernel
theorem dX4_addMark_25 : decode cX4_addMark 25 = .ok (.getfield 33, 3) := by decide +kernel
theorem dX4_addMark_28 : decode cX4_addMark 28 = .ok (.iload_n 3, 1) := by decide +kernel
theorem dX4_addMark_29 : decode cX4_addMark 29 = .ok (.iastore, 1) := by decide +kernel
theorem dX4_addMark_30 : decode cX4_addMark 30 = .ok (.aload_n 0, 1) := by decide +kernel
theorem dX4_addMark_31 : decode cX4_addMark 31 = .ok (.dup, 1) := by decide +kernel
theorem dX4_addMark_32 : decode cX4_addMark 32 = .ok (.getfield 33, 3) := by decide +kernel
theorem dX4_addMark_35 : decode cX4_addMark 35 = .ok (.iconst 1, 1) := by decide +kernel
theorem dX4_addMark_36 : decode cX4_addMark 36 = .ok (.iadd, 1) := by decide +kernel
theorem dX4_addMark_37 : decode cX4_addMark 37 = .ok (.putfield 33, 3) := by decide +kernel
theorem dX4_addMark_40 : decode cX4_addMark 40 = .ok (.return_, 1) := by decide +kernel
theorem dX4_forgetStates_0 : decode cX4_forgetStates 0 = .ok (.iconst 0, 1) := by decide +kernel
theorem dX4_forgetStates_1 : decode cX4_forgetStates 1 = .ok (.istore_n 1, 1) := by decide +kernel
theorem dX4_forgetStates_2 : decode cX4_forgetStates 2 = .ok (.iload_n 1, 1) := by decide +kernel
theorem dX4_forgetStates_3 : decode cX4_forgetStates 3 = .ok (.bipush 16, 2) := by decide +kernel
theorem dX4_forgetStates_5 : decode cX4_forgetStates 5 = .ok (.if_icmp .ge 16, 3) := by decide +kernel
theorem dX4_forgetStates_8 : decode cX4_forgetStates 8 = .ok (.aload_n 0, 1) := by decide +kernel
theorem dX4_forgetStates_9 : decode cX4_forgetStates 9 = .ok (.getfield 21, 3) := by decide +kernel
theorem dX4_forgetStates_12 : decode cX4_forgetStates 12 = .ok (.iload_n 1, 1) := by decide +kernel
theorem dX4_forgetStates_13 : decode cX4_forgetStates 13 = .ok (.iconst 0, 1) := by decide +kernel
theorem dX4_forgetStates_14 : decode cX4_forgetStates 14 = .ok (.iastore, 1) := by decide +kernel
theorem dX4_forgetStates_15 : decode cX4_forgetStates 15 = .ok (.iinc 1 1, 3) := by decide +kernel
theorem dX4_forgetStates_18 : decode cX4_forgetStates 18 = .ok (.goto (-16), 3) := by decide +kernel
theorem dX4_forgetStates_21 : decode cX4_forgetStates 21 = .ok (.return_, 1) := by decide +kernel
theorem dX4_restrict_0 : decode cX4_restrict 0 = .ok (.iconst 0, 1) := by decide +kernel
theorem dX4_restrict_1 : decode cX4_restrict 1 = .ok (.istore 5, 2) := by decide +kernel
theorem dX4_restrict_3 : decode cX4_restrict 3 = .ok (.iload 5, 2) := by decide +kernel
theorem dX4_restrict_5 : decode cX4_restrict 5 = .ok (.aload_n 0, 1) := by decide +kernel
theorem dX4_restrict_6 : decode cX4_restrict 6 = .ok (.getfield 33, 3) := by decide +kernel
theorem dX4_restrict_9 : decode cX4_restrict 9 = .ok (.if_icmp .ge 85, 3) := by decide +kernel
theorem dX4_restrict_12 : decode cX4_restrict 12 = .ok (.aload_n 0, 1) := by decide +kernel
theorem dX4_restrict_13 : decode cX4_restrict 13 = .ok (.getfield 9, 3) := by decide +kernel
theorem dX4_restrict_16 : decode cX4_restrict 16 = .ok (.iload 5, 2) := by decide +kernel
theorem dX4_restrict_18 : decode cX4_restrict 18 = .ok (.iaload, 1) := by decide +kernel
theorem dX4_restrict_19 : decode cX4_restrict 19 = .ok (.iload_n 3, 1) := by decide +kernel
theorem dX4_restrict_20 : decode cX4_restrict 20 = .ok (.iload 4, 2) := by decide +kernel
theorem dX4_restrict_22 : decode cX4_restrict 22 = .ok (.invokestatic 51, 3) := by decide +kernel
theorem dX4_restrict_25 : decode cX4_restrict 25 = .ok (.istore 6, 2) := by decide +kernel
theorem dX4_restrict_27 : decode cX4_restrict 27 = .ok (.aload_n 0, 1) := by decide +kernel
theorem dX4_restrict_28 : decode cX4_restrict 28 = .ok (.getfield 15, 3) := by decide +kernel
theorem dX4_restrict_31 : decode cX4_restrict 31 = .ok (.iload 5, 2) := by decide +kernel
theorem dX4_restrict_33 : decode cX4_restrict 33 = .ok (.iaload, 1) := by decide +kernel
theorem dX4_restrict_34 : decode cX4_restrict 34 = .ok (.iload_n 3, 1) := by decide +kernel
theorem dX4_restrict_35 : decode cX4_restrict 35 = .ok (.iload 4, 2) := by decide +kernel
theorem dX4_restrict_37 : decode cX4_restrict 37 = .ok (.invokestatic 51, 3) := by decide +kernel
theorem dX4_restrict_40 : decode cX4_restrict 40 = .ok (.istore 7, 2) := by decide +kernel
theorem dX4_restrict_42 : decode cX4_restrict 42 = .ok (.iload_n 2, 1) := by decide +kernel
theorem dX4_restrict_43 : decode cX4_restrict 43 = .ok (.iload 5, 2) := by decide +kernel
theorem dX4_restrict_45 : decode cX4_restrict 45 = .ok (.ishr, 1) := by decide +kernel
theorem dX4_restrict_46 : decode cX4_restrict 46 = .ok (.iconst 1, 1) := by decide +kernel
theorem dX4_restrict_47 : decode cX4_restrict 47 = .ok (.iand, 1) := by decide +kernel
theorem dX4_restrict_48 : decode cX4_restrict 48 = .ok (.iconst 1, 1) := by decide +kernel
theorem dX4_restrict_49 : decode cX4_restrict 49 = .ok (.if_icmp .ne 21, 3) := by decide +kernel
theorem dX4_restrict_52 : decode cX4_restrict 52 = .ok (.aload_n 1, 1) := by decide +kernel
theorem dX4_restrict_53 : decode cX4_restrict 53 = .ok (.iload 6, 2) := by decide +kernel
theorem dX4_restrict_55 : decode cX4_restrict 55 = .ok (.iload 7, 2) := by decide +kernel
theorem dX4_restrict_57 : decode cX4_restrict 57 = .ok (.aload_n 0, 1) := by decide +kernel
theorem dX4_restrict_58 : decode cX4_restrict 58 = .ok (.getfield 18, 3) := by decide +kernel
theorem dX4_restrict_61 : decode cX4_restrict 61 = .ok (.iload 5, 2) := by decide +kernel
theorem dX4_restrict_63 : decode cX4_restrict 63 = .ok (.iaload, 1) := by decide +kernel
theorem dX4_restrict_64 : decode cX4_restrict 64 = .ok (.invokevirtual 55, 3) := by decide +kernel
theorem dX4_restrict_67 : decode cX4_restrict 67 = .ok (.goto 21, 3) := by decide +kernel
theorem dX4_restrict_70 : decode cX4_restrict 70 = .ok (.aload_n 1, 1) := by decide +kernel
theorem dX4_restrict_71 : decode cX4_restrict 71 = .ok (.iload 7, 2) := by decide +kernel
theorem dX4_restrict_73 : decode cX4_restrict 73 = .ok (.iload 6, 2) := by decide +kernel
theorem dX4_restrict_75 : decode cX4_restrict 75 = .ok (.aload_n 0, 1) := by decide +kernel
theorem dX4_restrict_76 : decode cX4_restrict 76 = .ok (.getfield 18, 3) := by decide +kernel
theorem dX4_restrict_79 : decode cX4_restrict 79 = .ok (.iload 5, 2) := by decide +kernel
theorem dX4_restrict_81 : decode cX4_restrict 81 = .ok (.iaload, 1) := by decide +kernel
theorem dX4_restrict_82 : decode cX4_restrict 82 = .ok (.ineg, 1) := by decide +kernel
theorem dX4_restrict_83 : decode cX4_restrict 83 = .ok (.iconst 1, 1) := by decide +kernel
theorem dX4_restrict_84 : decode cX4_restrict 84 = .ok (.isub, 1) := by decide +kernel
theorem dX4_restrict_85 : decode cX4_restrict 85 = .ok (.invokevirtual 55, 3) := by decide +kernel
theorem dX4_restrict_88 : decode cX4_restrict 88 = .ok (.iinc 5 1, 3) := by decide +kernel
theorem dX4_restrict_91 : decode cX4_restrict 91 = .ok (.goto (-88), 3) := by decide +kernel
theorem dX4_restrict_94 : decode cX4_restrict 94 = .ok (.return_, 1) := by decide +kernel
theorem dX5_init_0 : decode cX5_init 0 = .ok (.aload_n 0, 1) := by decide +kernel
theorem dX5_init_1 : decode cX5_init 1 = .ok (.invokespecial 3, 3) := by decide +kernel
theorem dX5_init_4 : decode cX5_init 4 = .ok (.aload_n 0, 1) := by decide +kernel
theorem dX5_init_5 : decode cX5_init 5 = .ok (.bipush 41, 2) := by decide +kernel
theorem dX5_init_7 : decode cX5_init 7 = .ok (.anewarray 9, 3) := by decide +kernel
theorem dX5_init_10 : decode cX5_init 10 = .ok (.putfield 11, 3) := by decide +kernel
theorem dX5_init_13 : decode cX5_init 13 = .ok (.aload_n 0, 1) := by decide +kernel
theorem dX5_init_14 : decode cX5_init 14 = .ok (.bipush 82, 2) := by decide +kernel
theorem dX5_init_16 : decode cX5_init 16 = .ok (.newarray .int, 2) := by decide +kernel
theorem dX5_init_18 : decode cX5_init 18 = .ok (.putfield 17, 3) := by decide +kernel
theorem dX5_init_21 : decode cX5_init 21 = .ok (.aload_n 0, 1) := by decide +kernel
theorem dX5_init_22 : decode cX5_init 22 = .ok (.bipush 82, 2) := by decide +kernel
theorem dX5_init_24 : decode cX5_init 24 = .ok (.newarray .int, 2) := by decide +kernel
theorem dX5_init_26 : decode cX5_init 26 = .ok (.putfield 21, 3) := by decide +kernel
theorem dX5_init_29 : decode cX5_init 29 = .ok (.aload_n 0, 1) := by decide +kernel
theorem dX5_init_30 : decode cX5_init 30 = .ok (.bipush 82, 2) := by decide +kernel
theorem dX5_init_32 : decode cX5_init 32 = .ok (.newarray .int, 2) := by decide +kernel
theorem dX5_init_34 : decode cX5_init 34 = .ok (.putfield 24, 3) := by decide +kernel
theorem dX5_init_37 : decode cX5_init 37 = .ok (.iconst 0, 1) := by decide +kernel
theorem dX5_init_38 : decode cX5_init 38 = .ok (.istore_n 1, 1) := by decide +kernel
theorem dX5_init_39 : decode cX5_init 39 = .ok (.iload_n 1, 1) := by decide +kernel
theorem dX5_init_40 : decode cX5_init 40 = .ok (.bipush 40, 2) := by decide +kernel
theorem dX5_init_42 : decode cX5_init 42 = .ok (.if_icmp .gt 22, 3) := by decide +kernel
theorem dX5_init_45 : decode cX5_init 45 = .ok (.aload_n 0, 1) := by decide +kernel
theorem dX5_init_46 : decode cX5_init 46 = .ok (.getfield 11, 3) := by decide +kernel
theorem dX5_init_49 : decode cX5_init 49 = .ok (.iload_n 1, 1) := by decide +kernel
theorem dX5_init_50 : decode cX5_init 50 = .ok (.new 9, 3) := by decide +kernel
theorem dX5_init_53 : decode cX5_init 53 = .ok (.dup, 1) := by decide +kernel
theorem dX5_init_54 : decode cX5_init 54 = .ok (.invokespecial 27, 3) := by decide +kernel
theorem dX5_init_57 : decode cX5_init 57 = .ok (.aastore, 1) := by decide +kernel
theorem dX5_init_58 : decode cX5_init 58 = .ok (.iinc 1 1, 3) := by decide +kernel
theorem dX5_init_61 : decode cX5_init 61 = .ok (.goto (-22), 3) := by decide +kernel
theorem dX5_init_64 : decode cX5_init 64 = .ok (.return_, 1) := by decide +kernel
theorem dX5_number_0 : decode cX5_number 0 = .ok (.aload_n 1, 1) := by decide +kernel
theorem dX5_number_1 : decode cX5_number 1 = .ok (.getfield 28, 3) := by decide +kernel
theorem dX5_number_4 : decode cX5_number 4 = .ok (.iconst 2, 1) := by decide +kernel
theorem dX5_number_5 : decode cX5_number 5 = .ok (.if_icmp .ne 13, 3) := by decide +kernel
theorem dX5_number_8 : decode cX5_number 8 = .ok (.aload_n 0, 1) := by decide +kernel
theorem dX5_number_9 : decode cX5_number 9 = .ok (.aload_n 0, 1) := by decide +kernel
theorem dX5_number_10 : decode cX5_number 10 = .ok (.getfield 34, 3) := by decide +kernel
theorem dX5_number_13 : decode cX5_number 13 = .ok (.iconst 1, 1) := by decide +kernel
theorem dX5_number_14 : decode cX5_number 14 = .ok (.iload_n 3, 1) := by decide +kernel
theorem dX5_number_15 : decode cX5_number 15 = .ok (.invokevirtual 37, 3) := by decide +kernel
theorem dX5_number_18 : decode cX5_number 18 = .ok (.aload_n 1, 1) := by decide +kernel
theorem dX5_number_19 : decode cX5_number 19 = .ok (.getfield 28, 3) := by decide +kernel
theorem dX5_number_22 : decode cX5_number 22 = .ok (.iconst 1, 1) := by decide +kernel
theorem dX5_number_23 : decode cX5_number 23 = .ok (.if_icmp .lt 13, 3) := by decide +kernel
theorem dX5_number_26 : decode cX5_number 26 = .ok (.aload_n 0, 1) := by decide +kernel
theorem dX5_number_27 : decode cX5_number 27 = .ok (.aload_n 0, 1) := by decide +kernel
theorem dX5_number_28 : decode cX5_number 28 = .ok (.getfield 34, 3) := by decide +kernel
theorem dX5_number_31 : decode cX5_number 31 = .ok (.iconst 0, 1) := by decide +kernel
theorem dX5_number_32 : decode cX5_number 32 = .ok (.iload_n 2, 1) := by decide +kernel
theorem dX5_number_33 : decode cX5_number 33 = .ok (.invokevirtual 37, 3) := by decide +kernel
theorem dX5_number_36 : decode cX5_number 36 = .ok (.aload_n 0, 1) := by decide +kernel
theorem dX5_number_37 : decode cX5_number 37 = .ok (.dup, 1) := by decide +kernel
theorem dX5_number_38 : decode cX5_number 38 = .ok (.getfield 34, 3) := by decide +kernel
theorem dX5_number_41 : decode cX5_number 41 = .ok (.iconst 1, 1) := by decide +kernel
theorem dX5_number_42 : decode cX5_number 42 = .ok (.iadd, 1) := by decide +kernel
theorem dX5_number_43 : decode cX5_number 43 = .ok (.putfield 34, 3) := by decide +kernel
theorem dX5_number_46 : decode cX5_number 46 = .ok (.return_, 1) := by decide +kernel
theorem dX5_postpone_0 : decode cX5_postpone 0 = .ok (.aload_n 0, 1) := by decide +kernel
theorem dX5_postpone_1 : decode cX5_postpone 1 = .ok (.getfield 17, 3) := by decide +kernel
theorem dX5_postpone_4 : decode cX5_postpone 4 = .ok (.aload_n 0, 1) := by decide +kernel
theorem dX5_postpone_5 : decode cX5_postpone 5 = .ok (.getfield 41, 3) := by decide +kernel
theorem dX5_postpone_8 : decode cX5_postpone 8 = .ok (.iload_n 1, 1) := by decide +kernel
theorem dX5_postpone_9 : decode cX5_postpone 9 = .ok (.iastore, 1) := by decide +kernel
theorem dX5_postpone_10 : decode cX5_postpone 10 = .ok (.aload_n 0, 1) := by decide +kernel
theorem dX5_postpone_11 : decode cX5_postpone 11 = .ok (.getfield 21, 3) := by decide +kernel
theorem dX5_postpone_14 : decode cX5_postpone 14 = .ok (.aload_n 0, 1) := by decide +kernel
theorem dX5_postpone_15 : decode cX5_postpone 15 = .ok (.getfield 41, 3) := by decide +kernel
theorem dX5_postpone_18 : decode cX5_postpone 18 = .ok (.iload_n 2, 1) := by decide +kernel
theorem dX5_postpone_19 : decode cX5_postpone 19 = .ok (.iastore, 1) := by decide +kernel
theorem dX5_postpone_20 : decode cX5_postpone 20 = .ok (.aload_n 0, 1) := by decide +kernel
theorem dX5_postpone_21 : decode cX5_postpone 21 = .ok (.getfield 24, 3) := by decide +kernel
theorem dX5_postpone_24 : decode cX5_postpone 24 = .ok (.aload_n 0, 1) := by decide +kernel
theorem dX5_postpone_25 : decode cX5_postpone 25 = .ok (.getfield 41, 3) := by decide +kernel
theorem dX5_postpone_28 : decode cX5_postpone 28 = .ok (.iload_n 3, 1) := by decide +kernel
theorem dX5_postpone_29 : decode cX5_postpone 29 = .ok (.iastore, 1) := by decide +kernel
theorem dX5_postpone_30 : decode cX5_postpone 30 = .ok (.aload_n 0, 1) := by decide +kernel
theorem dX5_postpone_31 : decode cX5_postpone 31 = .ok (.dup, 1) := by decide +kernel
theorem dX5_postpone_32 : decode cX5_postpone 32 = .ok (.getfield 41, 3) := by decide +kernel
theorem dX5_postpone_35 : decode cX5_postpone 35 = .ok (.iconst 1, 1) := by decide +kernel
theorem dX5_postpone_36 : decode cX5_postpone 36 = .ok (.iadd, 1) := by decide +kernel
theorem dX5_postpone_37 : decode cX5_postpone 37 = .ok (.putfield 41, 3) := by decide +kernel
theorem dX5_postpone_40 : decode cX5_postpone 40 = .ok (.return_, 1) := by decide +kernel
theorem dX6_init_0 : decode cX6_init 0 = .ok (.aload_n 0, 1) := by decide +kernel
theorem dX6_init_1 : decode cX6_init 1 = .ok (.invokespecial 3, 3) := by decide +kernel
theorem dX6_init_4 : decode cX6_init 4 = .ok (.aload_n 0, 1) := by decide +kernel
theorem dX6_init_5 : decode cX6_init 5 = .ok (.iconst 4, 1) := by decide +kernel
theorem dX6_init_6 : decode cX6_init 6 = .ok (.anewarray 9, 3) := by decide +kernel
theorem dX6_init_9 : decode cX6_init 9 = .ok (.putfield 11, 3) := by decide +kernel
theorem dX6_init_12 : decode cX6_init 12 = .ok (.aload_n 0, 1) := by decide +kernel
theorem dX6_init_13 : decode cX6_init 13 = .ok (.bipush 12, 2) := by decide +kernel
theorem dX6_init_15 : decode cX6_init 15 = .ok (.anewarray 15, 3) := by decide +kernel
theorem dX6_init_18 : decode cX6_init 18 = .ok (.putfield 17, 3) := by decide +kernel
theorem dX6_init_21 : decode cX6_init 21 = .ok (.aload_n 0, 1) := by decide +kernel
theorem dX6_init_22 : decode cX6_init 22 = .ok (.new 21, 3) := by decide +kernel
theorem dX6_init_25 : decode cX6_init 25 = .ok (.dup, 1) := by decide +kernel
theorem dX6_init_26 : decode cX6_init 26 = .ok (.invokespecial 23, 3) := by decide +kernel
theorem dX6_init_29 : decode cX6_init 29 = .ok (.putfield 24, 3) := by decide +kernel
theorem dX6_init_32 : decode cX6_init 32 = .ok (.aload_n 0, 1) := by decide +kernel
theorem dX6_init_33 : decode cX6_init 33 = .ok (.new 28, 3) := by decide +kernel
theorem dX6_init_36 : decode cX6_init 36 = .ok (.dup, 1) := by decide +kernel
theorem dX6_init_37 : decode cX6_init 37 = .ok (.invokespecial 30, 3) := by decide +kernel
theorem dX6_init_40 : decode cX6_init 40 = .ok (.putfield 31, 3) := by decide +kernel
theorem dX6_init_43 : decode cX6_init 43 = .ok (.aload_n 0, 1) := by decide +kernel
theorem dX6_init_44 : decode cX6_init 44 = .ok (.new 28, 3) := by decide +kernel
theorem dX6_init_47 : decode cX6_init 47 = .ok (.dup, 1) := by decide +kernel
theorem dX6_init_48 : decode cX6_init 48 = .ok (.invokespecial 30, 3) := by decide +kernel
theorem dX6_init_51 : decode cX6_init 51 = .ok (.putfield 35, 3) := by decide +kernel
theorem dX6_init_54 : decode cX6_init 54 = .ok (.aload_n 0, 1) := by decide +kernel
theorem dX6_init_55 : decode cX6_init 55 = .ok (.new 28, 3) := by decide +kernel
theorem dX6_init_58 : decode cX6_init 58 = .ok (.dup, 1) := by decide +kernel
theorem dX6_init_59 : decode cX6_init 59 = .ok (.invokespecial 30, 3) := by decide +kernel
theorem dX6_init_62 : decode cX6_init 62 = .ok (.putfield 38, 3) := by decide +kernel
theorem dX6_init_65 : decode cX6_init 65 = .ok (.iconst 0, 1) := by decide +kernel
theorem dX6_init_66 : decode cX6_init 66 = .ok (.istore_n 1, 1) := by decide +kernel
theorem dX6_init_67 : decode cX6_init 67 = .ok (.iload_n 1, 1) := by decide +kernel
theorem dX6_init_68 : decode cX6_init 68 = .ok (.iconst 4, 1) := by decide +kernel
theorem dX6_init_69 : decode cX6_init 69 = .ok (.if_icmp .ge 22, 3) := by decide +kernel
theorem dX6_init_72 : decode cX6_init 72 = .ok (.aload_n 0, 1) := by decide +kernel
theorem dX6_init_73 : decode cX6_init 73 = .ok (.getfield 11, 3) := by decide +kernel
theorem dX6_init_76 : decode cX6_init 76 = .ok (.iload_n 1, 1) := by decide +kernel
theorem dX6_init_77 : decode cX6_init 77 = .ok (.new 9, 3) := by decide +kernel
theorem dX6_init_80 : decode cX6_init 80 = .ok (.dup, 1) := by decide +kernel
theorem dX6_init_81 : decode cX6_init 81 = .ok (.invokespecial 41, 3) := by decide +kernel
theorem dX6_init_84 : decode cX6_init 84 = .ok (.aastore, 1) := by decide +kernel
theorem dX6_init_85 : decode cX6_init 85 = .ok (.iinc 1 1, 3) := by decide +kernel
theorem dX6_init_88 : decode cX6_init 88 = .ok (.goto (-21), 3) := by decide +kernel
theorem dX6_init_91 : decode cX6_init 91 = .ok (.iconst 0, 1) := by decide +kernel
theorem dX6_init_92 : decode cX6_init 92 = .ok (.istore_n 1, 1) := by decide +kernel
theorem dX6_init_93 : decode cX6_init 93 = .ok (.iload_n 1, 1) := by decide +kernel
theorem dX6_init_94 : decode cX6_init 94 = .ok (.bipush 12, 2) := by decide +kernel
theorem dX6_init_96 : decode cX6_init 96 = .ok (.if_icmp .ge 22, 3) := by decide +kernel
theorem dX6_init_99 : decode cX6_init 99 = .ok (.aload_n 0, 1) := by decide +kernel
theorem dX6_init_100 : decode cX6_init 100 = .ok (.getfield 17, 3) := by decide +kernel
theorem dX6_init_103 : decode cX6_init 103 = .ok (.iload_n 1, 1) := by decide +kernel
theorem dX6_init_104 : decode cX6_init 104 = .ok (.new 15, 3) := by decide +kernel
theorem dX6_init_107 : decode cX6_init 107 = .ok (.dup, 1) := by decide +kernel
theorem dX6_init_108 : decode cX6_init 108 = .ok (.invokespecial 42, 3) := by decide +kernel
theorem dX6_init_111 : decode cX6_init 111 = .ok (.aastore, 1) := by decide +kernel
theorem dX6_init_112 : decode cX6_init 112 = .ok (.iinc 1 1, 3) := by decide +kernel
theorem dX6_init_115 : decode cX6_init 115 = .ok (.goto (-22), 3) := by decide +kernel
theorem dX6_init_118 : decode cX6_init 118 = .ok (.aload_n 0, 1) := by decide +kernel
theorem dX6_init_119 : decode cX6_init 119 = .ok (.iconst (-1), 1) := by decide +kernel
theorem dX6_init_120 : decode cX6_init 120 = .ok (.putfield 43, 3) := by decide +kernel
theorem dX6_init_123 : decode cX6_init 123 = .ok (.aload_n 0, 1) := by decide +kernel
theorem dX6_init_124 : decode cX6_init 124 = .ok (.iconst 0, 1) := by decide +kernel
theorem dX6_init_125 : decode cX6_init 125 = .ok (.putfield 47, 3) := by decide +kernel
theorem dX6_init_128 : decode cX6_init 128 = .ok (.return_, 1) := by decide +kernel
theorem dX6_relation_0 : decode cX6_relation 0 = .ok (.iload_n 1, 1) := by decide +kernel
theorem dX6_relation_1 : decode cX6_relation 1 = .ok (.iconst 1, 1) := by decide +kernel
theorem dX6_relation_2 : decode cX6_relation 2 = .ok (.if_icmp .eq 18, 3) := by decide +kernel
theorem dX6_relation_5 : decode cX6_relation 5 = .ok (.iload_n 1, 1) := by decide +kernel
theorem dX6_relation_6 : decode cX6_relation 6 = .ok (.iconst 2, 1) := by decide +kernel
theorem dX6_relation_7 : decode cX6_relation 7 = .ok (.if_icmp .eq 13, 3) := by decide +kernel
theorem dX6_relation_10 : decode cX6_relation 10 = .ok (.new 50, 3) := by decide +kernel
theorem dX6_relation_13 : decode cX6_relation 13 = .ok (.dup, 1) := by decide +kernel
theorem dX6_relation_14 : decode cX6_relation 14 = .ok (.ldc 52, 2) := by decide +kernel
theorem dX6_relation_16 : decode cX6_relation 16 = .ok (.invokespecial 54, 3) := by decide +kernel
theorem dX6_relation_19 : decode cX6_relation 19 = .ok (.athrow, 1) := by decide +kernel
theorem dX6_relation_20 : decode cX6_relation 20 = .ok (.aload_n 0, 1) := by decide +kernel
theorem dX6_relation_21 : decode cX6_relation 21 = .ok (.getfield 57, 3) := by decide +kernel
theorem dX6_relation_24 : decode cX6_relation 24 = .ok (.iconst 4, 1) := by decide +kernel
theorem dX6_relation_25 : decode cX6_relation 25 = .ok (.if_icmp .ne 13, 3) := by decide +kernel
theorem dX6_relation_28 : decode cX6_relation 28 = .ok (.new 60, 3) := by decide +kernel
theorem dX6_relation_31 : decode cX6_relation 31 = .ok (.dup, 1) := by decide +kernel
theorem dX6_relation_32 : decode cX6_relation 32 = .ok (.ldc 62, 2) := by decide +kernel
theorem dX6_relation_34 : decode cX6_relation 34 = .ok (.invokespecial 64, 3) := by decide +kernel
theorem dX6_relation_37 : decode cX6_relation 37 = .ok (.athrow, 1) := by decide +kernel
theorem dX6_relation_38 : decode cX6_relation 38 = .ok (.aload_n 0, 1) := by decide +kernel
theorem dX6_relation_39 : decode cX6_relation 39 = .ok (.getfield 11, 3) := by decide +kernel
theorem dX6_relation_42 : decode cX6_relation 42 = .ok (.aload_n 0, 1) := by decide +kernel
theorem dX6_relation_43 : decode cX6_relation 43 = .ok (.getfield 57, 3) := by decide +kernel
theorem dX6_relation_46 : decode cX6_relation 46 = .ok (.aaload, 1) := by decide +kernel
theorem dX6_relation_47 : decode cX6_relation 47 = .ok (.iload_n 1, 1) := by decide +kernel
theorem dX6_relation_48 : decode cX6_relation 48 = .ok (.putfield 65, 3) := by decide +kernel
theorem dX6_relation_51 : decode cX6_relation 51 = .ok (.aload_n 0, 1) := by decide +kernel
theorem dX6_relation_52 : decode cX6_relation 52 = .ok (.dup, 1) := by decide +kernel
theorem dX6_relation_53 : decode cX6_relation 53 = .ok (.getfield 57, 3) := by decide +kernel
theorem dX6_relation_56 : decode cX6_relation 56 = .ok (.iconst 1, 1) := by decide +kernel
theorem dX6_relation_57 : decode cX6_relation 57 = .ok (.iadd, 1) := by decide +kernel
theorem dX6_relation_58 : decode cX6_relation 58 = .ok (.putfield 57, 3) := by decide +kernel
theorem dX6_relation_61 : decode cX6_relation 61 = .ok (.aload_n 0, 1) := by decide +kernel
theorem dX6_relation_62 : decode cX6_relation 62 = .ok (.invokevirtual 68, 3) := by decide +kernel
theorem dX6_relation_65 : decode cX6_relation 65 = .ok (.aload_n 0, 1) := by decide +kernel
theorem dX6_relation_66 : decode cX6_relation 66 = .ok (.getfield 57, 3) := by decide +kernel
theorem dX6_relation_69 : decode cX6_relation 69 = .ok (.iconst 1, 1) := by decide +kernel
theorem dX6_relation_70 : decode cX6_relation 70 = .ok (.isub, 1) := by decide +kernel
theorem dX6_relation_71 : decode cX6_relation 71 = .ok (.ireturn, 1) := by decide +kernel
theorem dX6_mark_0 : decode cX6_mark 0 = .ok (.aload_n 0, 1) := by decide +kernel
theorem dX6_mark_1 : decode cX6_mark 1 = .ok (.iload_n 1, 1) := by decide +kernel
theorem dX6_mark_2 : decode cX6_mark 2 = .ok (.invokevirtual 71, 3) := by decide +kernel
theorem dX6_mark_5 : decode cX6_mark 5 = .ok (.ifCond .eq 19, 3) := by decide +kernel
theorem dX6_mark_8 : decode cX6_mark 8 = .ok (.aload_n 0, 1) := by decide +kernel
theorem dX6_mark_9 : decode cX6_mark 9 = .ok (.getfield 11, 3) := by decide +kernel
theorem dX6_mark_12 : decode cX6_mark 12 = .ok (.iload_n 1, 1) := by decide +kernel
theorem dX6_mark_13 : decode cX6_mark 13 = .ok (.aaload, 1) := by decide +kernel
theorem dX6_mark_14 : decode cX6_mark 14 = .ok (.iload_n 2, 1) := by decide +kernel
theorem dX6_mark_15 : decode cX6_mark 15 = .ok (.iload_n 3, 1) := by decide +kernel
theorem dX6_mark_16 : decode cX6_mark 16 = .ok (.iload 4, 2) := by decide +kernel
theorem dX6_mark_18 : decode cX6_mark 18 = .ok (.invokevirtual 75, 3) := by decide +kernel
theorem dX6_mark_21 : decode cX6_mark 21 = .ok (.ifCond .ne 13, 3) := by decide +kernel
theorem dX6_mark_24 : decode cX6_mark 24 = .ok (.new 50, 3) := by decide +kernel
theorem dX6_mark_27 : decode cX6_mark 27 = .ok (.dup, 1) := by decide +kernel
theorem dX6_mark_28 : decode cX6_mark 28 = .ok (.ldc 79, 2) := by decide +kernel
theorem dX6_mark_30 : decode cX6_mark 30 = .ok (.invokespecial 54, 3) := by decide +kernel
theorem dX6_mark_33 : decode cX6_mark 33 = .ok (.athrow, 1) := by decide +kernel
theorem dX6_mark_34 : decode cX6_mark 34 = .ok (.aload_n 0, 1) := by decide +kernel
theorem dX6_mark_35 : decode cX6_mark 35 = .ok (.getfield 11, 3) := by decide +kernel
theorem dX6_mark_38 : decode cX6_mark 38 = .ok (.iload_n 1, 1) := by decide +kernel
theorem dX6_mark_39 : decode cX6_mark 39 = .ok (.aaload, 1) := by decide +kernel
theorem dX6_mark_40 : decode cX6_mark 40 = .ok (.astore 5, 2) := by decide +kernel
theorem dX6_mark_42 : decode cX6_mark 42 = .ok (.aload 5, 2) := by decide +kernel
theorem dX6_mark_44 : decode cX6_mark 44 = .ok (.getfield 81, 3) := by decide +kernel
theorem dX6_mark_47 : decode cX6_mark 47 = .ok (.iconst 4, 1) := by decide +kernel
theorem dX6_mark_48 : decode cX6_mark 48 = .ok (.if_icmp .eq 15, 3) := by decide +kernel
theorem dX6_mark_51 : decode cX6_mark 51 = .ok (.aload 5, 2) := by decide +kernel
theorem dX6_mark_53 : decode cX6_mark 53 = .ok (.iload_n 2, 1) := by decide +kernel
theorem dX6_mark_54 : decode cX6_mark 54 = .ok (.iload_n 3, 1) := by decide +kernel
theorem dX6_mark_55 : decode cX6_mark 55 = .ok (.iload 4, 2) := by decide +kernel
theorem dX6_mark_57 : decode cX6_mark 57 = .ok (.invokevirtual 84, 3) := by decide +kernel
theorem dX6_mark_60 : decode cX6_mark 60 = .ok (.ifCond .eq 13, 3) := by decide +kernel
theorem dX6_mark_63 : decode cX6_mark 63 = .ok (.new 60, 3) := by decide +kernel
theorem dX6_mark_66 : decode cX6_mark 66 = .ok (.dup, 1) := by decide +kernel
theorem dX6_mark_67 : decode cX6_mark 67 = .ok (.ldc 87, 2) := by decide +kernel
theorem dX6_mark_69 : decode cX6_mark 69 = .ok (.invokespecial 64, 3) := by decide +kernel
theorem dX6_mark_72 : decode cX6_mark 72 = .ok (.athrow, 1) := by decide +kernel
theorem dX6_mark_73 : decode cX6_mark 73 = .ok (.aload 5, 2) := by decide +kernel
theorem dX6_mark_75 : decode cX6_mark 75 = .ok (.iload_n 2, 1) := by decide +kernel
theorem dX6_mark_76 : decode cX6_mark 76 = .ok (.iload_n 3, 1) := by decide +kernel
theorem dX6_mark_77 : decode cX6_mark 77 = .ok (.iload 4, 2) := by decide +kernel
theorem dX6_mark_79 : decode cX6_mark 79 = .ok (.invokevirtual 89, 3) := by decide +kernel
theorem dX6_mark_82 : decode cX6_mark 82 = .ok (.aload_n 0, 1) := by decide +kernel
theorem dX6_mark_83 : decode cX6_mark 83 = .ok (.invokevirtual 68, 3) := by decide +kernel
theorem dX6_mark_86 : decode cX6_mark 86 = .ok (.aload 5, 2) := by decide +kernel
theorem dX6_mark_88 : decode cX6_mark 88 = .ok (.getfield 81, 3) := by decide +kernel
theorem dX6_mark_91 : decode cX6_mark 91 = .ok (.iconst 1, 1) := by decide +kernel
theorem dX6_mark_92 : decode cX6_mark 92 = .ok (.isub, 1) := by decide +kernel
theorem dX6_mark_93 : decode cX6_mark 93 = .ok (.ireturn, 1) := by decide +kernel
theorem dX6_clause_0 : decode cX6_clause 0 = .ok (.iload_n 1, 1) := by decide +kernel
theorem dX6_clause_1 : decode cX6_clause 1 = .ok (.iconst (-1), 1) := by decide +kernel
theorem dX6_clause_2 : decode cX6_clause 2 = .ok (.if_icmp .eq 23, 3) := by decide +kernel
theorem dX6_clause_5 : decode cX6_clause 5 = .ok (.aload_n 0, 1) := by decide +kernel
theorem dX6_clause_6 : decode cX6_clause 6 = .ok (.iload_n 1, 1) := by decide +kernel
theorem dX6_clause_7 : decode cX6_clause 7 = .ok (.iload_n 2, 1) := by decide +kernel
theorem dX6_clause_8 : decode cX6_clause 8 = .ok (.iload_n 3, 1) := by decide +kernel
theorem dX6_clause_9 : decode cX6_clause 9 = .ok (.invokevirtual 93, 3) := by decide +kernel
theorem dX6_clause_12 : decode cX6_clause 12 = .ok (.ifCond .ne 13, 3) := by decide +kernel
theorem dX6_clause_15 : decode cX6_clause 15 = .ok (.new 50, 3) := by decide +kernel
theorem dX6_clause_18 : decode cX6_clause 18 = .ok (.dup, 1) := by decide +kernel
theorem dX6_clause_19 : decode cX6_clause 19 = .ok (.ldc 96, 2) := by decide +kernel
theorem dX6_clause_21 : decode cX6_clause 21 = .ok (.invokespecial 54, 3) := by decide +kernel
theorem dX6_clause_24 : decode cX6_clause 24 = .ok (.athrow, 1) := by decide +kernel
theorem dX6_clause_25 : decode cX6_clause 25 = .ok (.aload_n 0, 1) := by decide +kernel
theorem dX6_clause_26 : decode cX6_clause 26 = .ok (.getfield 98, 3) := by decide +kernel
theorem dX6_clause_29 : decode cX6_clause 29 = .ok (.bipush 12, 2) := by decide +kernel
theorem dX6_clause_31 : decode cX6_clause 31 = .ok (.if_icmp .ne 13, 3) := by decide +kernel
theorem dX6_clause_34 : decode cX6_clause 34 = .ok (.new 60, 3) := by decide +kernel
theorem dX6_clause_37 : decode cX6_clause 37 = .ok (.dup, 1) := by decide +kernel
theorem dX6_clause_38 : decode cX6_clause 38 = .ok (.ldc 101, 2) := by decide +kernel
theorem dX6_clause_40 : decode cX6_clause 40 = .ok (.invokespecial 64, 3) := by decide +kernel
theorem dX6_clause_43 : decode cX6_clause 43 = .ok (.athrow, 1) := by decide +kernel
theorem dX6_clause_44 : decode cX6_clause 44 = .ok (.aload_n 0, 1) := by decide +kernel
theorem dX6_clause_45 : decode cX6_clause 45 = .ok (.aload_n 0, 1) := by decide +kernel
theorem dX6_clause_46 : decode cX6_clause 46 = .ok (.getfield 17, 3) := by decide +kernel
theorem dX6_clause_49 : decode cX6_clause 49 = .ok (.aload_n 0, 1) := by decide +kernel
theorem dX6_clause_50 : decode cX6_clause 50 = .ok (.getfield 98, 3) := by decide +kernel
theorem dX6_clause_53 : decode cX6_clause 53 = .ok (.aaload, 1) := by decide +kernel
theorem dX6_clause_54 : decode cX6_clause 54 = .ok (.getfield 103, 3) := by decide +kernel
theorem dX6_clause_57 : decode cX6_clause 57 = .ok (.iload_n 1, 1) := by decide +kernel
theorem dX6_clause_58 : decode cX6_clause 58 = .ok (.iload_n 2, 1) := by decide +kernel
theorem dX6_clause_59 : decode cX6_clause 59 = .ok (.iload_n 3, 1) := by decide +kernel
theorem dX6_clause_60 : decode cX6_clause 60 = .ok (.invokevirtual 107, 3) := by decide +kernel
theorem dX6_clause_63 : decode cX6_clause 63 = .ok (.aload_n 0, 1) := by decide +kernel
theorem dX6_clause_64 : decode cX6_clause 64 = .ok (.dup, 1) := by decide +kernel
theorem dX6_clause_65 : decode cX6_clause 65 = .ok (.getfield 98, 3) := by decide +kernel
theorem dX6_clause_68 : decode cX6_clause 68 = .ok (.iconst 1, 1) := by decide +kernel
theorem dX6_clause_69 : decode cX6_clause 69 = .ok (.iadd, 1) := by decide +kernel
theorem dX6_clause_70 : decode cX6_clause 70 = .ok (.putfield 98, 3) := by decide +kernel
theorem dX6_clause_73 : decode cX6_clause 73 = .ok (.aload_n 0, 1) := by decide +kernel
theorem dX6_clause_74 : decode cX6_clause 74 = .ok (.invokevirtual 68, 3) := by decide +kernel
theorem dX6_clause_77 : decode cX6_clause 77 = .ok (.aload_n 0, 1) := by decide +kernel
theorem dX6_clause_78 : decode cX6_clause 78 = .ok (.getfield 98, 3) := by decide +kernel
theorem dX6_clause_81 : decode cX6_clause 81 = .ok (.iconst 1, 1) := by decide +kernel
theorem dX6_clause_82 : decode cX6_clause 82 = .ok (.isub, 1) := by decide +kernel
theorem dX6_clause_83 : decode cX6_clause 83 = .ok (.ireturn, 1) := by decide +kernel
theorem dX6_atom_0 : decode cX6_atom 0 = .ok (.aload_n 0, 1) := by decide +kernel
theorem dX6_atom_1 : decode cX6_atom 1 = .ok (.iload_n 1, 1) := by decide +kernel
theorem dX6_atom_2 : decode cX6_atom 2 = .ok (.iload_n 2, 1) := by decide +kernel
theorem dX6_atom_3 : decode cX6_atom 3 = .ok (.iload_n 3, 1) := by decide +kernel
theorem dX6_atom_4 : decode cX6_atom 4 = .ok (.invokevirtual 93, 3) := by decide +kernel
theorem dX6_atom_7 : decode cX6_atom 7 = .ok (.ifCond .ne 13, 3) := by decide +kernel
theorem dX6_atom_10 : decode cX6_atom 10 = .ok (.new 50, 3) := by decide +kernel
theorem dX6_atom_13 : decode cX6_atom 13 = .ok (.dup, 1) := by decide +kernel
theorem dX6_atom_14 : decode cX6_atom 14 = .ok (.ldc 96, 2) := by decide +kernel
theorem dX6_atom_16 : decode cX6_atom 16 = .ok (.invokespecial 54, 3) := by decide +kernel
theorem dX6_atom_19 : decode cX6_atom 19 = .ok (.athrow, 1) := by decide +kernel
theorem dX6_atom_20 : decode cX6_atom 20 = .ok (.aload_n 0, 1) := by decide +kernel
theorem dX6_atom_21 : decode cX6_atom 21 = .ok (.getfield 98, 3) := by decide +kernel
theorem dX6_atom_24 : decode cX6_atom 24 = .ok (.ifCond .eq 21, 3) := by decide +kernel
theorem dX6_atom_27 : decode cX6_atom 27 = .ok (.aload_n 0, 1) := by decide +kernel
theorem dX6_atom_28 : decode cX6_atom 28 = .ok (.getfield 17, 3) := by decide +kernel
theorem dX6_atom_31 : decode cX6_atom 31 = .ok (.aload_n 0, 1) := by decide +kernel
theorem dX6_atom_32 : decode cX6_atom 32 = .ok (.getfield 98, 3) := by decide +kernel
theorem dX6_atom_35 : decode cX6_atom 35 = .ok (.iconst 1, 1) := by decide +kernel
theorem dX6_atom_36 : decode cX6_atom 36 = .ok (.isub, 1) := by decide +kernel
theorem dX6_atom_37 : decode cX6_atom 37 = .ok (.aaload, 1) := by decide +kernel
theorem dX6_atom_38 : decode cX6_atom 38 = .ok (.getfield 111, 3) := by decide +kernel
theorem dX6_atom_41 : decode cX6_atom 41 = .ok (.iconst 2, 1) := by decide +kernel
theorem dX6_atom_42 : decode cX6_atom 42 = .ok (.if_icmp .ne 13, 3) := by decide +kernel
theorem dX6_atom_45 : decode cX6_atom 45 = .ok (.new 60, 3) := by decide +kernel
theorem dX6_atom_48 : decode cX6_atom 48 = .ok (.dup, 1) := by decide +kernel
theorem dX6_atom_49 : decode cX6_atom 49 = .ok (.ldc 114, 2) := by decide +kernel
theorem dX6_atom_51 : decode cX6_atom 51 = .ok (.invokespecial 64, 3) := by decide +kernel
theorem dX6_atom_54 : decode cX6_atom 54 = .ok (.athrow, 1) := by decide +kernel
theorem dX6_atom_55 : decode cX6_atom 55 = .ok (.aload_n 0, 1) := by decide +kernel
theorem dX6_atom_56 : decode cX6_atom 56 = .ok (.getfield 17, 3) := by decide +kernel
theorem dX6_atom_59 : decode cX6_atom 59 = .ok (.aload_n 0, 1) := by decide +kernel
theorem dX6_atom_60 : decode cX6_atom 60 = .ok (.getfield 98, 3) := by decide +kernel
theorem dX6_atom_63 : decode cX6_atom 63 = .ok (.iconst 1, 1) := by decide +kernel
theorem dX6_atom_64 : decode cX6_atom 64 = .ok (.isub, 1) := by decide +kernel
theorem dX6_atom_65 : decode cX6_atom 65 = .ok (.aaload, 1) := by decide +kernel
theorem dX6_atom_66 : decode cX6_atom 66 = .ok (.astore 4, 2) := by decide +kernel
theorem dX6_atom_68 : decode cX6_atom 68 = .ok (.aload_n 0, 1) := by decide +kernel
theorem dX6_atom_69 : decode cX6_atom 69 = .ok (.aload 4, 2) := by decide +kernel
theorem dX6_atom_71 : decode cX6_atom 71 = .ok (.getfield 116, 3) := by decide +kernel
theorem dX6_atom_74 : decode cX6_atom 74 = .ok (.aload 4, 2) := by decide +kernel
theorem dX6_atom_76 : decode cX6_atom 76 = .ok (.getfield 111, 3) := by decide +kernel
theorem dX6_atom_79 : decode cX6_atom 79 = .ok (.aaload, 1) := by decide +kernel
theorem dX6_atom_80 : decode cX6_atom 80 = .ok (.iload_n 1, 1) := by decide +kernel
theorem dX6_atom_81 : decode cX6_atom 81 = .ok (.iload_n 2, 1) := by decide +kernel
theorem dX6_atom_82 : decode cX6_atom 82 = .ok (.iload_n 3, 1) := by decide +kernel
theorem dX6_atom_83 : decode cX6_atom 83 = .ok (.invokevirtual 107, 3) := by decide +kernel
theorem dX6_atom_86 : decode cX6_atom 86 = .ok (.aload 4, 2) := by decide +kernel
theorem dX6_atom_88 : decode cX6_atom 88 = .ok (.dup, 1) := by decide +kernel
theorem dX6_atom_89 : decode cX6_atom 89 = .ok (.getfield 111, 3) := by decide +kernel
theorem dX6_atom_92 : decode cX6_atom 92 = .ok (.iconst 1, 1) := by decide +kernel
theorem dX6_atom_93 : decode cX6_atom 93 = .ok (.iadd, 1) := by decide +kernel
theorem dX6_atom_94 : decode cX6_atom 94 = .ok (.putfield 111, 3) := by decide +kernel
theorem dX6_atom_97 : decode cX6_atom 97 = .ok (.aload_n 0, 1) := by decide +kernel
theorem dX6_atom_98 : decode cX6_atom 98 = .ok (.invokevirtual 68, 3) := by decide +kernel
theorem dX6_atom_101 : decode cX6_atom 101 = .ok (.aload 4, 2) := by decide +kernel
theorem dX6_atom_103 : decode cX6_atom 103 = .ok (.getfield 111, 3) := by decide +kernel
theorem dX6_atom_106 : decode cX6_atom 106 = .ok (.iconst 1, 1) := by decide +kernel
theorem dX6_atom_107 : decode cX6_atom 107 = .ok (.isub, 1) := by decide +kernel
theorem dX6_atom_108 : decode cX6_atom 108 = .ok (.ireturn, 1) := by decide +kernel
theorem dX6_bound_0 : decode cX6_bound 0 = .ok (.iload_n 1, 1) := by decide +kernel
theorem dX6_bound_1 : decode cX6_bound 1 = .ok (.iload_n 2, 1) := by decide +kernel
theorem dX6_bound_2 : decode cX6_bound 2 = .ok (.invokestatic 120, 3) := by decide +kernel
theorem dX6_bound_5 : decode cX6_bound 5 = .ok (.ifCond .eq 10, 3) := by decide +kernel
theorem dX6_bound_8 : decode cX6_bound 8 = .ok (.iload_n 3, 1) := by decide +kernel
theorem dX6_bound_9 : decode cX6_bound 9 = .ok (.invokestatic 124, 3) := by decide +kernel
theorem dX6_bound_12 : decode cX6_bound 12 = .ok (.ifCond .ne 13, 3) := by decide +kernel
theorem dX6_bound_15 : decode cX6_bound 15 = .ok (.new 50, 3) := by decide +kernel
theorem dX6_bound_18 : decode cX6_bound 18 = .ok (.dup, 1) := by decide +kernel
theorem dX6_bound_19 : decode cX6_bound 19 = .ok (.ldc 127, 2) := by decide +kernel
theorem dX6_bound_21 : decode cX6_bound 21 = .ok (.invokespecial 54, 3) := by decide +kernel
theorem dX6_bound_24 : decode cX6_bound 24 = .ok (.athrow, 1) := by decide +kernel
theorem dX6_bound_25 : decode cX6_bound 25 = .ok (.aload_n 0, 1) := by decide +kernel
theorem dX6_bound_26 : decode cX6_bound 26 = .ok (.getfield 98, 3) := by decide +kernel
theorem dX6_bound_29 : decode cX6_bound 29 = .ok (.ifCond .eq 22, 3) := by decide +kernel
theorem dX6_bound_32 : decode cX6_bound 32 = .ok (.aload_n 0, 1) := by decide +kernel
theorem dX6_bound_33 : decode cX6_bound 33 = .ok (.getfield 17, 3) := by decide +kernel
theorem dX6_bound_36 : decode cX6_bound 36 = .ok (.aload_n 0, 1) := by decide +kernel
theorem dX6_bound_37 : decode cX6_bound 37 = .ok (.getfield 98, 3) := by decide +kernel
theorem dX6_bound_40 : decode cX6_bound 40 = .ok (.iconst 1, 1) := by decide +kernel
theorem dX6_bound_41 : decode cX6_bound 41 = .ok (.isub, 1) := by decide +kernel
theorem dX6_bound_42 : decode cX6_bound 42 = .ok (.aaload, 1) := by decide +kernel
theorem dX6_bound_43 : decode cX6_bound 43 = .ok (.getfield 129, 3) := by decide +kernel
theorem dX6_bound_46 : decode cX6_bound 46 = .ok (.bipush 8, 2) := by decide +kernel
theorem dX6_bound_48 : decode cX6_bound 48 = .ok (.if_icmp .ne 13, 3) := by decide +kernel
theorem dX6_bound_51 : decode cX6_bound 51 = .ok (.new 60, 3) := by decide +kernel
theorem dX6_bound_54 : decode cX6_bound 54 = .ok (.dup, 1) := by decide +kernel
theorem dX6_bound_55 : decode cX6_bound 55 = .ok (.ldc 132, 2) := by decide +kernel
theorem dX6_bound_57 : decode cX6_bound 57 = .ok (.invokespecial 64, 3) := by decide +kernel
theorem dX6_bound_60 : decode cX6_bound 60 = .ok (.athrow, 1) := by decide +kernel
theorem dX6_bound_61 : decode cX6_bound 61 = .ok (.aload_n 0, 1) := by decide +kernel
theorem dX6_bound_62 : decode cX6_bound 62 = .ok (.getfield 17, 3) := by decide +kernel
theorem dX6_bound_65 : decode cX6_bound 65 = .ok (.aload_n 0, 1) := by decide +kernel
theorem dX6_bound_66 : decode cX6_bound 66 = .ok (.getfield 98, 3) := by decide +kernel
theorem dX6_bound_69 : decode cX6_bound 69 = .ok (.iconst 1, 1) := by decide +kernel
theorem dX6_bound_70 : decode cX6_bound 70 = .ok (.isub, 1) := by decide +kernel
theorem dX6_bound_71 : decode cX6_bound 71 = .ok (.aaload, 1) := by decide +kernel
theorem dX6_bound_72 : decode cX6_bound 72 = .ok (.astore 4, 2) := by decide +kernel
theorem dX6_bound_74 : decode cX6_bound 74 = .ok (.aload 4, 2) := by decide +kernel
theorem dX6_bound_76 : decode cX6_bound 76 = .ok (.getfield 134, 3) := by decide +kernel
theorem dX6_bound_79 : decode cX6_bound 79 = .ok (.iload_n 1, 1) := by decide +kernel
theorem dX6_bound_80 : decode cX6_bound 80 = .ok (.iload_n 2, 1) := by decide +kernel
theorem dX6_bound_81 : decode cX6_bound 81 = .ok (.iload_n 3, 1) := by decide +kernel
theorem dX6_bound_82 : decode cX6_bound 82 = .ok (.invokevirtual 137, 3) := by decide +kernel
theorem dX6_bound_85 : decode cX6_bound 85 = .ok (.aload 4, 2) := by decide +kernel
theorem dX6_bound_87 : decode cX6_bound 87 = .ok (.dup, 1) := by decide +kernel
theorem dX6_bound_88 : decode cX6_bound 88 = .ok (.getfield 129, 3) := by decide +kernel
theorem dX6_bound_91 : decode cX6_bound 91 = .ok (.iconst 1, 1) := by decide +kernel
theorem dX6_bound_92 : decode cX6_bound 92 = .ok (.iadd, 1) := by decide +kernel
theorem dX6_bound_93 : decode cX6_bound 93 = .ok (.putfield 129, 3) := by decide +kernel
theorem dX6_bound_96 : decode cX6_bound 96 = .ok (.aload_n 0, 1) := by decide +kernel
theorem dX6_bound_97 : decode cX6_bound 97 = .ok (.invokevirtual 68, 3) := by decide +kernel
theorem dX6_bound_100 : decode cX6_bound 100 = .ok (.aload 4, 2) := by decide +kernel
theorem dX6_bound_102 : decode cX6_bound 102 = .ok (.getfield 129, 3) := by decide +kernel
theorem dX6_bound_105 : decode cX6_bound 105 = .ok (.ireturn, 1) := by decide +kernel
theorem dX6_round_0 : decode cX6_round 0 = .ok (.aload_n 0, 1) := by decide +kernel
theorem dX6_round_1 : decode cX6_round 1 = .ok (.getfield 47, 3) := by decide +kernel
theorem dX6_round_4 : decode cX6_round 4 = .ok (.ifCond .ne 11, 3) := by decide +kernel
theorem dX6_round_7 : decode cX6_round 7 = .ok (.aload_n 0, 1) := by decide +kernel
theorem dX6_round_8 : decode cX6_round 8 = .ok (.getfield 43, 3) := by decide +kernel
theorem dX6_round_11 : decode cX6_round 11 = .ok (.iconst (-1), 1) := by decide +kernel
theorem dX6_round_12 : decode cX6_round 12 = .ok (.if_icmp .eq 13, 3) := by decide +kernel
theorem dX6_round_15 : decode cX6_round 15 = .ok (.new 60, 3) := by decide +kernel
theorem dX6_round_18 : decode cX6_round 18 = .ok (.dup, 1) := by decide +kernel
theorem dX6_round_19 : decode cX6_round 19 = .ok (.ldc 140, 2) := by decide +kernel
theorem dX6_round_21 : decode cX6_round 21 = .ok (.invokespecial 64, 3) := by decide +kernel
theorem dX6_round_24 : decode cX6_round 24 = .ok (.athrow, 1) := by decide +kernel
theorem dX6_round_25 : decode cX6_round 25 = .ok (.aload_n 0, 1) := by decide +kernel
theorem dX6_round_26 : decode cX6_round 26 = .ok (.invokevirtual 142, 3) := by decide +kernel
theorem dX6_round_29 : decode cX6_round 29 = .ok (.ireturn, 1) := by decide +kernel
theorem dX6_refine_0 : decode cX6_refine 0 = .ok (.aload_n 0, 1) := by decide +kernel
theorem dX6_refine_1 : decode cX6_refine 1 = .ok (.getfield 47, 3) := by decide +kernel
theorem dX6_refine_4 : decode cX6_refine 4 = .ok (.ifCond .ne 11, 3) := by decide +kernel
theorem dX6_refine_7 : decode cX6_refine 7 = .ok (.aload_n 0, 1) := by decide +kernel
theorem dX6_refine_8 : decode cX6_refine 8 = .ok (.getfield 43, 3) := by decide +kernel
theorem dX6_refine_11 : decode cX6_refine 11 = .ok (.iconst (-1), 1) := by decide +kernel
theorem dX6_refine_12 : decode cX6_refine 12 = .ok (.if_icmp .ne 13, 3) := by decide +kernel
theorem dX6_refine_15 : decode cX6_refine 15 = .ok (.new 60, 3) := by decide +kernel
theorem dX6_refine_18 : decode cX6_refine 18 = .ok (.dup, 1) := by decide +kernel
theorem dX6_refine_19 : decode cX6_refine 19 = .ok (.ldc 146, 2) := by decide +kernel
theorem dX6_refine_21 : decode cX6_refine 21 = .ok (.invokespecial 64, 3) := by decide +kernel
theorem dX6_refine_24 : decode cX6_refine 24 = .ok (.athrow, 1) := by decide +kernel
theorem dX6_refine_25 : decode cX6_refine 25 = .ok (.aload_n 0, 1) := by decide +kernel
theorem dX6_refine_26 : decode cX6_refine 26 = .ok (.invokevirtual 148, 3) := by decide +kernel
theorem dX6_refine_29 : decode cX6_refine 29 = .ok (.ireturn, 1) := by decide +kernel
theorem dX6_verify_0 : decode cX6_verify 0 = .ok (.iload_n 1, 1) := by decide +kernel
theorem dX6_verify_1 : decode cX6_verify 1 = .ok (.ifCond .lt 9, 3) := by decide +kernel
theorem dX6_verify_4 : decode cX6_verify 4 = .ok (.iload_n 1, 1) := by decide +kernel
theorem dX6_verify_5 : decode cX6_verify 5 = .ok (.bipush 100, 2) := by decide +kernel
theorem dX6_verify_7 : decode cX6_verify 7 = .ok (.if_icmp .le 13, 3) := by decide +kernel
theorem dX6_verify_10 : decode cX6_verify 10 = .ok (.new 50, 3) := by decide +kernel
theorem dX6_verify_13 : decode cX6_verify 13 = .ok (.dup, 1) := by decide +kernel
theorem dX6_verify_14 : decode cX6_verify 14 = .ok (.ldc 151, 2) := by decide +kernel
theorem dX6_verify_16 : decode cX6_verify 16 = .ok (.invokespecial 54, 3) := by decide +kernel
theorem dX6_verify_19 : decode cX6_verify 19 = .ok (.athrow, 1) := by decide +kernel
theorem dX6_verify_20 : decode cX6_verify 20 = .ok (.iconst 0, 1) := by decide +kernel
theorem dX6_verify_21 : decode cX6_verify 21 = .ok (.istore_n 2, 1) := by decide +kernel
theorem dX6_verify_22 : decode cX6_verify 22 = .ok (.iload_n 2, 1) := by decide +kernel
theorem dX6_verify_23 : decode cX6_verify 23 = .ok (.iload_n 1, 1) := by decide +kernel
theorem dX6_verify_24 : decode cX6_verify 24 = .ok (.if_icmp .ge 37, 3) := by decide +kernel
theorem dX6_verify_27 : decode cX6_verify 27 = .ok (.aload_n 0, 1) := by decide +kernel
theorem dX6_verify_28 : decode cX6_verify 28 = .ok (.getfield 47, 3) := by decide +kernel
theorem dX6_verify_31 : decode cX6_verify 31 = .ok (.ifCond .ne 30, 3) := by decide +kernel
theorem dX6_verify_34 : decode cX6_verify 34 = .ok (.aload_n 0, 1) := by decide +kernel
theorem dX6_verify_35 : decode cX6_verify 35 = .ok (.getfield 43, 3) := by decide +kernel
theorem dX6_verify_38 : decode cX6_verify 38 = .ok (.iconst (-1), 1) := by decide +kernel
theorem dX6_verify_39 : decode cX6_verify 39 = .ok (.if_icmp .ne 11, 3) := by decide +kernel
theorem dX6_verify_42 : decode cX6_verify 42 = .ok (.aload_n 0, 1) := by decide +kernel
theorem dX6_verify_43 : decode cX6_verify 43 = .ok (.invokevirtual 142, 3) := by decide +kernel
theorem dX6_verify_46 : decode cX6_verify 46 = .ok (.pop, 1) := by decide +kernel
theorem dX6_verify_47 : decode cX6_verify 47 = .ok (.goto 8, 3) := by decide +kernel
theorem dX6_verify_50 : decode cX6_verify 50 = .ok (.aload_n 0, 1) := by decide +kernel
theorem dX6_verify_51 : decode cX6_verify 51 = .ok (.invokevirtual 148, 3) := by decide +kernel
theorem dX6_verify_54 : decode cX6_verify 54 = .ok (.pop, 1) := by decide +kernel
theorem dX6_verify_55 : decode cX6_verify 55 = .ok (.iinc 2 1, 3) := by decide +kernel
theorem dX6_verify_58 : decode cX6_verify 58 = .ok (.goto (-36), 3) := by decide +kernel
theorem dX6_verify_61 : decode cX6_verify 61 = .ok (.aload_n 0, 1) := by decide +kernel
theorem dX6_verify_62 : decode cX6_verify 62 = .ok (.getfield 47, 3) := by decide +kernel
theorem dX6_verify_65 : decode cX6_verify 65 = .ok (.ireturn, 1) := by decide +kernel
theorem dX6_start_0 : decode cX6_start 0 = .ok (.aload_n 0, 1) := by decide +kernel
theorem dX6_start_1 : decode cX6_start 1 = .ok (.invokevirtual 68, 3) := by decide +kernel
theorem dX6_start_4 : decode cX6_start 4 = .ok (.return_, 1) := by decide +kernel
theorem dX6_check_0 : decode cX6_check 0 = .ok (.iconst 0, 1) := by decide +kernel
theorem dX6_check_1 : decode cX6_check 1 = .ok (.istore_n 1, 1) := by decide +kernel
theorem dX6_check_2 : decode cX6_check 2 = .ok (.iload_n 1, 1) := by decide +kernel
theorem dX6_check_3 : decode cX6_check 3 = .ok (.aload_n 0, 1) := by decide +kernel
theorem dX6_check_4 : decode cX6_check 4 = .ok (.getfield 98, 3) := by decide +kernel
theorem dX6_check_7 : decode cX6_check 7 = .ok (.if_icmp .ge 24, 3) := by decide +kernel
theorem dX6_check_10 : decode cX6_check 10 = .ok (.aload_n 0, 1) := by decide +kernel
theorem dX6_check_11 : decode cX6_check 11 = .ok (.aload_n 0, 1) := by decide +kernel
theorem dX6_check_12 : decode cX6_check 12 = .ok (.getfield 17, 3) := by decide +kernel
theorem dX6_check_15 : decode cX6_check 15 = .ok (.iload_n 1, 1) := by decide +kernel
theorem dX6_check_16 : decode cX6_check 16 = .ok (.aaload, 1) := by decide +kernel
theorem dX6_check_17 : decode cX6_check 17 = .ok (.invokevirtual 153, 3) := by decide +kernel
theorem dX6_check_20 : decode cX6_check 20 = .ok (.ifCond .ne 5, 3) := by decide +kernel
theorem dX6_check_23 : decode cX6_check 23 = .ok (.iload_n 1, 1) := by decide +kernel
theorem dX6_check_24 : decode cX6_check 24 = .ok (.ireturn, 1) := by decide +kernel
theorem dX6_check_25 : decode cX6_check 25 = .ok (.iinc 1 1, 3) := by decide +kernel
theorem dX6_check_28 : decode cX6_check 28 = .ok (.goto (-26), 3) := by decide +kernel
theorem dX6_check_31 : decode cX6_check 31 = .ok (.iconst (-1), 1) := by decide +kernel
theorem dX6_check_32 : decode cX6_check 32 = .ok (.ireturn, 1) := by decide +kernel
theorem dX6_follows_0 : decode cX6_follows 0 = .ok (.iload_n 1, 1) := by decide +kernel
theorem dX6_follows_1 : decode cX6_follows 1 = .ok (.ifCond .lt 19, 3) := by decide +kernel
theorem dX6_follows_4 : decode cX6_follows 4 = .ok (.iload_n 1, 1) := by decide +kernel
theorem dX6_follows_5 : decode cX6_follows 5 = .ok (.aload_n 0, 1) := by decide +kernel
theorem dX6_follows_6 : decode cX6_follows 6 = .ok (.getfield 98, 3) := by decide +kernel
theorem dX6_follows_9 : decode cX6_follows 9 = .ok (.if_icmp .ge 11, 3) := by decide +kernel
theorem dX6_follows_12 : decode cX6_follows 12 = .ok (.iload_n 2, 1) := by decide +kernel
theorem dX6_follows_13 : decode cX6_follows 13 = .ok (.iload_n 3, 1) := by decide +kernel
theorem dX6_follows_14 : decode cX6_follows 14 = .ok (.invokestatic 120, 3) := by decide +kernel
theorem dX6_follows_17 : decode cX6_follows 17 = .ok (.ifCond .ne 13, 3) := by decide +kernel
theorem dX6_follows_20 : decode cX6_follows 20 = .ok (.new 50, 3) := by decide +kernel
theorem dX6_follows_23 : decode cX6_follows 23 = .ok (.dup, 1) := by decide +kernel
theorem dX6_follows_24 : decode cX6_follows 24 = .ok (.ldc 157, 2) := by decide +kernel
theorem dX6_follows_26 : decode cX6_follows 26 = .ok (.invokespecial 54, 3) := by decide +kernel
theorem dX6_follows_29 : decode cX6_follows 29 = .ok (.athrow, 1) := by decide +kernel
theorem dX6_follows_30 : decode cX6_follows 30 = .ok (.aload_n 0, 1) := by decide +kernel
theorem dX6_follows_31 : decode cX6_follows 31 = .ok (.getfield 17, 3) := by decide +kernel
theorem dX6_follows_34 : decode cX6_follows 34 = .ok (.iload_n 1, 1) := by decide +kernel
theorem dX6_follows_35 : decode cX6_follows 35 = .ok (.aaload, 1) := by decide +kernel
theorem dX6_follows_36 : decode cX6_follows 36 = .ok (.getfield 134, 3) := by decide +kernel
theorem dX6_follows_39 : decode cX6_follows 39 = .ok (.astore 4, 2) := by decide +kernel
theorem dX6_follows_41 : decode cX6_follows 41 = .ok (.aload 4, 2) := by decide +kernel
theorem dX6_follows_43 : decode cX6_follows 43 = .ok (.getfield 159, 3) := by decide +kernel
theorem dX6_follows_46 : decode cX6_follows 46 = .ok (.ifCond .ne 13, 3) := by decide +kernel
theorem dX6_follows_49 : decode cX6_follows 49 = .ok (.new 163, 3) := by decide +kernel
theorem dX6_follows_52 : decode cX6_follows 52 = .ok (.dup, 1) := by decide +kernel
theorem dX6_follows_53 : decode cX6_follows 53 = .ok (.ldc 165, 2) := by decide +kernel
theorem dX6_follows_55 : decode cX6_follows 55 = .ok (.invokespecial 167, 3) := by decide +kernel
theorem dX6_follows_58 : decode cX6_follows 58 = .ok (.athrow, 1) := by decide +kernel
theorem dX6_follows_59 : decode cX6_follows 59 = .ok (.aload 4, 2) := by decide +kernel
theorem dX6_follows_61 : decode cX6_follows 61 = .ok (.iload_n 2, 1) := by decide +kernel
theorem dX6_follows_62 : decode cX6_follows 62 = .ok (.iload_n 3, 1) := by decide +kernel
theorem dX6_follows_63 : decode cX6_follows 63 = .ok (.invokevirtual 168, 3) := by decide +kernel
theorem dX6_follows_66 : decode cX6_follows 66 = .ok (.istore 5, 2) := by decide +kernel
theorem dX6_follows_68 : decode cX6_follows 68 = .ok (.iload 5, 2) := by decide +kernel
theorem dX6_follows_70 : decode cX6_follows 70 = .ok (.ldc 172, 2) := by decide +kernel
theorem dX6_follows_72 : decode cX6_follows 72 = .ok (.if_icmp .ne 13, 3) := by decide +kernel
theorem dX6_follows_75 : decode cX6_follows 75 = .ok (.new 173, 3) := by decide +kernel
theorem dX6_follows_78 : decode cX6_follows 78 = .ok (.dup, 1) := by decide +kernel
theorem dX6_follows_79 : decode cX6_follows 79 = .ok (.ldc 175, 2) := by decide +kernel
theorem dX6_follows_81 : decode cX6_follows 81 = .ok (.invokespecial 177, 3) := by decide +kernel
theorem dX6_follows_84 : decode cX6_follows 84 = .ok (.athrow, 1) := by decide +kernel
theorem dX6_follows_85 : decode cX6_follows 85 = .ok (.iload 5, 2) := by decide +kernel
theorem dX6_follows_87 : decode cX6_follows 87 = .ok (.ireturn, 1) := by decide +kernel
theorem dX6_state_0 : decode cX6_state 0 = .ok (.iload_n 1, 1) := by decide +kernel
theorem dX6_state_1 : decode cX6_state 1 = .ok (.tableswitch 81 0 6 #[43, 48, 53, 58, 63, 68, 76], 43) := by decide +kernel
theorem dX6_state_44 : decode cX6_state 44 = .ok (.aload_n 0, 1) := by decide +kernel
theorem dX6_state_45 : decode cX6_state 45 = .ok (.getfield 57, 3) := by decide +kernel
theorem dX6_state_48 : decode cX6_state 48 = .ok (.ireturn, 1) := by decide +kernel
theorem dX6_state_49 : decode cX6_state 49 = .ok (.aload_n 0, 1) := by decide +kernel
theorem dX6_state_50 : decode cX6_state 50 = .ok (.getfield 98, 3) := by decide +kernel
theorem dX6_state_53 : decode cX6_state 53 = .ok (.ireturn, 1) := by decide +kernel
theorem dX6_state_54 : decode cX6_state 54 = .ok (.aload_n 0, 1) := by decide +kernel
theorem dX6_state_55 : decode cX6_state 55 = .ok (.getfield 47, 3) := by decide +kernel
theorem dX6_state_58 : decode cX6_state 58 = .ok (.ireturn, 1) := by decide +kernel
theorem dX6_state_59 : decode cX6_state 59 = .ok (.aload_n 0, 1) := by decide +kernel
theorem dX6_state_60 : decode cX6_state 60 = .ok (.getfield 178, 3) := by decide +kernel
theorem dX6_state_63 : decode cX6_state 63 = .ok (.ireturn, 1) := by decide +kernel
theorem dX6_state_64 : decode cX6_state 64 = .ok (.aload_n 0, 1) := by decide +kernel
theorem dX6_state_65 : decode cX6_state 65 = .ok (.getfield 43, 3) := by decide +kernel
theorem dX6_state_68 : decode cX6_state 68 = .ok (.ireturn, 1) := by decide +kernel
theorem dX6_state_69 : decode cX6_state 69 = .ok (.aload_n 0, 1) := by decide +kernel
theorem dX6_state_70 : decode cX6_state 70 = .ok (.getfield 24, 3) := by decide +kernel
theorem dX6_state_73 : decode cX6_state 73 = .ok (.getfield 181, 3) := by decide +kernel
theorem dX6_state_76 : decode cX6_state 76 = .ok (.ireturn, 1) := by decide +kernel
theorem dX6_state_77 : decode cX6_state 77 = .ok (.aload_n 0, 1) := by decide +kernel
theorem dX6_state_78 : decode cX6_state 78 = .ok (.getfield 184, 3) := by decide +kernel
theorem dX6_state_81 : decode cX6_state 81 = .ok (.ireturn, 1) := by decide +kernel
theorem dX6_state_82 : decode cX6_state 82 = .ok (.iconst (-1), 1) := by decide +kernel
theorem dX6_state_83 : decode cX6_state 83 = .ok (.ireturn, 1) := by decide +kernel
theorem dX6_shown_0 : decode cX6_shown 0 = .ok (.aload_n 0, 1) := by decide +kernel
theorem dX6_shown_1 : decode cX6_shown 1 = .ok (.iload_n 1, 1) := by decide +kernel
theorem dX6_shown_2 : decode cX6_shown 2 = .ok (.invokevirtual 71, 3) := by decide +kernel
theorem dX6_shown_5 : decode cX6_shown 5 = .ok (.ifCond .eq 12, 3) := by decide +kernel
theorem dX6_shown_8 : decode cX6_shown 8 = .ok (.iload_n 3, 1) := by decide +kernel
theorem dX6_shown_9 : decode cX6_shown 9 = .ok (.ifCond .lt 8, 3) := by decide +kernel
theorem dX6_shown_12 : decode cX6_shown 12 = .ok (.iload_n 3, 1) := by decide +kernel
theorem dX6_shown_13 : decode cX6_shown 13 = .ok (.iconst 2, 1) := by decide +kernel
theorem dX6_shown_14 : decode cX6_shown 14 = .ok (.if_icmp .le 13, 3) := by decide +kernel
theorem dX6_shown_17 : decode cX6_shown 17 = .ok (.new 50, 3) := by decide +kernel
theorem dX6_shown_20 : decode cX6_shown 20 = .ok (.dup, 1) := by decide +kernel
theorem dX6_shown_21 : decode cX6_shown 21 = .ok (.ldc 187, 2) := by decide +kernel
theorem dX6_shown_23 : decode cX6_shown 23 = .ok (.invokespecial 54, 3) := by decide +kernel
theorem dX6_shown_26 : decode cX6_shown 26 = .ok (.athrow, 1) := by decide +kernel
theorem dX6_shown_27 : decode cX6_shown 27 = .ok (.aload_n 0, 1) := by decide +kernel
theorem dX6_shown_28 : decode cX6_shown 28 = .ok (.getfield 11, 3) := by decide +kernel
theorem dX6_shown_31 : decode cX6_shown 31 = .ok (.iload_n 1, 1) := by decide +kernel
theorem dX6_shown_32 : decode cX6_shown 32 = .ok (.aaload, 1) := by decide +kernel
theorem dX6_shown_33 : decode cX6_shown 33 = .ok (.astore 4, 2) := by decide +kernel
theorem dX6_shown_35 : decode cX6_shown 35 = .ok (.iload_n 2, 1) := by decide +kernel
theorem dX6_shown_36 : decode cX6_shown 36 = .ok (.ifCond .lt 12, 3) := by decide +kernel
theorem dX6_shown_39 : decode cX6_shown 39 = .ok (.iload_n 2, 1) := by decide +kernel
theorem dX6_shown_40 : decode cX6_shown 40 = .ok (.aload 4, 2) := by decide +kernel
theorem dX6_shown_42 : decode cX6_shown 42 = .ok (.getfield 81, 3) := by decide +kernel
theorem dX6_shown_45 : decode cX6_shown 45 = .ok (.if_icmp .lt 13, 3) := by decide +kernel
theorem dX6_shown_48 : decode cX6_shown 48 = .ok (.new 173, 3) := by decide +kernel
theorem dX6_shown_51 : decode cX6_shown 51 = .ok (.dup, 1) := by decide +kernel
theorem dX6_shown_52 : decode cX6_shown 52 = .ok (.ldc 189, 2) := by decide +kernel
theorem dX6_shown_54 : decode cX6_shown 54 = .ok (.invokespecial 177, 3) := by decide +kernel
theorem dX6_shown_57 : decode cX6_shown 57 = .ok (.athrow, 1) := by decide +kernel
theorem dX6_shown_58 : decode cX6_shown 58 = .ok (.iload_n 3, 1) := by decide +kernel
theorem dX6_shown_59 : decode cX6_shown 59 = .ok (.ifCond .ne 11, 3) := by decide +kernel
theorem dX6_shown_62 : decode cX6_shown 62 = .ok (.aload 4, 2) := by decide +kernel
theorem dX6_shown_64 : decode cX6_shown 64 = .ok (.getfield 191, 3) := by decide +kernel
theorem dX6_shown_67 : decode cX6_shown 67 = .ok (.iload_n 2, 1) := by decide +kernel
theorem dX6_shown_68 : decode cX6_shown 68 = .ok (.iaload, 1) := by decide +kernel
theorem dX6_shown_69 : decode cX6_shown 69 = .ok (.ireturn, 1) := by decide +kernel
theorem dX6_shown_70 : decode cX6_shown 70 = .ok (.iload_n 3, 1) := by decide +kernel
theorem dX6_shown_71 : decode cX6_shown 71 = .ok (.iconst 1, 1) := by decide +kernel
theorem dX6_shown_72 : decode cX6_shown 72 = .ok (.if_icmp .ne 13, 3) := by decide +kernel
theorem dX6_shown_75 : decode cX6_shown 75 = .ok (.aload 4, 2) := by decide +kernel
theorem dX6_shown_77 : decode cX6_shown 77 = .ok (.getfield 195, 3) := by decide +kernel
theorem dX6_shown_80 : decode cX6_shown 80 = .ok (.iload_n 2, 1) := by decide +kernel
theorem dX6_shown_81 : decode cX6_shown 81 = .ok (.iaload, 1) := by decide +kernel
theorem dX6_shown_82 : decode cX6_shown 82 = .ok (.goto 10, 3) := by decide +kernel
theorem dX6_shown_85 : decode cX6_shown 85 = .ok (.aload 4, 2) := by decide +kernel
theorem dX6_shown_87 : decode cX6_shown 87 = .ok (.getfield 198, 3) := by decide +kernel
theorem dX6_shown_90 : decode cX6_shown 90 = .ok (.iload_n 2, 1) := by decide +kernel
theorem dX6_shown_91 : decode cX6_shown 91 = .ok (.iaload, 1) := by decide +kernel
theorem dX6_shown_92 : decode cX6_shown 92 = .ok (.ireturn, 1) := by decide +kernel
theorem dX6_cube_0 : decode cX6_cube 0 = .ok (.aload_n 0, 1) := by decide +kernel
theorem dX6_cube_1 : decode cX6_cube 1 = .ok (.iload_n 1, 1) := by decide +kernel
theorem dX6_cube_2 : decode cX6_cube 2 = .ok (.invokevirtual 71, 3) := by decide +kernel
theorem dX6_cube_5 : decode cX6_cube 5 = .ok (.ifCond .eq 29, 3) := by decide +kernel
theorem dX6_cube_8 : decode cX6_cube 8 = .ok (.iload_n 2, 1) := by decide +kernel
theorem dX6_cube_9 : decode cX6_cube 9 = .ok (.ifCond .lt 25, 3) := by decide +kernel
theorem dX6_cube_12 : decode cX6_cube 12 = .ok (.iload_n 2, 1) := by decide +kernel
theorem dX6_cube_13 : decode cX6_cube 13 = .ok (.aload_n 0, 1) := by decide +kernel
theorem dX6_cube_14 : decode cX6_cube 14 = .ok (.getfield 11, 3) := by decide +kernel
theorem dX6_cube_17 : decode cX6_cube 17 = .ok (.iload_n 1, 1) := by decide +kernel
theorem dX6_cube_18 : decode cX6_cube 18 = .ok (.aaload, 1) := by decide +kernel
theorem dX6_cube_19 : decode cX6_cube 19 = .ok (.invokevirtual 201, 3) := by decide +kernel
theorem dX6_cube_22 : decode cX6_cube 22 = .ok (.if_icmp .ge 12, 3) := by decide +kernel
theorem dX6_cube_25 : decode cX6_cube 25 = .ok (.iload_n 3, 1) := by decide +kernel
theorem dX6_cube_26 : decode cX6_cube 26 = .ok (.ifCond .lt 8, 3) := by decide +kernel
theorem dX6_cube_29 : decode cX6_cube 29 = .ok (.iload_n 3, 1) := by decide +kernel
theorem dX6_cube_30 : decode cX6_cube 30 = .ok (.iconst 4, 1) := by decide +kernel
theorem dX6_cube_31 : decode cX6_cube 31 = .ok (.if_icmp .le 13, 3) := by decide +kernel
theorem dX6_cube_34 : decode cX6_cube 34 = .ok (.new 50, 3) := by decide +kernel
theorem dX6_cube_37 : decode cX6_cube 37 = .ok (.dup, 1) := by decide +kernel
theorem dX6_cube_38 : decode cX6_cube 38 = .ok (.ldc 204, 2) := by decide +kernel
theorem dX6_cube_40 : decode cX6_cube 40 = .ok (.invokespecial 54, 3) := by decide +kernel
theorem dX6_cube_43 : decode cX6_cube 43 = .ok (.athrow, 1) := by decide +kernel
theorem dX6_cube_44 : decode cX6_cube 44 = .ok (.aload_n 0, 1) := by decide +kernel
theorem dX6_cube_45 : decode cX6_cube 45 = .ok (.getfield 11, 3) := by decide +kernel
theorem dX6_cube_48 : decode cX6_cube 48 = .ok (.iload_n 1, 1) := by decide +kernel
theorem dX6_cube_49 : decode cX6_cube 49 = .ok (.aaload, 1) := by decide +kernel
theorem dX6_cube_50 : decode cX6_cube 50 = .ok (.astore 4, 2) := by decide +kernel
theorem dX6_cube_52 : decode cX6_cube 52 = .ok (.iload_n 3, 1) := by decide +kernel
theorem dX6_cube_53 : decode cX6_cube 53 = .ok (.ifCond .ne 11, 3) := by decide +kernel
theorem dX6_cube_56 : decode cX6_cube 56 = .ok (.aload 4, 2) := by decide +kernel
theorem dX6_cube_58 : decode cX6_cube 58 = .ok (.getfield 206, 3) := by decide +kernel
theorem dX6_cube_61 : decode cX6_cube 61 = .ok (.iload_n 2, 1) := by decide +kernel
theorem dX6_cube_62 : decode cX6_cube 62 = .ok (.iaload, 1) := by decide +kernel
theorem dX6_cube_63 : decode cX6_cube 63 = .ok (.ireturn, 1) := by decide +kernel
theorem dX6_cube_64 : decode cX6_cube 64 = .ok (.iload_n 3, 1) := by decide +kernel
theorem dX6_cube_65 : decode cX6_cube 65 = .ok (.iconst 4, 1) := by decide +kernel
theorem dX6_cube_66 : decode cX6_cube 66 = .ok (.if_icmp .ne 38, 3) := by decide +kernel
theorem dX6_cube_69 : decode cX6_cube 69 = .ok (.aload_n 0, 1) := by decide +kernel
theorem dX6_cube_70 : decode cX6_cube 70 = .ok (.getfield 38, 3) := by decide +kernel
theorem dX6_cube_73 : decode cX6_cube 73 = .ok (.invokevirtual 209, 3) := by decide +kernel
theorem dX6_cube_76 : decode cX6_cube 76 = .ok (.aload 4, 2) := by decide +kernel
theorem dX6_cube_78 : decode cX6_cube 78 = .ok (.aload_n 0, 1) := by decide +kernel
theorem dX6_cube_79 : decode cX6_cube 79 = .ok (.getfield 38, 3) := by decide +kernel
theorem dX6_cube_82 : decode cX6_cube 82 = .ok (.iload_n 2, 1) := by decide +kernel
theorem dX6_cube_83 : decode cX6_cube 83 = .ok (.iconst 0, 1) := by decide +kernel
theorem dX6_cube_84 : decode cX6_cube 84 = .ok (.iconst 1, 1) := by decide +kernel
theorem dX6_cube_85 : decode cX6_cube 85 = .ok (.invokevirtual 212, 3) := by decide +kernel
theorem dX6_cube_88 : decode cX6_cube 88 = .ok (.aload_n 0, 1) := by decide +kernel
theorem dX6_cube_89 : decode cX6_cube 89 = .ok (.getfield 38, 3) := by decide +kernel
theorem dX6_cube_92 : decode cX6_cube 92 = .ok (.getfield 159, 3) := by decide +kernel
theorem dX6_cube_95 : decode cX6_cube 95 = .ok (.ifCond .eq 7, 3) := by decide +kernel
theorem dX6_cube_98 : decode cX6_cube 98 = .ok (.iconst 1, 1) := by decide +kernel
theorem dX6_cube_99 : decode cX6_cube 99 = .ok (.goto 4, 3) := by decide +kernel
theorem dX6_cube_102 : decode cX6_cube 102 = .ok (.iconst 0, 1) := by decide +kernel
theorem dX6_cube_103 : decode cX6_cube 103 = .ok (.ireturn, 1) := by decide +kernel
theorem dX6_cube_104 : decode cX6_cube 104 = .ok (.aload 4, 2) := by decide +kernel
theorem dX6_cube_106 : decode cX6_cube 106 = .ok (.getfield 206, 3) := by decide +kernel
theorem dX6_cube_109 : decode cX6_cube 109 = .ok (.iload_n 2, 1) := by decide +kernel
theorem dX6_cube_110 : decode cX6_cube 110 = .ok (.iaload, 1) := by decide +kernel
theorem dX6_cube_111 : decode cX6_cube 111 = .ok (.ifCond .ne 5, 3) := by decide +kernel
theorem dX6_cube_114 : decode cX6_cube 114 = .ok (.iconst (-1), 1) := by decide +kernel
theorem dX6_cube_115 : decode cX6_cube 115 = .ok (.ireturn, 1) := by decide +kernel
theorem dX6_cube_116 : decode cX6_cube 116 = .ok (.iload_n 3, 1) := by decide +kernel
theorem dX6_cube_117 : decode cX6_cube 117 = .ok (.iconst 1, 1) := by decide +kernel
theorem dX6_cube_118 : decode cX6_cube 118 = .ok (.if_icmp .ne 11, 3) := by decide +kernel
theorem dX6_cube_121 : decode cX6_cube 121 = .ok (.aload 4, 2) := by decide +kernel
theorem dX6_cube_123 : decode cX6_cube 123 = .ok (.getfield 216, 3) := by decide +kernel
theorem dX6_cube_126 : decode cX6_cube 126 = .ok (.iload_n 2, 1) := by decide +kernel
theorem dX6_cube_127 : decode cX6_cube 127 = .ok (.iaload, 1) := by decide +kernel
theorem dX6_cube_128 : decode cX6_cube 128 = .ok (.ireturn, 1) := by decide +kernel
theorem dX6_cube_129 : decode cX6_cube 129 = .ok (.iload_n 3, 1) := by decide +kernel
theorem dX6_cube_130 : decode cX6_cube 130 = .ok (.iconst 2, 1) := by decide +kernel
theorem dX6_cube_131 : decode cX6_cube 131 = .ok (.if_icmp .ne 13, 3) := by decide +kernel
theorem dX6_cube_134 : decode cX6_cube 134 = .ok (.aload 4, 2) := by decide +kernel
theorem dX6_cube_136 : decode cX6_cube 136 = .ok (.getfield 219, 3) := by decide +kernel
theorem dX6_cube_139 : decode cX6_cube 139 = .ok (.iload_n 2, 1) := by decide +kernel
theorem dX6_cube_140 : decode cX6_cube 140 = .ok (.iaload, 1) := by decide +kernel
theorem dX6_cube_141 : decode cX6_cube 141 = .ok (.goto 10, 3) := by decide +kernel
theorem dX6_cube_144 : decode cX6_cube 144 = .ok (.aload 4, 2) := by decide +kernel
theorem dX6_cube_146 : decode cX6_cube 146 = .ok (.getfield 222, 3) := by decide +kernel
theorem dX6_cube_149 : decode cX6_cube 149 = .ok (.iload_n 2, 1) := by decide +kernel
theorem dX6_cube_150 : decode cX6_cube 150 = .ok (.iaload, 1) := by decide +kernel
theorem dX6_cube_151 : decode cX6_cube 151 = .ok (.ireturn, 1) := by decide +kernel
theorem dX6_node_0 : decode cX6_node 0 = .ok (.iload_n 2, 1) := by decide +kernel
theorem dX6_node_1 : decode cX6_node 1 = .ok (.ifCond .lt 8, 3) := by decide +kernel
theorem dX6_node_4 : decode cX6_node 4 = .ok (.iload_n 2, 1) := by decide +kernel
theorem dX6_node_5 : decode cX6_node 5 = .ok (.iconst 2, 1) := by decide +kernel
theorem dX6_node_6 : decode cX6_node 6 = .ok (.if_icmp .le 13, 3) := by decide +kernel
theorem dX6_node_9 : decode cX6_node 9 = .ok (.new 50, 3) := by decide +kernel
theorem dX6_node_12 : decode cX6_node 12 = .ok (.dup, 1) := by decide +kernel
theorem dX6_node_13 : decode cX6_node 13 = .ok (.ldc 225, 2) := by decide +kernel
theorem dX6_node_15 : decode cX6_node 15 = .ok (.invokespecial 54, 3) := by decide +kernel
theorem dX6_node_18 : decode cX6_node 18 = .ok (.athrow, 1) := by decide +kernel
theorem dX6_node_19 : decode cX6_node 19 = .ok (.aload_n 0, 1) := by decide +kernel
theorem dX6_node_20 : decode cX6_node 20 = .ok (.getfield 24, 3) := by decide +kernel
theorem dX6_node_23 : decode cX6_node 23 = .ok (.getfield 181, 3) := by decide +kernel
theorem dX6_node_26 : decode cX6_node 26 = .ok (.bipush 40, 2) := by decide +kernel
theorem dX6_node_28 : decode cX6_node 28 = .ok (.if_icmp .gt 18, 3) := by decide +kernel
theorem dX6_node_31 : decode cX6_node 31 = .ok (.iload_n 1, 1) := by decide +kernel
theorem dX6_node_32 : decode cX6_node 32 = .ok (.ifCond .lt 14, 3) := by decide +kernel
theorem dX6_node_35 : decode cX6_node 35 = .ok (.iload_n 1, 1) := by decide +kernel
theorem dX6_node_36 : decode cX6_node 36 = .ok (.aload_n 0, 1) := by decide +kernel
theorem dX6_node_37 : decode cX6_node 37 = .ok (.getfield 24, 3) := by decide +kernel
theorem dX6_node_40 : decode cX6_node 40 = .ok (.getfield 181, 3) := by decide +kernel
theorem dX6_node_43 : decode cX6_node 43 = .ok (.if_icmp .lt 13, 3) := by decide +kernel
theorem dX6_node_46 : decode cX6_node 46 = .ok (.new 173, 3) := by decide +kernel
theorem dX6_node_49 : decode cX6_node 49 = .ok (.dup, 1) := by decide +kernel
theorem dX6_node_50 : decode cX6_node 50 = .ok (.ldc 227, 2) := by decide +kernel
theorem dX6_node_52 : decode cX6_node 52 = .ok (.invokespecial 177, 3) := by decide +kernel
theorem dX6_node_55 : decode cX6_node 55 = .ok (.athrow, 1) := by decide +kernel
theorem dX6_node_56 : decode cX6_node 56 = .ok (.aload_n 0, 1) := by decide +kernel
theorem dX6_node_57 : decode cX6_node 57 = .ok (.getfield 24, 3) := by decide +kernel
theorem dX6_node_60 : decode cX6_node 60 = .ok (.getfield 229, 3) := by decide +kernel
theorem dX6_node_63 : decode cX6_node 63 = .ok (.iload_n 1, 1) := by decide +kernel
theorem dX6_node_64 : decode cX6_node 64 = .ok (.aaload, 1) := by decide +kernel
theorem dX6_node_65 : decode cX6_node 65 = .ok (.astore_n 3, 1) := by decide +kernel
theorem dX6_node_66 : decode cX6_node 66 = .ok (.iload_n 2, 1) := by decide +kernel
theorem dX6_node_67 : decode cX6_node 67 = .ok (.ifCond .ne 8, 3) := by decide +kernel
theorem dX6_node_70 : decode cX6_node 70 = .ok (.aload_n 3, 1) := by decide +kernel
theorem dX6_node_71 : decode cX6_node 71 = .ok (.getfield 233, 3) := by decide +kernel
theorem dX6_node_74 : decode cX6_node 74 = .ok (.ireturn, 1) := by decide +kernel
theorem dX6_node_75 : decode cX6_node 75 = .ok (.iload_n 2, 1) := by decide +kernel
theorem dX6_node_76 : decode cX6_node 76 = .ok (.iconst 1, 1) := by decide +kernel
theorem dX6_node_77 : decode cX6_node 77 = .ok (.if_icmp .ne 10, 3) := by decide +kernel
theorem dX6_node_80 : decode cX6_node 80 = .ok (.aload_n 3, 1) := by decide +kernel
theorem dX6_node_81 : decode cX6_node 81 = .ok (.getfield 238, 3) := by decide +kernel
theorem dX6_node_84 : decode cX6_node 84 = .ok (.goto 7, 3) := by decide +kernel
theorem dX6_node_87 : decode cX6_node 87 = .ok (.aload_n 3, 1) := by decide +kernel
theorem dX6_node_88 : decode cX6_node 88 = .ok (.getfield 241, 3) := by decide +kernel
theorem dX6_node_91 : decode cX6_node 91 = .ok (.ireturn, 1) := by decide +kernel
theorem dX6_isRelation_0 : decode cX6_isRelation 0 = .ok (.iload_n 1, 1) := by decide +kernel
theorem dX6_isRelation_1 : decode cX6_isRelation 1 = .ok (.ifCond .lt 15, 3) := by decide +kernel
theorem dX6_isRelation_4 : decode cX6_isRelation 4 = .ok (.iload_n 1, 1) := by decide +kernel
theorem dX6_isRelation_5 : decode cX6_isRelation 5 = .ok (.aload_n 0, 1) := by decide +kernel
theorem dX6_isRelation_6 : decode cX6_isRelation 6 = .ok (.getfield 57, 3) := by decide +kernel
theorem dX6_isRelation_9 : decode cX6_isRelation 9 = .ok (.if_icmp .ge 7, 3) := by decide +kernel
theorem dX6_isRelation_12 : decode cX6_isRelation 12 = .ok (.iconst 1, 1) := by decide +kernel
theorem dX6_isRelation_13 : decode cX6_isRelation 13 = .ok (.goto 4, 3) := by decide +kernel
theorem dX6_isRelation_16 : decode cX6_isRelation 16 = .ok (.iconst 0, 1) := by decide +kernel
theorem dX6_isRelation_17 : decode cX6_isRelation 17 = .ok (.ireturn, 1) := by decide +kernel
theorem dX6_isLiteral_0 : decode cX6_isLiteral 0 = .ok (.aload_n 0, 1) := by decide +kernel
theorem dX6_isLiteral_1 : decode cX6_isLiteral 1 = .ok (.iload_n 1, 1) := by decide +kernel
theorem dX6_isLiteral_2 : decode cX6_isLiteral 2 = .ok (.invokevirtual 71, 3) := by decide +kernel
theorem dX6_isLiteral_5 : decode cX6_isLiteral 5 = .ok (.ifCond .eq 34, 3) := by decide +kernel
theorem dX6_isLiteral_8 : decode cX6_isLiteral 8 = .ok (.iload_n 2, 1) := by decide +kernel
theorem dX6_isLiteral_9 : decode cX6_isLiteral 9 = .ok (.invokestatic 244, 3) := by decide +kernel
theorem dX6_isLiteral_12 : decode cX6_isLiteral 12 = .ok (.ifCond .eq 27, 3) := by decide +kernel
theorem dX6_isLiteral_15 : decode cX6_isLiteral 15 = .ok (.aload_n 0, 1) := by decide +kernel
theorem dX6_isLiteral_16 : decode cX6_isLiteral 16 = .ok (.getfield 11, 3) := by decide +kernel
theorem dX6_isLiteral_19 : decode cX6_isLiteral 19 = .ok (.iload_n 1, 1) := by decide +kernel
theorem dX6_isLiteral_20 : decode cX6_isLiteral 20 = .ok (.aaload, 1) := by decide +kernel
theorem dX6_isLiteral_21 : decode cX6_isLiteral 21 = .ok (.getfield 65, 3) := by decide +kernel
theorem dX6_isLiteral_24 : decode cX6_isLiteral 24 = .ok (.iconst 1, 1) := by decide +kernel
theorem dX6_isLiteral_25 : decode cX6_isLiteral 25 = .ok (.if_icmp .eq 10, 3) := by decide +kernel
theorem dX6_isLiteral_28 : decode cX6_isLiteral 28 = .ok (.iload_n 3, 1) := by decide +kernel
theorem dX6_isLiteral_29 : decode cX6_isLiteral 29 = .ok (.invokestatic 244, 3) := by decide +kernel
theorem dX6_isLiteral_32 : decode cX6_isLiteral 32 = .ok (.ifCond .eq 7, 3) := by decide +kernel
theorem dX6_isLiteral_35 : decode cX6_isLiteral 35 = .ok (.iconst 1, 1) := by decide +kernel
theorem dX6_isLiteral_36 : decode cX6_isLiteral 36 = .ok (.goto 4, 3) := by decide +kernel
theorem dX6_isLiteral_39 : decode cX6_isLiteral 39 = .ok (.iconst 0, 1) := by decide +kernel
theorem dX6_isLiteral_40 : decode cX6_isLiteral 40 = .ok (.ireturn, 1) := by decide +kernel
theorem dX6_isVariable_0 : decode cX6_isVariable 0 = .ok (.iload_n 0, 1) := by decide +kernel
theorem dX6_isVariable_1 : decode cX6_isVariable 1 = .ok (.ifCond .lt 12, 3) := by decide +kernel
theorem dX6_isVariable_4 : decode cX6_isVariable 4 = .ok (.iload_n 0, 1) := by decide +kernel
theorem dX6_isVariable_5 : decode cX6_isVariable 5 = .ok (.iconst 5, 1) := by decide +kernel
theorem dX6_isVariable_6 : decode cX6_isVariable 6 = .ok (.if_icmp .ge 7, 3) := by decide +kernel
theorem dX6_isVariable_9 : decode cX6_isVariable 9 = .ok (.iconst 1, 1) := by decide +kernel
theorem dX6_isVariable_10 : decode cX6_isVariable 10 = .ok (.goto 4, 3) := by decide +kernel
theorem dX6_isVariable_13 : decode cX6_isVariable 13 = .ok (.iconst 0, 1) := by decide +kernel
theorem dX6_isVariable_14 : decode cX6_isVariable 14 = .ok (.ireturn, 1) := by decide +kernel
theorem dX6_areTwoPoints_0 : decode cX6_areTwoPoints 0 = .ok (.iload_n 0, 1) := by decide +kernel
theorem dX6_areTwoPoints_1 : decode cX6_areTwoPoints 1 = .ok (.ifCond .lt 28, 3) := by decide +kernel
theorem dX6_areTwoPoints_4 : decode cX6_areTwoPoints 4 = .ok (.iload_n 0, 1) := by decide +kernel
theorem dX6_areTwoPoints_5 : decode cX6_areTwoPoints 5 = .ok (.bipush 6, 2) := by decide +kernel
theorem dX6_areTwoPoints_7 : decode cX6_areTwoPoints 7 = .ok (.if_icmp .ge 22, 3) := by decide +kernel
theorem dX6_areTwoPoints_10 : decode cX6_areTwoPoints 10 = .ok (.iload_n 1, 1) := by decide +kernel
theorem dX6_areTwoPoints_11 : decode cX6_areTwoPoints 11 = .ok (.ifCond .lt 18, 3) := by decide +kernel
theorem dX6_areTwoPoints_14 : decode cX6_areTwoPoints 14 = .ok (.iload_n 1, 1) := by decide +kernel
theorem dX6_areTwoPoints_15 : decode cX6_areTwoPoints 15 = .ok (.bipush 6, 2) := by decide +kernel
theorem dX6_areTwoPoints_17 : decode cX6_areTwoPoints 17 = .ok (.if_icmp .ge 12, 3) := by decide +kernel
theorem dX6_areTwoPoints_20 : decode cX6_areTwoPoints 20 = .ok (.iload_n 0, 1) := by decide +kernel
theorem dX6_areTwoPoints_21 : decode cX6_areTwoPoints 21 = .ok (.iload_n 1, 1) := by decide +kernel
theorem dX6_areTwoPoints_22 : decode cX6_areTwoPoints 22 = .ok (.if_icmp .eq 7, 3) := by decide +kernel
theorem dX6_areTwoPoints_25 : decode cX6_areTwoPoints 25 = .ok (.iconst 1, 1) := by decide +kernel
theorem dX6_areTwoPoints_26 : decode cX6_areTwoPoints 26 = .ok (.goto 4, 3) := by decide +kernel
theorem dX6_areTwoPoints_29 : decode cX6_areTwoPoints 29 = .ok (.iconst 0, 1) := by decide +kernel
theorem dX6_areTwoPoints_30 : decode cX6_areTwoPoints 30 = .ok (.ireturn, 1) := by decide +kernel
theorem dX6_isLimit_0 : decode cX6_isLimit 0 = .ok (.iload_n 0, 1) := by decide +kernel
theorem dX6_isLimit_1 : decode cX6_isLimit 1 = .ok (.sipush (-1000), 3) := by decide +kernel
theorem dX6_isLimit_4 : decode cX6_isLimit 4 = .ok (.if_icmp .lt 14, 3) := by decide +kernel
theorem dX6_isLimit_7 : decode cX6_isLimit 7 = .ok (.iload_n 0, 1) := by decide +kernel
theorem dX6_isLimit_8 : decode cX6_isLimit 8 = .ok (.sipush 1000, 3) := by decide +kernel
theorem dX6_isLimit_11 : decode cX6_isLimit 11 = .ok (.if_icmp .gt 7, 3) := by decide +kernel
theorem dX6_isLimit_14 : decode cX6_isLimit 14 = .ok (.iconst 1, 1) := by decide +kernel
theorem dX6_isLimit_15 : decode cX6_isLimit 15 = .ok (.goto 4, 3) := by decide +kernel
theorem dX6_isLimit_18 : decode cX6_isLimit 18 = .ok (.iconst 0, 1) := by decide +kernel
theorem dX6_isLimit_19 : decode cX6_isLimit 19 = .ok (.ireturn, 1) := by decide +kernel
theorem dX6_pointAt_0 : decode cX6_pointAt 0 = .ok (.iload_n 0, 1) := by decide +kernel
theorem dX6_pointAt_1 : decode cX6_pointAt 1 = .ok (.iconst 2, 1) := by decide +kernel
theorem dX6_pointAt_2 : decode cX6_pointAt 2 = .ok (.if_icmp .ne 5, 3) := by decide +kernel
theorem dX6_pointAt_5 : decode cX6_pointAt 5 = .ok (.iconst 5, 1) := by decide +kernel
theorem dX6_pointAt_6 : decode cX6_pointAt 6 = .ok (.ireturn, 1) := by decide +kernel
theorem dX6_pointAt_7 : decode cX6_pointAt 7 = .ok (.iload_n 0, 1) := by decide +kernel
theorem dX6_pointAt_8 : decode cX6_pointAt 8 = .ok (.ifCond .ne 7, 3) := by decide +kernel
theorem dX6_pointAt_11 : decode cX6_pointAt 11 = .ok (.iload_n 1, 1) := by decide +kernel
theorem dX6_pointAt_12 : decode cX6_pointAt 12 = .ok (.goto 4, 3) := by decide +kernel
theorem dX6_pointAt_15 : decode cX6_pointAt 15 = .ok (.iload_n 2, 1) := by decide +kernel
theorem dX6_pointAt_16 : decode cX6_pointAt 16 = .ok (.ireturn, 1) := by decide +kernel
theorem dX6_fill_0 : decode cX6_fill 0 = .ok (.aload_n 1, 1) := by decide +kernel
theorem dX6_fill_1 : decode cX6_fill 1 = .ok (.iload_n 2, 1) := by decide +kernel
theorem dX6_fill_2 : decode cX6_fill 2 = .ok (.putfield 247, 3) := by decide +kernel
theorem dX6_fill_5 : decode cX6_fill 5 = .ok (.aload_n 1, 1) := by decide +kernel
theorem dX6_fill_6 : decode cX6_fill 6 = .ok (.iload_n 2, 1) := by decide +kernel
theorem dX6_fill_7 : decode cX6_fill 7 = .ok (.iconst (-1), 1) := by decide +kernel
theorem dX6_fill_8 : decode cX6_fill 8 = .ok (.if_icmp .ne 7, 3) := by decide +kernel
theorem dX6_fill_11 : decode cX6_fill 11 = .ok (.iconst 0, 1) := by decide +kernel
theorem dX6_fill_12 : decode cX6_fill 12 = .ok (.goto 4, 3) := by decide +kernel
theorem dX6_fill_15 : decode cX6_fill 15 = .ok (.iload_n 3, 1) := by decide +kernel
theorem dX6_fill_16 : decode cX6_fill 16 = .ok (.putfield 252, 3) := by decide +kernel
theorem dX6_fill_19 : decode cX6_fill 19 = .ok (.aload_n 1, 1) := by decide +kernel
theorem dX6_fill_20 : decode cX6_fill 20 = .ok (.iload_n 2, 1) := by decide +kernel
theorem dX6_fill_21 : decode cX6_fill 21 = .ok (.iconst (-1), 1) := by decide +kernel
theorem dX6_fill_22 : decode cX6_fill 22 = .ok (.if_icmp .eq 16, 3) := by decide +kernel
theorem dX6_fill_25 : decode cX6_fill 25 = .ok (.aload_n 0, 1) := by decide +kernel
theorem dX6_fill_26 : decode cX6_fill 26 = .ok (.getfield 11, 3) := by decide +kernel
theorem dX6_fill_29 : decode cX6_fill 29 = .ok (.iload_n 2, 1) := by decide +kernel
theorem dX6_fill_30 : decode cX6_fill 30 = .ok (.aaload, 1) := by decide +kernel
theorem dX6_fill_31 : decode cX6_fill 31 = .ok (.getfield 65, 3) := by decide +kernel
theorem dX6_fill_34 : decode cX6_fill 34 = .ok (.iconst 1, 1) := by decide +kernel
theorem dX6_fill_35 : decode cX6_fill 35 = .ok (.if_icmp .ne 7, 3) := by decide +kernel
theorem dX6_fill_38 : decode cX6_fill 38 = .ok (.iconst 0, 1) := by decide +kernel
theorem dX6_fill_39 : decode cX6_fill 39 = .ok (.goto 5, 3) := by decide +kernel
theorem dX6_fill_42 : decode cX6_fill 42 = .ok (.iload 4, 2) := by decide +kernel
theorem dX6_fill_44 : decode cX6_fill 44 = .ok (.putfield 255, 3) := by decide +kernel
theorem dX6_fill_47 : decode cX6_fill 47 = .ok (.return_, 1) := by decide +kernel
theorem dX6_startAfresh_0 : decode cX6_startAfresh 0 = .ok (.iconst 0, 1) := by decide +kernel
theorem dX6_startAfresh_1 : decode cX6_startAfresh 1 = .ok (.istore_n 1, 1) := by decide +kernel
theorem dX6_startAfresh_2 : decode cX6_startAfresh 2 = .ok (.iload_n 1, 1) := by decide +kernel
theorem dX6_startAfresh_3 : decode cX6_startAfresh 3 = .ok (.aload_n 0, 1) := by decide +kernel
theorem dX6_startAfresh_4 : decode cX6_startAfresh 4 = .ok (.getfield 57, 3) := by decide +kernel
theorem dX6_startAfresh_7 : decode cX6_startAfresh 7 = .ok (.if_icmp .ge 18, 3) := by decide +kernel
theorem dX6_startAfresh_10 : decode cX6_startAfresh 10 = .ok (.aload_n 0, 1) := by decide +kernel
theorem dX6_startAfresh_11 : decode cX6_startAfresh 11 = .ok (.getfield 11, 3) := by decide +kernel
theorem dX6_startAfresh_14 : decode cX6_startAfresh 14 = .ok (.iload_n 1, 1) := by decide +kernel
theorem dX6_startAfresh_15 : decode cX6_startAfresh 15 = .ok (.aaload, 1) := by decide +kernel
theorem dX6_startAfresh_16 : decode cX6_startAfresh 16 = .ok (.invokevirtual 258, 3) := by decide +kernel
theorem dX6_startAfresh_19 : decode cX6_startAfresh 19 = .ok (.iinc 1 1, 3) := by decide +kernel
theorem dX6_startAfresh_22 : decode cX6_startAfresh 22 = .ok (.goto (-20), 3) := by decide +kernel
theorem dX6_startAfresh_25 : decode cX6_startAfresh 25 = .ok (.aload_n 0, 1) := by decide +kernel
theorem dX6_startAfresh_26 : decode cX6_startAfresh 26 = .ok (.iconst 0, 1) := by decide +kernel
theorem dX6_startAfresh_27 : decode cX6_startAfresh 27 = .ok (.putfield 178, 3) := by decide +kernel
theorem dX6_startAfresh_30 : decode cX6_startAfresh 30 = .ok (.aload_n 0, 1) := by decide +kernel
theorem dX6_startAfresh_31 : decode cX6_startAfresh 31 = .ok (.iconst (-1), 1) := by decide +kernel
theorem dX6_startAfresh_32 : decode cX6_startAfresh 32 = .ok (.putfield 43, 3) := by decide +kernel
theorem dX6_startAfresh_35 : decode cX6_startAfresh 35 = .ok (.aload_n 0, 1) := by decide +kernel
theorem dX6_startAfresh_36 : decode cX6_startAfresh 36 = .ok (.getfield 24, 3) := by decide +kernel
theorem dX6_startAfresh_39 : decode cX6_startAfresh 39 = .ok (.iconst 0, 1) := by decide +kernel
theorem dX6_startAfresh_40 : decode cX6_startAfresh 40 = .ok (.putfield 181, 3) := by decide +kernel
theorem dX6_startAfresh_43 : decode cX6_startAfresh 43 = .ok (.aload_n 0, 1) := by decide +kernel
theorem dX6_startAfresh_44 : decode cX6_startAfresh 44 = .ok (.iconst 0, 1) := by decide +kernel
theorem dX6_startAfresh_45 : decode cX6_startAfresh 45 = .ok (.putfield 47, 3) := by decide +kernel
theorem dX6_startAfresh_48 : decode cX6_startAfresh 48 = .ok (.return_, 1) := by decide +kernel
theorem dX6_makeRound_0 : decode cX6_makeRound 0 = .ok (.iconst 0, 1) := by decide +kernel
theorem dX6_makeRound_1 : decode cX6_makeRound 1 = .ok (.istore_n 1, 1) := by decide +kernel
theorem dX6_makeRound_2 : decode cX6_makeRound 2 = .ok (.aload_n 0, 1) := by decide +kernel
theorem dX6_makeRound_3 : decode cX6_makeRound 3 = .ok (.invokevirtual 261, 3) := by decide +kernel
theorem dX6_makeRound_6 : decode cX6_makeRound 6 = .ok (.ifCond .ne 36, 3) := by decide +kernel
theorem dX6_makeRound_9 : decode cX6_makeRound 9 = .ok (.iconst 0, 1) := by decide +kernel
theorem dX6_makeRound_10 : decode cX6_makeRound 10 = .ok (.istore_n 2, 1) := by decide +kernel
theorem dX6_makeRound_11 : decode cX6_makeRound 11 = .ok (.iload_n 2, 1) := by decide +kernel
theorem dX6_makeRound_12 : decode cX6_makeRound 12 = .ok (.aload_n 0, 1) := by decide +kernel
theorem dX6_makeRound_13 : decode cX6_makeRound 13 = .ok (.getfield 98, 3) := by decide +kernel
theorem dX6_makeRound_16 : decode cX6_makeRound 16 = .ok (.if_icmp .ge 17, 3) := by decide +kernel
theorem dX6_makeRound_19 : decode cX6_makeRound 19 = .ok (.iload_n 1, 1) := by decide +kernel
theorem dX6_makeRound_20 : decode cX6_makeRound 20 = .ok (.aload_n 0, 1) := by decide +kernel
theorem dX6_makeRound_21 : decode cX6_makeRound 21 = .ok (.iload_n 2, 1) := by decide +kernel
theorem dX6_makeRound_22 : decode cX6_makeRound 22 = .ok (.invokevirtual 265, 3) := by decide +kernel
theorem dX6_makeRound_25 : decode cX6_makeRound 25 = .ok (.iadd, 1) := by decide +kernel
theorem dX6_makeRound_26 : decode cX6_makeRound 26 = .ok (.istore_n 1, 1) := by decide +kernel
theorem dX6_makeRound_27 : decode cX6_makeRound 27 = .ok (.iinc 2 1, 3) := by decide +kernel
theorem dX6_makeRound_30 : decode cX6_makeRound 30 = .ok (.goto (-19), 3) := by decide +kernel
theorem dX6_makeRound_33 : decode cX6_makeRound 33 = .ok (.iload_n 1, 1) := by decide +kernel
theorem dX6_makeRound_34 : decode cX6_makeRound 34 = .ok (.ifCond .ne 8, 3) := by decide +kernel
theorem dX6_makeRound_37 : decode cX6_makeRound 37 = .ok (.aload_n 0, 1) := by decide +kernel
theorem dX6_makeRound_38 : decode cX6_makeRound 38 = .ok (.iconst 1, 1) := by decide +kernel
theorem dX6_makeRound_39 : decode cX6_makeRound 39 = .ok (.putfield 47, 3) := by decide +kernel
theorem dX6_makeRound_42 : decode cX6_makeRound 42 = .ok (.aload_n 0, 1) := by decide +kernel
theorem dX6_makeRound_43 : decode cX6_makeRound 43 = .ok (.dup, 1) := by decide +kernel
theorem dX6_makeRound_44 : decode cX6_makeRound 44 = .ok (.getfield 178, 3) := by decide +kernel
theorem dX6_makeRound_47 : decode cX6_makeRound 47 = .ok (.iconst 1, 1) := by decide +kernel
theorem dX6_makeRound_48 : decode cX6_makeRound 48 = .ok (.iadd, 1) := by decide +kernel
theorem dX6_makeRound_49 : decode cX6_makeRound 49 = .ok (.putfield 178, 3) := by decide +kernel
theorem dX6_makeRound_52 : decode cX6_makeRound 52 = .ok (.iload_n 1, 1) := by decide +kernel
theorem dX6_makeRound_53 : decode cX6_makeRound 53 = .ok (.ireturn, 1) := by decide +kernel
theorem dX6_raiseAlarm_0 : decode cX6_raiseAlarm 0 = .ok (.iconst 0, 1) := by decide +kernel
theorem dX6_raiseAlarm_1 : decode cX6_raiseAlarm 1 = .ok (.istore_n 1, 1) := by decide +kernel
theorem dX6_raiseAlarm_2 : decode cX6_raiseAlarm 2 = .ok (.iload_n 1, 1) := by decide +kernel
theorem dX6_raiseAlarm_3 : decode cX6_raiseAlarm 3 = .ok (.aload_n 0, 1) := by decide +kernel
theorem dX6_raiseAlarm_4 : decode cX6_raiseAlarm 4 = .ok (.getfield 98, 3) := by decide +kernel
theorem dX6_raiseAlarm_7 : decode cX6_raiseAlarm 7 = .ok (.if_icmp .ge 56, 3) := by decide +kernel
theorem dX6_raiseAlarm_10 : decode cX6_raiseAlarm 10 = .ok (.aload_n 0, 1) := by decide +kernel
theorem dX6_raiseAlarm_11 : decode cX6_raiseAlarm 11 = .ok (.getfield 17, 3) := by decide +kernel
theorem dX6_raiseAlarm_14 : decode cX6_raiseAlarm 14 = .ok (.iload_n 1, 1) := by decide +kernel
theorem dX6_raiseAlarm_15 : decode cX6_raiseAlarm 15 = .ok (.aaload, 1) := by decide +kernel
theorem dX6_raiseAlarm_16 : decode cX6_raiseAlarm 16 = .ok (.getfield 103, 3) := by decide +kernel
theorem dX6_raiseAlarm_19 : decode cX6_raiseAlarm 19 = .ok (.getfield 247, 3) := by decide +kernel
theorem dX6_raiseAlarm_22 : decode cX6_raiseAlarm 22 = .ok (.iconst (-1), 1) := by decide +kernel
theorem dX6_raiseAlarm_23 : decode cX6_raiseAlarm 23 = .ok (.if_icmp .ne 34, 3) := by decide +kernel
theorem dX6_raiseAlarm_26 : decode cX6_raiseAlarm 26 = .ok (.aload_n 0, 1) := by decide +kernel
theorem dX6_raiseAlarm_27 : decode cX6_raiseAlarm 27 = .ok (.aload_n 0, 1) := by decide +kernel
theorem dX6_raiseAlarm_28 : decode cX6_raiseAlarm 28 = .ok (.getfield 17, 3) := by decide +kernel
theorem dX6_raiseAlarm_31 : decode cX6_raiseAlarm 31 = .ok (.iload_n 1, 1) := by decide +kernel
theorem dX6_raiseAlarm_32 : decode cX6_raiseAlarm 32 = .ok (.aaload, 1) := by decide +kernel
theorem dX6_raiseAlarm_33 : decode cX6_raiseAlarm 33 = .ok (.iconst 0, 1) := by decide +kernel
theorem dX6_raiseAlarm_34 : decode cX6_raiseAlarm 34 = .ok (.invokevirtual 269, 3) := by decide +kernel
theorem dX6_raiseAlarm_37 : decode cX6_raiseAlarm 37 = .ok (.istore_n 2, 1) := by decide +kernel
theorem dX6_raiseAlarm_38 : decode cX6_raiseAlarm 38 = .ok (.iload_n 2, 1) := by decide +kernel
theorem dX6_raiseAlarm_39 : decode cX6_raiseAlarm 39 = .ok (.sipush 256, 3) := by decide +kernel
theorem dX6_raiseAlarm_42 : decode cX6_raiseAlarm 42 = .ok (.if_icmp .ge 15, 3) := by decide +kernel
theorem dX6_raiseAlarm_45 : decode cX6_raiseAlarm 45 = .ok (.aload_n 0, 1) := by decide +kernel
theorem dX6_raiseAlarm_46 : decode cX6_raiseAlarm 46 = .ok (.iload_n 1, 1) := by decide +kernel
theorem dX6_raiseAlarm_47 : decode cX6_raiseAlarm 47 = .ok (.putfield 43, 3) := by decide +kernel
theorem dX6_raiseAlarm_50 : decode cX6_raiseAlarm 50 = .ok (.aload_n 0, 1) := by decide +kernel
theorem dX6_raiseAlarm_51 : decode cX6_raiseAlarm 51 = .ok (.iload_n 2, 1) := by decide +kernel
theorem dX6_raiseAlarm_52 : decode cX6_raiseAlarm 52 = .ok (.invokevirtual 273, 3) := by decide +kernel
theorem dX6_raiseAlarm_55 : decode cX6_raiseAlarm 55 = .ok (.iconst 1, 1) := by decide +kernel
theorem dX6_raiseAlarm_56 : decode cX6_raiseAlarm 56 = .ok (.ireturn, 1) := by decide +kernel
theorem dX6_raiseAlarm_57 : decode cX6_raiseAlarm 57 = .ok (.iinc 1 1, 3) := by decide +kernel
theorem dX6_raiseAlarm_60 : decode cX6_raiseAlarm 60 = .ok (.goto (-58), 3) := by decide +kernel
theorem dX6_raiseAlarm_63 : decode cX6_raiseAlarm 63 = .ok (.iconst 0, 1) := by decide +kernel
theorem dX6_raiseAlarm_64 : decode cX6_raiseAlarm 64 = .ok (.ireturn, 1) := by decide +kernel
theorem dX6_reachBy_0 : decode cX6_reachBy 0 = .ok (.aload_n 0, 1) := by decide +kernel
theorem dX6_reachBy_1 : decode cX6_reachBy 1 = .ok (.getfield 17, 3) := by decide +kernel
theorem dX6_reachBy_4 : decode cX6_reachBy 4 = .ok (.iload_n 1, 1) := by decide +kernel
theorem dX6_reachBy_5 : decode cX6_reachBy 5 = .ok (.aaload, 1) := by decide +kernel
theorem dX6_reachBy_6 : decode cX6_reachBy 6 = .ok (.astore_n 2, 1) := by decide +kernel
theorem dX6_reachBy_7 : decode cX6_reachBy 7 = .ok (.iconst 0, 1) := by decide +kernel
theorem dX6_reachBy_8 : decode cX6_reachBy 8 = .ok (.istore_n 3, 1) := by decide +kernel
theorem dX6_reachBy_9 : decode cX6_reachBy 9 = .ok (.aload_n 2, 1) := by decide +kernel
theorem dX6_reachBy_10 : decode cX6_reachBy 10 = .ok (.getfield 103, 3) := by decide +kernel
theorem dX6_reachBy_13 : decode cX6_reachBy 13 = .ok (.getfield 247, 3) := by decide +kernel
theorem dX6_reachBy_16 : decode cX6_reachBy 16 = .ok (.iconst (-1), 1) := by decide +kernel
theorem dX6_reachBy_17 : decode cX6_reachBy 17 = .ok (.if_icmp .eq 43, 3) := by decide +kernel
theorem dX6_reachBy_20 : decode cX6_reachBy 20 = .ok (.aload_n 0, 1) := by decide +kernel
theorem dX6_reachBy_21 : decode cX6_reachBy 21 = .ok (.aload_n 2, 1) := by decide +kernel
theorem dX6_reachBy_22 : decode cX6_reachBy 22 = .ok (.iconst 0, 1) := by decide +kernel
theorem dX6_reachBy_23 : decode cX6_reachBy 23 = .ok (.invokevirtual 269, 3) := by decide +kernel
theorem dX6_reachBy_26 : decode cX6_reachBy 26 = .ok (.istore 4, 2) := by decide +kernel
theorem dX6_reachBy_28 : decode cX6_reachBy 28 = .ok (.iload 4, 2) := by decide +kernel
theorem dX6_reachBy_30 : decode cX6_reachBy 30 = .ok (.sipush 256, 3) := by decide +kernel
theorem dX6_reachBy_33 : decode cX6_reachBy 33 = .ok (.if_icmp .ge 27, 3) := by decide +kernel
theorem dX6_reachBy_36 : decode cX6_reachBy 36 = .ok (.iload_n 3, 1) := by decide +kernel
theorem dX6_reachBy_37 : decode cX6_reachBy 37 = .ok (.aload_n 0, 1) := by decide +kernel
theorem dX6_reachBy_38 : decode cX6_reachBy 38 = .ok (.iload_n 1, 1) := by decide +kernel
theorem dX6_reachBy_39 : decode cX6_reachBy 39 = .ok (.iload 4, 2) := by decide +kernel
theorem dX6_reachBy_41 : decode cX6_reachBy 41 = .ok (.invokevirtual 277, 3) := by decide +kernel
theorem dX6_reachBy_44 : decode cX6_reachBy 44 = .ok (.iadd, 1) := by decide +kernel
theorem dX6_reachBy_45 : decode cX6_reachBy 45 = .ok (.istore_n 3, 1) := by decide +kernel
theorem dX6_reachBy_46 : decode cX6_reachBy 46 = .ok (.aload_n 0, 1) := by decide +kernel
theorem dX6_reachBy_47 : decode cX6_reachBy 47 = .ok (.aload_n 2, 1) := by decide +kernel
theorem dX6_reachBy_48 : decode cX6_reachBy 48 = .ok (.iload 4, 2) := by decide +kernel
theorem dX6_reachBy_50 : decode cX6_reachBy 50 = .ok (.iconst 1, 1) := by decide +kernel
theorem dX6_reachBy_51 : decode cX6_reachBy 51 = .ok (.iadd, 1) := by decide +kernel
theorem dX6_reachBy_52 : decode cX6_reachBy 52 = .ok (.invokevirtual 269, 3) := by decide +kernel
theorem dX6_reachBy_55 : decode cX6_reachBy 55 = .ok (.istore 4, 2) := by decide +kernel
theorem dX6_reachBy_57 : decode cX6_reachBy 57 = .ok (.goto (-29), 3) := by decide +kernel
theorem dX6_reachBy_60 : decode cX6_reachBy 60 = .ok (.iload_n 3, 1) := by decide +kernel
