theorem dX7_isPlace_7 : decode cX7_isPlace 7 = .ok (.aload_n 0, 1) := by decide +kernel
theorem dX7_isPlace_8 : decode cX7_isPlace 8 = .ok (.getfield 7, 3) := by decide +kernel
theorem dX7_isPlace_11 : decode cX7_isPlace 11 = .ok (.iload_n 1, 1) := by decide +kernel
theorem dX7_isPlace_12 : decode cX7_isPlace 12 = .ok (.iaload, 1) := by decide +kernel
theorem dX7_isPlace_13 : decode cX7_isPlace 13 = .ok (.iconst 1, 1) := by decide +kernel
theorem dX7_isPlace_14 : decode cX7_isPlace 14 = .ok (.isub, 1) := by decide +kernel
theorem dX7_isPlace_15 : decode cX7_isPlace 15 = .ok (.invokestatic 104, 3) := by decide +kernel
theorem dX7_isPlace_18 : decode cX7_isPlace 18 = .ok (.ifCond .eq 7, 3) := by decide +kernel
theorem dX7_isPlace_21 : decode cX7_isPlace 21 = .ok (.iconst 1, 1) := by decide +kernel
theorem dX7_isPlace_22 : decode cX7_isPlace 22 = .ok (.goto 4, 3) := by decide +kernel
theorem dX7_isPlace_25 : decode cX7_isPlace 25 = .ok (.iconst 0, 1) := by decide +kernel
theorem dX7_isPlace_26 : decode cX7_isPlace 26 = .ok (.ireturn, 1) := by decide +kernel
theorem dX7_isMark_0 : decode cX7_isMark 0 = .ok (.iconst 4, 1) := by decide +kernel
theorem dX7_isMark_1 : decode cX7_isMark 1 = .ok (.iload_n 1, 1) := by decide +kernel
theorem dX7_isMark_2 : decode cX7_isMark 2 = .ok (.imul, 1) := by decide +kernel
theorem dX7_isMark_3 : decode cX7_isMark 3 = .ok (.istore 5, 2) := by decide +kernel
theorem dX7_isMark_5 : decode cX7_isMark 5 = .ok (.iload 5, 2) := by decide +kernel
theorem dX7_isMark_7 : decode cX7_isMark 7 = .ok (.iconst 4, 1) := by decide +kernel
theorem dX7_isMark_8 : decode cX7_isMark 8 = .ok (.iload_n 1, 1) := by decide +kernel
theorem dX7_isMark_9 : decode cX7_isMark 9 = .ok (.imul, 1) := by decide +kernel
theorem dX7_isMark_10 : decode cX7_isMark 10 = .ok (.aload_n 0, 1) := by decide +kernel
theorem dX7_isMark_11 : decode cX7_isMark 11 = .ok (.getfield 13, 3) := by decide +kernel
theorem dX7_isMark_14 : decode cX7_isMark 14 = .ok (.iload_n 1, 1) := by decide +kernel
theorem dX7_isMark_15 : decode cX7_isMark 15 = .ok (.iaload, 1) := by decide +kernel
theorem dX7_isMark_16 : decode cX7_isMark 16 = .ok (.iadd, 1) := by decide +kernel
theorem dX7_isMark_17 : decode cX7_isMark 17 = .ok (.if_icmp .ge 45, 3) := by decide +kernel
theorem dX7_isMark_20 : decode cX7_isMark 20 = .ok (.aload_n 0, 1) := by decide +kernel
theorem dX7_isMark_21 : decode cX7_isMark 21 = .ok (.getfield 16, 3) := by decide +kernel
theorem dX7_isMark_24 : decode cX7_isMark 24 = .ok (.iload 5, 2) := by decide +kernel
theorem dX7_isMark_26 : decode cX7_isMark 26 = .ok (.iaload, 1) := by decide +kernel
theorem dX7_isMark_27 : decode cX7_isMark 27 = .ok (.iload_n 2, 1) := by decide +kernel
theorem dX7_isMark_28 : decode cX7_isMark 28 = .ok (.if_icmp .ne 28, 3) := by decide +kernel
theorem dX7_isMark_31 : decode cX7_isMark 31 = .ok (.aload_n 0, 1) := by decide +kernel
theorem dX7_isMark_32 : decode cX7_isMark 32 = .ok (.getfield 19, 3) := by decide +kernel
theorem dX7_isMark_35 : decode cX7_isMark 35 = .ok (.iload 5, 2) := by decide +kernel
theorem dX7_isMark_37 : decode cX7_isMark 37 = .ok (.iaload, 1) := by decide +kernel
theorem dX7_isMark_38 : decode cX7_isMark 38 = .ok (.iload_n 3, 1) := by decide +kernel
theorem dX7_isMark_39 : decode cX7_isMark 39 = .ok (.if_icmp .ne 17, 3) := by decide +kernel
theorem dX7_isMark_42 : decode cX7_isMark 42 = .ok (.aload_n 0, 1) := by decide +kernel
theorem dX7_isMark_43 : decode cX7_isMark 43 = .ok (.getfield 22, 3) := by decide +kernel
theorem dX7_isMark_46 : decode cX7_isMark 46 = .ok (.iload 5, 2) := by decide +kernel
theorem dX7_isMark_48 : decode cX7_isMark 48 = .ok (.iaload, 1) := by decide +kernel
theorem dX7_isMark_49 : decode cX7_isMark 49 = .ok (.iload 4, 2) := by decide +kernel
theorem dX7_isMark_51 : decode cX7_isMark 51 = .ok (.if_icmp .ne 5, 3) := by decide +kernel
theorem dX7_isMark_54 : decode cX7_isMark 54 = .ok (.iconst 1, 1) := by decide +kernel
theorem dX7_isMark_55 : decode cX7_isMark 55 = .ok (.ireturn, 1) := by decide +kernel
theorem dX7_isMark_56 : decode cX7_isMark 56 = .ok (.iinc 5 1, 3) := by decide +kernel
theorem dX7_isMark_59 : decode cX7_isMark 59 = .ok (.goto (-54), 3) := by decide +kernel
theorem dX7_isMark_62 : decode cX7_isMark 62 = .ok (.iconst 0, 1) := by decide +kernel
theorem dX7_isMark_63 : decode cX7_isMark 63 = .ok (.ireturn, 1) := by decide +kernel
theorem dX7_keepMark_0 : decode cX7_keepMark 0 = .ok (.iconst 4, 1) := by decide +kernel
theorem dX7_keepMark_1 : decode cX7_keepMark 1 = .ok (.iload_n 1, 1) := by decide +kernel
theorem dX7_keepMark_2 : decode cX7_keepMark 2 = .ok (.imul, 1) := by decide +kernel
theorem dX7_keepMark_3 : decode cX7_keepMark 3 = .ok (.aload_n 0, 1) := by decide +kernel
theorem dX7_keepMark_4 : decode cX7_keepMark 4 = .ok (.getfield 13, 3) := by decide +kernel
theorem dX7_keepMark_7 : decode cX7_keepMark 7 = .ok (.iload_n 1, 1) := by decide +kernel
theorem dX7_keepMark_8 : decode cX7_keepMark 8 = .ok (.iaload, 1) := by decide +kernel
theorem dX7_keepMark_9 : decode cX7_keepMark 9 = .ok (.iadd, 1) := by decide +kernel
theorem dX7_keepMark_10 : decode cX7_keepMark 10 = .ok (.istore 5, 2) := by decide +kernel
theorem dX7_keepMark_12 : decode cX7_keepMark 12 = .ok (.aload_n 0, 1) := by decide +kernel
theorem dX7_keepMark_13 : decode cX7_keepMark 13 = .ok (.getfield 16, 3) := by decide +kernel
theorem dX7_keepMark_16 : decode cX7_keepMark 16 = .ok (.iload 5, 2) := by decide +kernel
theorem dX7_keepMark_18 : decode cX7_keepMark 18 = .ok (.iload_n 2, 1) := by decide +kernel
theorem dX7_keepMark_19 : decode cX7_keepMark 19 = .ok (.iastore, 1) := by decide +kernel
theorem dX7_keepMark_20 : decode cX7_keepMark 20 = .ok (.aload_n 0, 1) := by decide +kernel
theorem dX7_keepMark_21 : decode cX7_keepMark 21 = .ok (.getfield 19, 3) := by decide +kernel
theorem dX7_keepMark_24 : decode cX7_keepMark 24 = .ok (.iload 5, 2) := by decide +kernel
theorem dX7_keepMark_26 : decode cX7_keepMark 26 = .ok (.iload_n 3, 1) := by decide +kernel
theorem dX7_keepMark_27 : decode cX7_keepMark 27 = .ok (.iastore, 1) := by decide +kernel
theorem dX7_keepMark_28 : decode cX7_keepMark 28 = .ok (.aload_n 0, 1) := by decide +kernel
theorem dX7_keepMark_29 : decode cX7_keepMark 29 = .ok (.getfield 22, 3) := by decide +kernel
theorem dX7_keepMark_32 : decode cX7_keepMark 32 = .ok (.iload 5, 2) := by decide +kernel
theorem dX7_keepMark_34 : decode cX7_keepMark 34 = .ok (.iload 4, 2) := by decide +kernel
theorem dX7_keepMark_36 : decode cX7_keepMark 36 = .ok (.iastore, 1) := by decide +kernel
theorem dX7_keepMark_37 : decode cX7_keepMark 37 = .ok (.aload_n 0, 1) := by decide +kernel
theorem dX7_keepMark_38 : decode cX7_keepMark 38 = .ok (.getfield 13, 3) := by decide +kernel
theorem dX7_keepMark_41 : decode cX7_keepMark 41 = .ok (.iload_n 1, 1) := by decide +kernel
theorem dX7_keepMark_42 : decode cX7_keepMark 42 = .ok (.dup2, 1) := by decide +kernel
theorem dX7_keepMark_43 : decode cX7_keepMark 43 = .ok (.iaload, 1) := by decide +kernel
theorem dX7_keepMark_44 : decode cX7_keepMark 44 = .ok (.iconst 1, 1) := by decide +kernel
theorem dX7_keepMark_45 : decode cX7_keepMark 45 = .ok (.iadd, 1) := by decide +kernel
theorem dX7_keepMark_46 : decode cX7_keepMark 46 = .ok (.iastore, 1) := by decide +kernel
theorem dX7_keepMark_47 : decode cX7_keepMark 47 = .ok (.return_, 1) := by decide +kernel
theorem dX7_mark_0 : decode cX7_mark 0 = .ok (.aload_n 0, 1) := by decide +kernel
theorem dX7_mark_1 : decode cX7_mark 1 = .ok (.iload_n 1, 1) := by decide +kernel
theorem dX7_mark_2 : decode cX7_mark 2 = .ok (.invokevirtual 163, 3) := by decide +kernel
theorem dX7_mark_5 : decode cX7_mark 5 = .ok (.ifCond .eq 26, 3) := by decide +kernel
theorem dX7_mark_8 : decode cX7_mark 8 = .ok (.iload 4, 2) := by decide +kernel
theorem dX7_mark_10 : decode cX7_mark 10 = .ok (.sipush (-1000), 3) := by decide +kernel
theorem dX7_mark_13 : decode cX7_mark 13 = .ok (.sipush 1000, 3) := by decide +kernel
theorem dX7_mark_16 : decode cX7_mark 16 = .ok (.invokestatic 104, 3) := by decide +kernel
theorem dX7_mark_19 : decode cX7_mark 19 = .ok (.ifCond .eq 12, 3) := by decide +kernel
theorem dX7_mark_22 : decode cX7_mark 22 = .ok (.iload_n 2, 1) := by decide +kernel
theorem dX7_mark_23 : decode cX7_mark 23 = .ok (.iload_n 3, 1) := by decide +kernel
theorem dX7_mark_24 : decode cX7_mark 24 = .ok (.if_icmp .eq 7, 3) := by decide +kernel
theorem dX7_mark_27 : decode cX7_mark 27 = .ok (.iconst 1, 1) := by decide +kernel
theorem dX7_mark_28 : decode cX7_mark 28 = .ok (.goto 4, 3) := by decide +kernel
theorem dX7_mark_31 : decode cX7_mark 31 = .ok (.iconst 0, 1) := by decide +kernel
theorem dX7_mark_32 : decode cX7_mark 32 = .ok (.istore 5, 2) := by decide +kernel
theorem dX7_mark_34 : decode cX7_mark 34 = .ok (.aload_n 0, 1) := by decide +kernel
theorem dX7_mark_35 : decode cX7_mark 35 = .ok (.iload 5, 2) := by decide +kernel
theorem dX7_mark_37 : decode cX7_mark 37 = .ok (.ifCond .eq 21, 3) := by decide +kernel
theorem dX7_mark_40 : decode cX7_mark 40 = .ok (.aload_n 0, 1) := by decide +kernel
theorem dX7_mark_41 : decode cX7_mark 41 = .ok (.iload_n 1, 1) := by decide +kernel
theorem dX7_mark_42 : decode cX7_mark 42 = .ok (.iload_n 2, 1) := by decide +kernel
theorem dX7_mark_43 : decode cX7_mark 43 = .ok (.invokevirtual 166, 3) := by decide +kernel
theorem dX7_mark_46 : decode cX7_mark 46 = .ok (.ifCond .eq 12, 3) := by decide +kernel
theorem dX7_mark_49 : decode cX7_mark 49 = .ok (.aload_n 0, 1) := by decide +kernel
theorem dX7_mark_50 : decode cX7_mark 50 = .ok (.iload_n 1, 1) := by decide +kernel
theorem dX7_mark_51 : decode cX7_mark 51 = .ok (.iload_n 3, 1) := by decide +kernel
theorem dX7_mark_52 : decode cX7_mark 52 = .ok (.invokevirtual 166, 3) := by decide +kernel
theorem dX7_mark_55 : decode cX7_mark 55 = .ok (.ifCond .ne 7, 3) := by decide +kernel
theorem dX7_mark_58 : decode cX7_mark 58 = .ok (.iconst 1, 1) := by decide +kernel
theorem dX7_mark_59 : decode cX7_mark 59 = .ok (.goto 4, 3) := by decide +kernel
theorem dX7_mark_62 : decode cX7_mark 62 = .ok (.iconst 0, 1) := by decide +kernel
theorem dX7_mark_63 : decode cX7_mark 63 = .ok (.putfield 98, 3) := by decide +kernel
theorem dX7_mark_66 : decode cX7_mark 66 = .ok (.aload_n 0, 1) := by decide +kernel
theorem dX7_mark_67 : decode cX7_mark 67 = .ok (.getfield 98, 3) := by decide +kernel
theorem dX7_mark_70 : decode cX7_mark 70 = .ok (.ifCond .le 5, 3) := by decide +kernel
theorem dX7_mark_73 : decode cX7_mark 73 = .ok (.iconst 0, 1) := by decide +kernel
theorem dX7_mark_74 : decode cX7_mark 74 = .ok (.ireturn, 1) := by decide +kernel
theorem dX7_mark_75 : decode cX7_mark 75 = .ok (.aload_n 0, 1) := by decide +kernel
theorem dX7_mark_76 : decode cX7_mark 76 = .ok (.getfield 13, 3) := by decide +kernel
theorem dX7_mark_79 : decode cX7_mark 79 = .ok (.iload_n 1, 1) := by decide +kernel
theorem dX7_mark_80 : decode cX7_mark 80 = .ok (.iaload, 1) := by decide +kernel
theorem dX7_mark_81 : decode cX7_mark 81 = .ok (.iconst 4, 1) := by decide +kernel
theorem dX7_mark_82 : decode cX7_mark 82 = .ok (.if_icmp .eq 15, 3) := by decide +kernel
theorem dX7_mark_85 : decode cX7_mark 85 = .ok (.aload_n 0, 1) := by decide +kernel
theorem dX7_mark_86 : decode cX7_mark 86 = .ok (.iload_n 1, 1) := by decide +kernel
theorem dX7_mark_87 : decode cX7_mark 87 = .ok (.iload_n 2, 1) := by decide +kernel
theorem dX7_mark_88 : decode cX7_mark 88 = .ok (.iload_n 3, 1) := by decide +kernel
theorem dX7_mark_89 : decode cX7_mark 89 = .ok (.iload 4, 2) := by decide +kernel
theorem dX7_mark_91 : decode cX7_mark 91 = .ok (.invokevirtual 169, 3) := by decide +kernel
theorem dX7_mark_94 : decode cX7_mark 94 = .ok (.ifCond .eq 9, 3) := by decide +kernel
theorem dX7_mark_97 : decode cX7_mark 97 = .ok (.aload_n 0, 1) := by decide +kernel
theorem dX7_mark_98 : decode cX7_mark 98 = .ok (.iconst 2, 1) := by decide +kernel
theorem dX7_mark_99 : decode cX7_mark 99 = .ok (.invokevirtual 172, 3) := by decide +kernel
theorem dX7_mark_102 : decode cX7_mark 102 = .ok (.ireturn, 1) := by decide +kernel
theorem dX7_mark_103 : decode cX7_mark 103 = .ok (.aload_n 0, 1) := by decide +kernel
theorem dX7_mark_104 : decode cX7_mark 104 = .ok (.iload_n 1, 1) := by decide +kernel
theorem dX7_mark_105 : decode cX7_mark 105 = .ok (.iload_n 2, 1) := by decide +kernel
theorem dX7_mark_106 : decode cX7_mark 106 = .ok (.iload_n 3, 1) := by decide +kernel
theorem dX7_mark_107 : decode cX7_mark 107 = .ok (.iload 4, 2) := by decide +kernel
theorem dX7_mark_109 : decode cX7_mark 109 = .ok (.invokevirtual 175, 3) := by decide +kernel
theorem dX7_mark_112 : decode cX7_mark 112 = .ok (.aload_n 0, 1) := by decide +kernel
theorem dX7_mark_113 : decode cX7_mark 113 = .ok (.aload_n 0, 1) := by decide +kernel
theorem dX7_mark_114 : decode cX7_mark 114 = .ok (.getfield 13, 3) := by decide +kernel
theorem dX7_mark_117 : decode cX7_mark 117 = .ok (.iload_n 1, 1) := by decide +kernel
theorem dX7_mark_118 : decode cX7_mark 118 = .ok (.iaload, 1) := by decide +kernel
theorem dX7_mark_119 : decode cX7_mark 119 = .ok (.iconst 1, 1) := by decide +kernel
theorem dX7_mark_120 : decode cX7_mark 120 = .ok (.isub, 1) := by decide +kernel
theorem dX7_mark_121 : decode cX7_mark 121 = .ok (.invokevirtual 160, 3) := by decide +kernel
theorem dX7_mark_124 : decode cX7_mark 124 = .ok (.ireturn, 1) := by decide +kernel
theorem dX7_areVariables_0 : decode cX7_areVariables 0 = .ok (.iload_n 2, 1) := by decide +kernel
theorem dX7_areVariables_1 : decode cX7_areVariables 1 = .ok (.iconst 0, 1) := by decide +kernel
theorem dX7_areVariables_2 : decode cX7_areVariables 2 = .ok (.iconst 4, 1) := by decide +kernel
theorem dX7_areVariables_3 : decode cX7_areVariables 3 = .ok (.invokestatic 104, 3) := by decide +kernel
theorem dX7_areVariables_6 : decode cX7_areVariables 6 = .ok (.ifCond .eq 26, 3) := by decide +kernel
theorem dX7_areVariables_9 : decode cX7_areVariables 9 = .ok (.aload_n 0, 1) := by decide +kernel
theorem dX7_areVariables_10 : decode cX7_areVariables 10 = .ok (.getfield 7, 3) := by decide +kernel
theorem dX7_areVariables_13 : decode cX7_areVariables 13 = .ok (.iload_n 1, 1) := by decide +kernel
theorem dX7_areVariables_14 : decode cX7_areVariables 14 = .ok (.iaload, 1) := by decide +kernel
theorem dX7_areVariables_15 : decode cX7_areVariables 15 = .ok (.iconst 1, 1) := by decide +kernel
theorem dX7_areVariables_16 : decode cX7_areVariables 16 = .ok (.if_icmp .eq 12, 3) := by decide +kernel
theorem dX7_areVariables_19 : decode cX7_areVariables 19 = .ok (.iload_n 3, 1) := by decide +kernel
theorem dX7_areVariables_20 : decode cX7_areVariables 20 = .ok (.iconst 0, 1) := by decide +kernel
theorem dX7_areVariables_21 : decode cX7_areVariables 21 = .ok (.iconst 4, 1) := by decide +kernel
theorem dX7_areVariables_22 : decode cX7_areVariables 22 = .ok (.invokestatic 104, 3) := by decide +kernel
theorem dX7_areVariables_25 : decode cX7_areVariables 25 = .ok (.ifCond .eq 7, 3) := by decide +kernel
theorem dX7_areVariables_28 : decode cX7_areVariables 28 = .ok (.iconst 1, 1) := by decide +kernel
theorem dX7_areVariables_29 : decode cX7_areVariables 29 = .ok (.goto 4, 3) := by decide +kernel
theorem dX7_areVariables_32 : decode cX7_areVariables 32 = .ok (.iconst 0, 1) := by decide +kernel
theorem dX7_areVariables_33 : decode cX7_areVariables 33 = .ok (.ireturn, 1) := by decide +kernel
theorem dX7_clause_0 : decode cX7_clause 0 = .ok (.aload_n 0, 1) := by decide +kernel
theorem dX7_clause_1 : decode cX7_clause 1 = .ok (.iload_n 1, 1) := by decide +kernel
theorem dX7_clause_2 : decode cX7_clause 2 = .ok (.iconst (-1), 1) := by decide +kernel
theorem dX7_clause_3 : decode cX7_clause 3 = .ok (.if_icmp .eq 21, 3) := by decide +kernel
theorem dX7_clause_6 : decode cX7_clause 6 = .ok (.aload_n 0, 1) := by decide +kernel
theorem dX7_clause_7 : decode cX7_clause 7 = .ok (.iload_n 1, 1) := by decide +kernel
theorem dX7_clause_8 : decode cX7_clause 8 = .ok (.invokevirtual 163, 3) := by decide +kernel
theorem dX7_clause_11 : decode cX7_clause 11 = .ok (.ifCond .eq 17, 3) := by decide +kernel
theorem dX7_clause_14 : decode cX7_clause 14 = .ok (.aload_n 0, 1) := by decide +kernel
theorem dX7_clause_15 : decode cX7_clause 15 = .ok (.iload_n 1, 1) := by decide +kernel
theorem dX7_clause_16 : decode cX7_clause 16 = .ok (.iload_n 2, 1) := by decide +kernel
theorem dX7_clause_17 : decode cX7_clause 17 = .ok (.iload_n 3, 1) := by decide +kernel
theorem dX7_clause_18 : decode cX7_clause 18 = .ok (.invokevirtual 179, 3) := by decide +kernel
theorem dX7_clause_21 : decode cX7_clause 21 = .ok (.ifCond .eq 7, 3) := by decide +kernel
theorem dX7_clause_24 : decode cX7_clause 24 = .ok (.iconst 0, 1) := by decide +kernel
theorem dX7_clause_25 : decode cX7_clause 25 = .ok (.goto 4, 3) := by decide +kernel
theorem dX7_clause_28 : decode cX7_clause 28 = .ok (.iconst 1, 1) := by decide +kernel
theorem dX7_clause_29 : decode cX7_clause 29 = .ok (.putfield 98, 3) := by decide +kernel
theorem dX7_clause_32 : decode cX7_clause 32 = .ok (.aload_n 0, 1) := by decide +kernel
theorem dX7_clause_33 : decode cX7_clause 33 = .ok (.getfield 98, 3) := by decide +kernel
theorem dX7_clause_36 : decode cX7_clause 36 = .ok (.ifCond .le 5, 3) := by decide +kernel
theorem dX7_clause_39 : decode cX7_clause 39 = .ok (.iconst 0, 1) := by decide +kernel
theorem dX7_clause_40 : decode cX7_clause 40 = .ok (.ireturn, 1) := by decide +kernel
theorem dX7_clause_41 : decode cX7_clause 41 = .ok (.aload_n 0, 1) := by decide +kernel
theorem dX7_clause_42 : decode cX7_clause 42 = .ok (.getfield 182, 3) := by decide +kernel
theorem dX7_clause_45 : decode cX7_clause 45 = .ok (.bipush 12, 2) := by decide +kernel
theorem dX7_clause_47 : decode cX7_clause 47 = .ok (.if_icmp .ne 9, 3) := by decide +kernel
theorem dX7_clause_50 : decode cX7_clause 50 = .ok (.aload_n 0, 1) := by decide +kernel
theorem dX7_clause_51 : decode cX7_clause 51 = .ok (.iconst 2, 1) := by decide +kernel
theorem dX7_clause_52 : decode cX7_clause 52 = .ok (.invokevirtual 172, 3) := by decide +kernel
theorem dX7_clause_55 : decode cX7_clause 55 = .ok (.ireturn, 1) := by decide +kernel
theorem dX7_clause_56 : decode cX7_clause 56 = .ok (.aload_n 0, 1) := by decide +kernel
theorem dX7_clause_57 : decode cX7_clause 57 = .ok (.getfield 25, 3) := by decide +kernel
theorem dX7_clause_60 : decode cX7_clause 60 = .ok (.aload_n 0, 1) := by decide +kernel
theorem dX7_clause_61 : decode cX7_clause 61 = .ok (.getfield 182, 3) := by decide +kernel
theorem dX7_clause_64 : decode cX7_clause 64 = .ok (.iload_n 1, 1) := by decide +kernel
theorem dX7_clause_65 : decode cX7_clause 65 = .ok (.iastore, 1) := by decide +kernel
theorem dX7_clause_66 : decode cX7_clause 66 = .ok (.aload_n 0, 1) := by decide +kernel
theorem dX7_clause_67 : decode cX7_clause 67 = .ok (.getfield 28, 3) := by decide +kernel
theorem dX7_clause_70 : decode cX7_clause 70 = .ok (.iconst 2, 1) := by decide +kernel
theorem dX7_clause_71 : decode cX7_clause 71 = .ok (.aload_n 0, 1) := by decide +kernel
theorem dX7_clause_72 : decode cX7_clause 72 = .ok (.getfield 182, 3) := by decide +kernel
theorem dX7_clause_75 : decode cX7_clause 75 = .ok (.imul, 1) := by decide +kernel
theorem dX7_clause_76 : decode cX7_clause 76 = .ok (.iload_n 1, 1) := by decide +kernel
theorem dX7_clause_77 : decode cX7_clause 77 = .ok (.ifCond .ge 7, 3) := by decide +kernel
theorem dX7_clause_80 : decode cX7_clause 80 = .ok (.iconst 0, 1) := by decide +kernel
theorem dX7_clause_81 : decode cX7_clause 81 = .ok (.goto 4, 3) := by decide +kernel
theorem dX7_clause_84 : decode cX7_clause 84 = .ok (.iload_n 2, 1) := by decide +kernel
theorem dX7_clause_85 : decode cX7_clause 85 = .ok (.iastore, 1) := by decide +kernel
theorem dX7_clause_86 : decode cX7_clause 86 = .ok (.aload_n 0, 1) := by decide +kernel
theorem dX7_clause_87 : decode cX7_clause 87 = .ok (.getfield 28, 3) := by decide +kernel
theorem dX7_clause_90 : decode cX7_clause 90 = .ok (.iconst 2, 1) := by decide +kernel
theorem dX7_clause_91 : decode cX7_clause 91 = .ok (.aload_n 0, 1) := by decide +kernel
theorem dX7_clause_92 : decode cX7_clause 92 = .ok (.getfield 182, 3) := by decide +kernel
theorem dX7_clause_95 : decode cX7_clause 95 = .ok (.imul, 1) := by decide +kernel
theorem dX7_clause_96 : decode cX7_clause 96 = .ok (.iconst 1, 1) := by decide +kernel
theorem dX7_clause_97 : decode cX7_clause 97 = .ok (.iadd, 1) := by decide +kernel
theorem dX7_clause_98 : decode cX7_clause 98 = .ok (.iload_n 1, 1) := by decide +kernel
theorem dX7_clause_99 : decode cX7_clause 99 = .ok (.ifCond .lt 13, 3) := by decide +kernel
theorem dX7_clause_102 : decode cX7_clause 102 = .ok (.aload_n 0, 1) := by decide +kernel
theorem dX7_clause_103 : decode cX7_clause 103 = .ok (.getfield 7, 3) := by decide +kernel
theorem dX7_clause_106 : decode cX7_clause 106 = .ok (.iload_n 1, 1) := by decide +kernel
theorem dX7_clause_107 : decode cX7_clause 107 = .ok (.iaload, 1) := by decide +kernel
theorem dX7_clause_108 : decode cX7_clause 108 = .ok (.iconst 1, 1) := by decide +kernel
theorem dX7_clause_109 : decode cX7_clause 109 = .ok (.if_icmp .ne 7, 3) := by decide +kernel
theorem dX7_clause_112 : decode cX7_clause 112 = .ok (.iconst 0, 1) := by decide +kernel
theorem dX7_clause_113 : decode cX7_clause 113 = .ok (.goto 4, 3) := by decide +kernel
theorem dX7_clause_116 : decode cX7_clause 116 = .ok (.iload_n 3, 1) := by decide +kernel
theorem dX7_clause_117 : decode cX7_clause 117 = .ok (.iastore, 1) := by decide +kernel
theorem dX7_clause_118 : decode cX7_clause 118 = .ok (.aload_n 0, 1) := by decide +kernel
theorem dX7_clause_119 : decode cX7_clause 119 = .ok (.getfield 31, 3) := by decide +kernel
theorem dX7_clause_122 : decode cX7_clause 122 = .ok (.aload_n 0, 1) := by decide +kernel
theorem dX7_clause_123 : decode cX7_clause 123 = .ok (.getfield 182, 3) := by decide +kernel
theorem dX7_clause_126 : decode cX7_clause 126 = .ok (.iconst 0, 1) := by decide +kernel
theorem dX7_clause_127 : decode cX7_clause 127 = .ok (.iastore, 1) := by decide +kernel
theorem dX7_clause_128 : decode cX7_clause 128 = .ok (.aload_n 0, 1) := by decide +kernel
theorem dX7_clause_129 : decode cX7_clause 129 = .ok (.getfield 40, 3) := by decide +kernel
theorem dX7_clause_132 : decode cX7_clause 132 = .ok (.aload_n 0, 1) := by decide +kernel
theorem dX7_clause_133 : decode cX7_clause 133 = .ok (.getfield 182, 3) := by decide +kernel
theorem dX7_clause_136 : decode cX7_clause 136 = .ok (.iconst 0, 1) := by decide +kernel
theorem dX7_clause_137 : decode cX7_clause 137 = .ok (.iastore, 1) := by decide +kernel
theorem dX7_clause_138 : decode cX7_clause 138 = .ok (.aload_n 0, 1) := by decide +kernel
theorem dX7_clause_139 : decode cX7_clause 139 = .ok (.dup, 1) := by decide +kernel
theorem dX7_clause_140 : decode cX7_clause 140 = .ok (.getfield 182, 3) := by decide +kernel
theorem dX7_clause_143 : decode cX7_clause 143 = .ok (.iconst 1, 1) := by decide +kernel
theorem dX7_clause_144 : decode cX7_clause 144 = .ok (.iadd, 1) := by decide +kernel
theorem dX7_clause_145 : decode cX7_clause 145 = .ok (.putfield 182, 3) := by decide +kernel
theorem dX7_clause_148 : decode cX7_clause 148 = .ok (.aload_n 0, 1) := by decide +kernel
theorem dX7_clause_149 : decode cX7_clause 149 = .ok (.aload_n 0, 1) := by decide +kernel
theorem dX7_clause_150 : decode cX7_clause 150 = .ok (.getfield 182, 3) := by decide +kernel
theorem dX7_clause_153 : decode cX7_clause 153 = .ok (.iconst 1, 1) := by decide +kernel
theorem dX7_clause_154 : decode cX7_clause 154 = .ok (.isub, 1) := by decide +kernel
theorem dX7_clause_155 : decode cX7_clause 155 = .ok (.invokevirtual 160, 3) := by decide +kernel
theorem dX7_clause_158 : decode cX7_clause 158 = .ok (.ireturn, 1) := by decide +kernel
theorem dX7_atom_0 : decode cX7_atom 0 = .ok (.aload_n 0, 1) := by decide +kernel
theorem dX7_atom_1 : decode cX7_atom 1 = .ok (.aload_n 0, 1) := by decide +kernel
theorem dX7_atom_2 : decode cX7_atom 2 = .ok (.iload_n 1, 1) := by decide +kernel
theorem dX7_atom_3 : decode cX7_atom 3 = .ok (.invokevirtual 163, 3) := by decide +kernel
theorem dX7_atom_6 : decode cX7_atom 6 = .ok (.ifCond .eq 17, 3) := by decide +kernel
theorem dX7_atom_9 : decode cX7_atom 9 = .ok (.aload_n 0, 1) := by decide +kernel
theorem dX7_atom_10 : decode cX7_atom 10 = .ok (.iload_n 1, 1) := by decide +kernel
theorem dX7_atom_11 : decode cX7_atom 11 = .ok (.iload_n 2, 1) := by decide +kernel
theorem dX7_atom_12 : decode cX7_atom 12 = .ok (.iload_n 3, 1) := by decide +kernel
theorem dX7_atom_13 : decode cX7_atom 13 = .ok (.invokevirtual 179, 3) := by decide +kernel
theorem dX7_atom_16 : decode cX7_atom 16 = .ok (.ifCond .eq 7, 3) := by decide +kernel
theorem dX7_atom_19 : decode cX7_atom 19 = .ok (.iconst 0, 1) := by decide +kernel
theorem dX7_atom_20 : decode cX7_atom 20 = .ok (.goto 4, 3) := by decide +kernel
theorem dX7_atom_23 : decode cX7_atom 23 = .ok (.iconst 1, 1) := by decide +kernel
theorem dX7_atom_24 : decode cX7_atom 24 = .ok (.putfield 98, 3) := by decide +kernel
theorem dX7_atom_27 : decode cX7_atom 27 = .ok (.aload_n 0, 1) := by decide +kernel
theorem dX7_atom_28 : decode cX7_atom 28 = .ok (.getfield 98, 3) := by decide +kernel
theorem dX7_atom_31 : decode cX7_atom 31 = .ok (.ifCond .le 5, 3) := by decide +kernel
theorem dX7_atom_34 : decode cX7_atom 34 = .ok (.iconst 0, 1) := by decide +kernel
theorem dX7_atom_35 : decode cX7_atom 35 = .ok (.ireturn, 1) := by decide +kernel
theorem dX7_atom_36 : decode cX7_atom 36 = .ok (.aload_n 0, 1) := by decide +kernel
theorem dX7_atom_37 : decode cX7_atom 37 = .ok (.getfield 182, 3) := by decide +kernel
theorem dX7_atom_40 : decode cX7_atom 40 = .ok (.ifCond .eq 18, 3) := by decide +kernel
theorem dX7_atom_43 : decode cX7_atom 43 = .ok (.aload_n 0, 1) := by decide +kernel
theorem dX7_atom_44 : decode cX7_atom 44 = .ok (.getfield 31, 3) := by decide +kernel
theorem dX7_atom_47 : decode cX7_atom 47 = .ok (.aload_n 0, 1) := by decide +kernel
theorem dX7_atom_48 : decode cX7_atom 48 = .ok (.getfield 182, 3) := by decide +kernel
theorem dX7_atom_51 : decode cX7_atom 51 = .ok (.iconst 1, 1) := by decide +kernel
theorem dX7_atom_52 : decode cX7_atom 52 = .ok (.isub, 1) := by decide +kernel
theorem dX7_atom_53 : decode cX7_atom 53 = .ok (.iaload, 1) := by decide +kernel
theorem dX7_atom_54 : decode cX7_atom 54 = .ok (.iconst 2, 1) := by decide +kernel
theorem dX7_atom_55 : decode cX7_atom 55 = .ok (.if_icmp .ne 9, 3) := by decide +kernel
theorem dX7_atom_58 : decode cX7_atom 58 = .ok (.aload_n 0, 1) := by decide +kernel
theorem dX7_atom_59 : decode cX7_atom 59 = .ok (.iconst 2, 1) := by decide +kernel
theorem dX7_atom_60 : decode cX7_atom 60 = .ok (.invokevirtual 172, 3) := by decide +kernel
theorem dX7_atom_63 : decode cX7_atom 63 = .ok (.ireturn, 1) := by decide +kernel
theorem dX7_atom_64 : decode cX7_atom 64 = .ok (.aload_n 0, 1) := by decide +kernel
theorem dX7_atom_65 : decode cX7_atom 65 = .ok (.getfield 182, 3) := by decide +kernel
theorem dX7_atom_68 : decode cX7_atom 68 = .ok (.iconst 1, 1) := by decide +kernel
theorem dX7_atom_69 : decode cX7_atom 69 = .ok (.isub, 1) := by decide +kernel
theorem dX7_atom_70 : decode cX7_atom 70 = .ok (.istore 4, 2) := by decide +kernel
theorem dX7_atom_72 : decode cX7_atom 72 = .ok (.iconst 2, 1) := by decide +kernel
theorem dX7_atom_73 : decode cX7_atom 73 = .ok (.iload 4, 2) := by decide +kernel
theorem dX7_atom_75 : decode cX7_atom 75 = .ok (.imul, 1) := by decide +kernel
theorem dX7_atom_76 : decode cX7_atom 76 = .ok (.aload_n 0, 1) := by decide +kernel
theorem dX7_atom_77 : decode cX7_atom 77 = .ok (.getfield 31, 3) := by decide +kernel
theorem dX7_atom_80 : decode cX7_atom 80 = .ok (.iload 4, 2) := by decide +kernel
theorem dX7_atom_82 : decode cX7_atom 82 = .ok (.iaload, 1) := by decide +kernel
theorem dX7_atom_83 : decode cX7_atom 83 = .ok (.iadd, 1) := by decide +kernel
theorem dX7_atom_84 : decode cX7_atom 84 = .ok (.istore 5, 2) := by decide +kernel
theorem dX7_atom_86 : decode cX7_atom 86 = .ok (.aload_n 0, 1) := by decide +kernel
theorem dX7_atom_87 : decode cX7_atom 87 = .ok (.getfield 34, 3) := by decide +kernel
theorem dX7_atom_90 : decode cX7_atom 90 = .ok (.iload 5, 2) := by decide +kernel
theorem dX7_atom_92 : decode cX7_atom 92 = .ok (.iload_n 1, 1) := by decide +kernel
theorem dX7_atom_93 : decode cX7_atom 93 = .ok (.iastore, 1) := by decide +kernel
theorem dX7_atom_94 : decode cX7_atom 94 = .ok (.aload_n 0, 1) := by decide +kernel
theorem dX7_atom_95 : decode cX7_atom 95 = .ok (.getfield 37, 3) := by decide +kernel
theorem dX7_atom_98 : decode cX7_atom 98 = .ok (.iconst 2, 1) := by decide +kernel
theorem dX7_atom_99 : decode cX7_atom 99 = .ok (.iload 5, 2) := by decide +kernel
theorem dX7_atom_101 : decode cX7_atom 101 = .ok (.imul, 1) := by decide +kernel
theorem dX7_atom_102 : decode cX7_atom 102 = .ok (.iload_n 2, 1) := by decide +kernel
theorem dX7_atom_103 : decode cX7_atom 103 = .ok (.iastore, 1) := by decide +kernel
theorem dX7_atom_104 : decode cX7_atom 104 = .ok (.aload_n 0, 1) := by decide +kernel
theorem dX7_atom_105 : decode cX7_atom 105 = .ok (.getfield 37, 3) := by decide +kernel
theorem dX7_atom_108 : decode cX7_atom 108 = .ok (.iconst 2, 1) := by decide +kernel
theorem dX7_atom_109 : decode cX7_atom 109 = .ok (.iload 5, 2) := by decide +kernel
theorem dX7_atom_111 : decode cX7_atom 111 = .ok (.imul, 1) := by decide +kernel
theorem dX7_atom_112 : decode cX7_atom 112 = .ok (.iconst 1, 1) := by decide +kernel
theorem dX7_atom_113 : decode cX7_atom 113 = .ok (.iadd, 1) := by decide +kernel
theorem dX7_atom_114 : decode cX7_atom 114 = .ok (.aload_n 0, 1) := by decide +kernel
theorem dX7_atom_115 : decode cX7_atom 115 = .ok (.getfield 7, 3) := by decide +kernel
theorem dX7_atom_118 : decode cX7_atom 118 = .ok (.iload_n 1, 1) := by decide +kernel
theorem dX7_atom_119 : decode cX7_atom 119 = .ok (.iaload, 1) := by decide +kernel
theorem dX7_atom_120 : decode cX7_atom 120 = .ok (.iconst 1, 1) := by decide +kernel
theorem dX7_atom_121 : decode cX7_atom 121 = .ok (.if_icmp .ne 7, 3) := by decide +kernel
theorem dX7_atom_124 : decode cX7_atom 124 = .ok (.iconst 0, 1) := by decide +kernel
theorem dX7_atom_125 : decode cX7_atom 125 = .ok (.goto 4, 3) := by decide +kernel
theorem dX7_atom_128 : decode cX7_atom 128 = .ok (.iload_n 3, 1) := by decide +kernel
theorem dX7_atom_129 : decode cX7_atom 129 = .ok (.iastore, 1) := by decide +kernel
theorem dX7_atom_130 : decode cX7_atom 130 = .ok (.aload_n 0, 1) := by decide +kernel
theorem dX7_atom_131 : decode cX7_atom 131 = .ok (.getfield 31, 3) := by decide +kernel
theorem dX7_atom_134 : decode cX7_atom 134 = .ok (.iload 4, 2) := by decide +kernel
theorem dX7_atom_136 : decode cX7_atom 136 = .ok (.dup2, 1) := by decide +kernel
theorem dX7_atom_137 : decode cX7_atom 137 = .ok (.iaload, 1) := by decide +kernel
theorem dX7_atom_138 : decode cX7_atom 138 = .ok (.iconst 1, 1) := by decide +kernel
theorem dX7_atom_139 : decode cX7_atom 139 = .ok (.iadd, 1) := by decide +kernel
theorem dX7_atom_140 : decode cX7_atom 140 = .ok (.iastore, 1) := by decide +kernel
theorem dX7_atom_141 : decode cX7_atom 141 = .ok (.aload_n 0, 1) := by decide +kernel
theorem dX7_atom_142 : decode cX7_atom 142 = .ok (.aload_n 0, 1) := by decide +kernel
theorem dX7_atom_143 : decode cX7_atom 143 = .ok (.getfield 31, 3) := by decide +kernel
theorem dX7_atom_146 : decode cX7_atom 146 = .ok (.iload 4, 2) := by decide +kernel
theorem dX7_atom_148 : decode cX7_atom 148 = .ok (.iaload, 1) := by decide +kernel
theorem dX7_atom_149 : decode cX7_atom 149 = .ok (.iconst 1, 1) := by decide +kernel
theorem dX7_atom_150 : decode cX7_atom 150 = .ok (.isub, 1) := by decide +kernel
theorem dX7_atom_151 : decode cX7_atom 151 = .ok (.invokevirtual 160, 3) := by decide +kernel
theorem dX7_atom_154 : decode cX7_atom 154 = .ok (.ireturn, 1) := by decide +kernel
theorem dX7_bound_0 : decode cX7_bound 0 = .ok (.aload_n 0, 1) := by decide +kernel
theorem dX7_bound_1 : decode cX7_bound 1 = .ok (.iload_n 1, 1) := by decide +kernel
theorem dX7_bound_2 : decode cX7_bound 2 = .ok (.iconst 0, 1) := by decide +kernel
theorem dX7_bound_3 : decode cX7_bound 3 = .ok (.iconst 5, 1) := by decide +kernel
theorem dX7_bound_4 : decode cX7_bound 4 = .ok (.invokestatic 104, 3) := by decide +kernel
theorem dX7_bound_7 : decode cX7_bound 7 = .ok (.ifCond .eq 34, 3) := by decide +kernel
theorem dX7_bound_10 : decode cX7_bound 10 = .ok (.iload_n 2, 1) := by decide +kernel
theorem dX7_bound_11 : decode cX7_bound 11 = .ok (.iconst 0, 1) := by decide +kernel
theorem dX7_bound_12 : decode cX7_bound 12 = .ok (.iconst 5, 1) := by decide +kernel
theorem dX7_bound_13 : decode cX7_bound 13 = .ok (.invokestatic 104, 3) := by decide +kernel
theorem dX7_bound_16 : decode cX7_bound 16 = .ok (.ifCond .eq 25, 3) := by decide +kernel
theorem dX7_bound_19 : decode cX7_bound 19 = .ok (.iload_n 1, 1) := by decide +kernel
theorem dX7_bound_20 : decode cX7_bound 20 = .ok (.iload_n 2, 1) := by decide +kernel
theorem dX7_bound_21 : decode cX7_bound 21 = .ok (.if_icmp .eq 20, 3) := by decide +kernel
theorem dX7_bound_24 : decode cX7_bound 24 = .ok (.iload_n 3, 1) := by decide +kernel
theorem dX7_bound_25 : decode cX7_bound 25 = .ok (.sipush (-1000), 3) := by decide +kernel
theorem dX7_bound_28 : decode cX7_bound 28 = .ok (.sipush 1000, 3) := by decide +kernel
theorem dX7_bound_31 : decode cX7_bound 31 = .ok (.invokestatic 104, 3) := by decide +kernel
theorem dX7_bound_34 : decode cX7_bound 34 = .ok (.ifCond .eq 7, 3) := by decide +kernel
theorem dX7_bound_37 : decode cX7_bound 37 = .ok (.iconst 0, 1) := by decide +kernel
theorem dX7_bound_38 : decode cX7_bound 38 = .ok (.goto 4, 3) := by decide +kernel
theorem dX7_bound_41 : decode cX7_bound 41 = .ok (.iconst 1, 1) := by decide +kernel
theorem dX7_bound_42 : decode cX7_bound 42 = .ok (.putfield 98, 3) := by decide +kernel
theorem dX7_bound_45 : decode cX7_bound 45 = .ok (.aload_n 0, 1) := by decide +kernel
theorem dX7_bound_46 : decode cX7_bound 46 = .ok (.getfield 98, 3) := by decide +kernel
theorem dX7_bound_49 : decode cX7_bound 49 = .ok (.ifCond .le 5, 3) := by decide +kernel
theorem dX7_bound_52 : decode cX7_bound 52 = .ok (.iconst 0, 1) := by decide +kernel
theorem dX7_bound_53 : decode cX7_bound 53 = .ok (.ireturn, 1) := by decide +kernel
theorem dX7_bound_54 : decode cX7_bound 54 = .ok (.aload_n 0, 1) := by decide +kernel
theorem dX7_bound_55 : decode cX7_bound 55 = .ok (.getfield 182, 3) := by decide +kernel
theorem dX7_bound_58 : decode cX7_bound 58 = .ok (.ifCond .eq 19, 3) := by decide +kernel
theorem dX7_bound_61 : decode cX7_bound 61 = .ok (.aload_n 0, 1) := by decide +kernel
theorem dX7_bound_62 : decode cX7_bound 62 = .ok (.getfield 40, 3) := by decide +kernel
theorem dX7_bound_65 : decode cX7_bound 65 = .ok (.aload_n 0, 1) := by decide +kernel
theorem dX7_bound_66 : decode cX7_bound 66 = .ok (.getfield 182, 3) := by decide +kernel
theorem dX7_bound_69 : decode cX7_bound 69 = .ok (.iconst 1, 1) := by decide +kernel
theorem dX7_bound_70 : decode cX7_bound 70 = .ok (.isub, 1) := by decide +kernel
theorem dX7_bound_71 : decode cX7_bound 71 = .ok (.iaload, 1) := by decide +kernel
theorem dX7_bound_72 : decode cX7_bound 72 = .ok (.bipush 8, 2) := by decide +kernel
theorem dX7_bound_74 : decode cX7_bound 74 = .ok (.if_icmp .ne 9, 3) := by decide +kernel
theorem dX7_bound_77 : decode cX7_bound 77 = .ok (.aload_n 0, 1) := by decide +kernel
theorem dX7_bound_78 : decode cX7_bound 78 = .ok (.iconst 2, 1) := by decide +kernel
theorem dX7_bound_79 : decode cX7_bound 79 = .ok (.invokevirtual 172, 3) := by decide +kernel
theorem dX7_bound_82 : decode cX7_bound 82 = .ok (.ireturn, 1) := by decide +kernel
theorem dX7_bound_83 : decode cX7_bound 83 = .ok (.bipush 8, 2) := by decide +kernel
theorem dX7_bound_85 : decode cX7_bound 85 = .ok (.aload_n 0, 1) := by decide +kernel
theorem dX7_bound_86 : decode cX7_bound 86 = .ok (.getfield 182, 3) := by decide +kernel
theorem dX7_bound_89 : decode cX7_bound 89 = .ok (.iconst 1, 1) := by decide +kernel
theorem dX7_bound_90 : decode cX7_bound 90 = .ok (.isub, 1) := by decide +kernel
theorem dX7_bound_91 : decode cX7_bound 91 = .ok (.imul, 1) := by decide +kernel
theorem dX7_bound_92 : decode cX7_bound 92 = .ok (.aload_n 0, 1) := by decide +kernel
theorem dX7_bound_93 : decode cX7_bound 93 = .ok (.getfield 40, 3) := by decide +kernel
theorem dX7_bound_96 : decode cX7_bound 96 = .ok (.aload_n 0, 1) := by decide +kernel
theorem dX7_bound_97 : decode cX7_bound 97 = .ok (.getfield 182, 3) := by decide +kernel
theorem dX7_bound_100 : decode cX7_bound 100 = .ok (.iconst 1, 1) := by decide +kernel
theorem dX7_bound_101 : decode cX7_bound 101 = .ok (.isub, 1) := by decide +kernel
theorem dX7_bound_102 : decode cX7_bound 102 = .ok (.iaload, 1) := by decide +kernel
theorem dX7_bound_103 : decode cX7_bound 103 = .ok (.iadd, 1) := by decide +kernel
theorem dX7_bound_104 : decode cX7_bound 104 = .ok (.istore 4, 2) := by decide +kernel
theorem dX7_bound_106 : decode cX7_bound 106 = .ok (.aload_n 0, 1) := by decide +kernel
theorem dX7_bound_107 : decode cX7_bound 107 = .ok (.getfield 43, 3) := by decide +kernel
theorem dX7_bound_110 : decode cX7_bound 110 = .ok (.iload 4, 2) := by decide +kernel
theorem dX7_bound_112 : decode cX7_bound 112 = .ok (.iload_n 1, 1) := by decide +kernel
theorem dX7_bound_113 : decode cX7_bound 113 = .ok (.iastore, 1) := by decide +kernel
theorem dX7_bound_114 : decode cX7_bound 114 = .ok (.aload_n 0, 1) := by decide +kernel
theorem dX7_bound_115 : decode cX7_bound 115 = .ok (.getfield 46, 3) := by decide +kernel
theorem dX7_bound_118 : decode cX7_bound 118 = .ok (.iload 4, 2) := by decide +kernel
theorem dX7_bound_120 : decode cX7_bound 120 = .ok (.iload_n 2, 1) := by decide +kernel
theorem dX7_bound_121 : decode cX7_bound 121 = .ok (.iastore, 1) := by decide +kernel
theorem dX7_bound_122 : decode cX7_bound 122 = .ok (.aload_n 0, 1) := by decide +kernel
theorem dX7_bound_123 : decode cX7_bound 123 = .ok (.getfield 49, 3) := by decide +kernel
theorem dX7_bound_126 : decode cX7_bound 126 = .ok (.iload 4, 2) := by decide +kernel
theorem dX7_bound_128 : decode cX7_bound 128 = .ok (.iload_n 3, 1) := by decide +kernel
theorem dX7_bound_129 : decode cX7_bound 129 = .ok (.iastore, 1) := by decide +kernel
theorem dX7_bound_130 : decode cX7_bound 130 = .ok (.aload_n 0, 1) := by decide +kernel
theorem dX7_bound_131 : decode cX7_bound 131 = .ok (.getfield 40, 3) := by decide +kernel
theorem dX7_bound_134 : decode cX7_bound 134 = .ok (.aload_n 0, 1) := by decide +kernel
theorem dX7_bound_135 : decode cX7_bound 135 = .ok (.getfield 182, 3) := by decide +kernel
theorem dX7_bound_138 : decode cX7_bound 138 = .ok (.iconst 1, 1) := by decide +kernel
theorem dX7_bound_139 : decode cX7_bound 139 = .ok (.isub, 1) := by decide +kernel
theorem dX7_bound_140 : decode cX7_bound 140 = .ok (.dup2, 1) := by decide +kernel
theorem dX7_bound_141 : decode cX7_bound 141 = .ok (.iaload, 1) := by decide +kernel
theorem dX7_bound_142 : decode cX7_bound 142 = .ok (.iconst 1, 1) := by decide +kernel
theorem dX7_bound_143 : decode cX7_bound 143 = .ok (.iadd, 1) := by decide +kernel
theorem dX7_bound_144 : decode cX7_bound 144 = .ok (.iastore, 1) := by decide +kernel
theorem dX7_bound_145 : decode cX7_bound 145 = .ok (.aload_n 0, 1) := by decide +kernel
theorem dX7_bound_146 : decode cX7_bound 146 = .ok (.aload_n 0, 1) := by decide +kernel
theorem dX7_bound_147 : decode cX7_bound 147 = .ok (.getfield 40, 3) := by decide +kernel
theorem dX7_bound_150 : decode cX7_bound 150 = .ok (.aload_n 0, 1) := by decide +kernel
theorem dX7_bound_151 : decode cX7_bound 151 = .ok (.getfield 182, 3) := by decide +kernel
theorem dX7_bound_154 : decode cX7_bound 154 = .ok (.iconst 1, 1) := by decide +kernel
theorem dX7_bound_155 : decode cX7_bound 155 = .ok (.isub, 1) := by decide +kernel
theorem dX7_bound_156 : decode cX7_bound 156 = .ok (.iaload, 1) := by decide +kernel
theorem dX7_bound_157 : decode cX7_bound 157 = .ok (.invokevirtual 160, 3) := by decide +kernel
theorem dX7_bound_160 : decode cX7_bound 160 = .ok (.ireturn, 1) := by decide +kernel
theorem dX7_start_0 : decode cX7_start 0 = .ok (.aload_n 0, 1) := by decide +kernel
theorem dX7_start_1 : decode cX7_start 1 = .ok (.iconst 0, 1) := by decide +kernel
theorem dX7_start_2 : decode cX7_start 2 = .ok (.putfield 98, 3) := by decide +kernel
theorem dX7_start_5 : decode cX7_start 5 = .ok (.aload_n 0, 1) := by decide +kernel
theorem dX7_start_6 : decode cX7_start 6 = .ok (.iconst 0, 1) := by decide +kernel
theorem dX7_start_7 : decode cX7_start 7 = .ok (.invokevirtual 160, 3) := by decide +kernel
theorem dX7_start_10 : decode cX7_start 10 = .ok (.pop, 1) := by decide +kernel
theorem dX7_start_11 : decode cX7_start 11 = .ok (.return_, 1) := by decide +kernel
theorem dX7_round_0 : decode cX7_round 0 = .ok (.aload_n 0, 1) := by decide +kernel
theorem dX7_round_1 : decode cX7_round 1 = .ok (.aload_n 0, 1) := by decide +kernel
theorem dX7_round_2 : decode cX7_round 2 = .ok (.getfield 157, 3) := by decide +kernel
theorem dX7_round_5 : decode cX7_round 5 = .ok (.ifCond .gt 10, 3) := by decide +kernel
theorem dX7_round_8 : decode cX7_round 8 = .ok (.aload_n 0, 1) := by decide +kernel
theorem dX7_round_9 : decode cX7_round 9 = .ok (.getfield 61, 3) := by decide +kernel
theorem dX7_round_12 : decode cX7_round 12 = .ok (.ifCond .lt 7, 3) := by decide +kernel
theorem dX7_round_15 : decode cX7_round 15 = .ok (.iconst 1, 1) := by decide +kernel
theorem dX7_round_16 : decode cX7_round 16 = .ok (.goto 4, 3) := by decide +kernel
theorem dX7_round_19 : decode cX7_round 19 = .ok (.iconst 0, 1) := by decide +kernel
theorem dX7_round_20 : decode cX7_round 20 = .ok (.putfield 98, 3) := by decide +kernel
theorem dX7_round_23 : decode cX7_round 23 = .ok (.aload_n 0, 1) := by decide +kernel
theorem dX7_round_24 : decode cX7_round 24 = .ok (.getfield 98, 3) := by decide +kernel
theorem dX7_round_27 : decode cX7_round 27 = .ok (.ifCond .le 5, 3) := by decide +kernel
theorem dX7_round_30 : decode cX7_round 30 = .ok (.iconst 0, 1) := by decide +kernel
theorem dX7_round_31 : decode cX7_round 31 = .ok (.ireturn, 1) := by decide +kernel
theorem dX7_round_32 : decode cX7_round 32 = .ok (.aload_n 0, 1) := by decide +kernel
theorem dX7_round_33 : decode cX7_round 33 = .ok (.invokevirtual 185, 3) := by decide +kernel
theorem dX7_round_36 : decode cX7_round 36 = .ok (.ireturn, 1) := by decide +kernel
theorem dX7_next_0 : decode cX7_next 0 = .ok (.aload_n 0, 1) := by decide +kernel
theorem dX7_next_1 : decode cX7_next 1 = .ok (.dup, 1) := by decide +kernel
theorem dX7_next_2 : decode cX7_next 2 = .ok (.getfield 148, 3) := by decide +kernel
theorem dX7_next_5 : decode cX7_next 5 = .ok (.iconst 1, 1) := by decide +kernel
theorem dX7_next_6 : decode cX7_next 6 = .ok (.iadd, 1) := by decide +kernel
theorem dX7_next_7 : decode cX7_next 7 = .ok (.putfield 148, 3) := by decide +kernel
theorem dX7_next_10 : decode cX7_next 10 = .ok (.iconst 0, 1) := by decide +kernel
theorem dX7_next_11 : decode cX7_next 11 = .ok (.istore_n 1, 1) := by decide +kernel
theorem dX7_next_12 : decode cX7_next 12 = .ok (.iload_n 1, 1) := by decide +kernel
theorem dX7_next_13 : decode cX7_next 13 = .ok (.aload_n 0, 1) := by decide +kernel
theorem dX7_next_14 : decode cX7_next 14 = .ok (.getfield 182, 3) := by decide +kernel
theorem dX7_next_17 : decode cX7_next 17 = .ok (.if_icmp .ge 58, 3) := by decide +kernel
theorem dX7_next_20 : decode cX7_next 20 = .ok (.aload_n 0, 1) := by decide +kernel
theorem dX7_next_21 : decode cX7_next 21 = .ok (.getfield 25, 3) := by decide +kernel
theorem dX7_next_24 : decode cX7_next 24 = .ok (.iload_n 1, 1) := by decide +kernel
theorem dX7_next_25 : decode cX7_next 25 = .ok (.iaload, 1) := by decide +kernel
theorem dX7_next_26 : decode cX7_next 26 = .ok (.ifCond .ge 43, 3) := by decide +kernel
theorem dX7_next_29 : decode cX7_next 29 = .ok (.aload_n 0, 1) := by decide +kernel
theorem dX7_next_30 : decode cX7_next 30 = .ok (.iload_n 1, 1) := by decide +kernel
theorem dX7_next_31 : decode cX7_next 31 = .ok (.iconst (-1), 1) := by decide +kernel
theorem dX7_next_32 : decode cX7_next 32 = .ok (.invokevirtual 189, 3) := by decide +kernel
theorem dX7_next_35 : decode cX7_next 35 = .ok (.ifCond .eq 34, 3) := by decide +kernel
theorem dX7_next_38 : decode cX7_next 38 = .ok (.aload_n 0, 1) := by decide +kernel
theorem dX7_next_39 : decode cX7_next 39 = .ok (.iload_n 1, 1) := by decide +kernel
theorem dX7_next_40 : decode cX7_next 40 = .ok (.putfield 61, 3) := by decide +kernel
theorem dX7_next_43 : decode cX7_next 43 = .ok (.aload_n 0, 1) := by decide +kernel
theorem dX7_next_44 : decode cX7_next 44 = .ok (.getfield 65, 3) := by decide +kernel
theorem dX7_next_47 : decode cX7_next 47 = .ok (.iconst 0, 1) := by decide +kernel
theorem dX7_next_48 : decode cX7_next 48 = .ok (.aload_n 0, 1) := by decide +kernel
theorem dX7_next_49 : decode cX7_next 49 = .ok (.getfield 142, 3) := by decide +kernel
theorem dX7_next_52 : decode cX7_next 52 = .ok (.iastore, 1) := by decide +kernel
theorem dX7_next_53 : decode cX7_next 53 = .ok (.aload_n 0, 1) := by decide +kernel
theorem dX7_next_54 : decode cX7_next 54 = .ok (.getfield 65, 3) := by decide +kernel
theorem dX7_next_57 : decode cX7_next 57 = .ok (.iconst 1, 1) := by decide +kernel
theorem dX7_next_58 : decode cX7_next 58 = .ok (.aload_n 0, 1) := by decide +kernel
theorem dX7_next_59 : decode cX7_next 59 = .ok (.getfield 145, 3) := by decide +kernel
theorem dX7_next_62 : decode cX7_next 62 = .ok (.iastore, 1) := by decide +kernel
theorem dX7_next_63 : decode cX7_next 63 = .ok (.aload_n 0, 1) := by decide +kernel
theorem dX7_next_64 : decode cX7_next 64 = .ok (.invokevirtual 192, 3) := by decide +kernel
theorem dX7_next_67 : decode cX7_next 67 = .ok (.iconst 0, 1) := by decide +kernel
theorem dX7_next_68 : decode cX7_next 68 = .ok (.ireturn, 1) := by decide +kernel
theorem dX7_next_69 : decode cX7_next 69 = .ok (.iinc 1 1, 3) := by decide +kernel
theorem dX7_next_72 : decode cX7_next 72 = .ok (.goto (-60), 3) := by decide +kernel
theorem dX7_next_75 : decode cX7_next 75 = .ok (.iconst 0, 1) := by decide +kernel
theorem dX7_next_76 : decode cX7_next 76 = .ok (.istore_n 1, 1) := by decide +kernel
theorem dX7_next_77 : decode cX7_next 77 = .ok (.iconst 0, 1) := by decide +kernel
theorem dX7_next_78 : decode cX7_next 78 = .ok (.istore_n 2, 1) := by decide +kernel
theorem dX7_next_79 : decode cX7_next 79 = .ok (.iload_n 2, 1) := by decide +kernel
theorem dX7_next_80 : decode cX7_next 80 = .ok (.bipush 16, 2) := by decide +kernel
theorem dX7_next_82 : decode cX7_next 82 = .ok (.aload_n 0, 1) := by decide +kernel
theorem dX7_next_83 : decode cX7_next 83 = .ok (.getfield 101, 3) := by decide +kernel
theorem dX7_next_86 : decode cX7_next 86 = .ok (.imul, 1) := by decide +kernel
theorem dX7_next_87 : decode cX7_next 87 = .ok (.if_icmp .ge 44, 3) := by decide +kernel
theorem dX7_next_90 : decode cX7_next 90 = .ok (.iload_n 2, 1) := by decide +kernel
theorem dX7_next_91 : decode cX7_next 91 = .ok (.bipush 16, 2) := by decide +kernel
theorem dX7_next_93 : decode cX7_next 93 = .ok (.irem, 1) := by decide +kernel
theorem dX7_next_94 : decode cX7_next 94 = .ok (.aload_n 0, 1) := by decide +kernel
theorem dX7_next_95 : decode cX7_next 95 = .ok (.iload_n 2, 1) := by decide +kernel
theorem dX7_next_96 : decode cX7_next 96 = .ok (.bipush 16, 2) := by decide +kernel
theorem dX7_next_98 : decode cX7_next 98 = .ok (.idiv, 1) := by decide +kernel
theorem dX7_next_99 : decode cX7_next 99 = .ok (.invokevirtual 130, 3) := by decide +kernel
theorem dX7_next_102 : decode cX7_next 102 = .ok (.if_icmp .ge 23, 3) := by decide +kernel
theorem dX7_next_105 : decode cX7_next 105 = .ok (.aload_n 0, 1) := by decide +kernel
theorem dX7_next_106 : decode cX7_next 106 = .ok (.getfield 52, 3) := by decide +kernel
theorem dX7_next_109 : decode cX7_next 109 = .ok (.iload_n 2, 1) := by decide +kernel
theorem dX7_next_110 : decode cX7_next 110 = .ok (.iaload, 1) := by decide +kernel
theorem dX7_next_111 : decode cX7_next 111 = .ok (.ifCond .ne 14, 3) := by decide +kernel
theorem dX7_next_114 : decode cX7_next 114 = .ok (.aload_n 0, 1) := by decide +kernel
theorem dX7_next_115 : decode cX7_next 115 = .ok (.iload_n 2, 1) := by decide +kernel
theorem dX7_next_116 : decode cX7_next 116 = .ok (.invokevirtual 195, 3) := by decide +kernel
theorem dX7_next_119 : decode cX7_next 119 = .ok (.ifCond .eq 6, 3) := by decide +kernel
theorem dX7_next_122 : decode cX7_next 122 = .ok (.iinc 1 1, 3) := by decide +kernel
theorem dX7_next_125 : decode cX7_next 125 = .ok (.iinc 2 1, 3) := by decide +kernel
theorem dX7_next_128 : decode cX7_next 128 = .ok (.goto (-49), 3) := by decide +kernel
theorem dX7_next_131 : decode cX7_next 131 = .ok (.aload_n 0, 1) := by decide +kernel
theorem dX7_next_132 : decode cX7_next 132 = .ok (.iload_n 1, 1) := by decide +kernel
theorem dX7_next_133 : decode cX7_next 133 = .ok (.ifCond .ne 7, 3) := by decide +kernel
theorem dX7_next_136 : decode cX7_next 136 = .ok (.iconst 1, 1) := by decide +kernel
theorem dX7_next_137 : decode cX7_next 137 = .ok (.goto 4, 3) := by decide +kernel
theorem dX7_next_140 : decode cX7_next 140 = .ok (.iconst 0, 1) := by decide +kernel
theorem dX7_next_141 : decode cX7_next 141 = .ok (.putfield 157, 3) := by decide +kernel
theorem dX7_next_144 : decode cX7_next 144 = .ok (.iload_n 1, 1) := by decide +kernel
theorem dX7_next_145 : decode cX7_next 145 = .ok (.ireturn, 1) := by decide +kernel
theorem dX7_isReached_0 : decode cX7_isReached 0 = .ok (.iconst 0, 1) := by decide +kernel
theorem dX7_isReached_1 : decode cX7_isReached 1 = .ok (.istore_n 2, 1) := by decide +kernel
theorem dX7_isReached_2 : decode cX7_isReached 2 = .ok (.iload_n 2, 1) := by decide +kernel
theorem dX7_isReached_3 : decode cX7_isReached 3 = .ok (.aload_n 0, 1) := by decide +kernel
theorem dX7_isReached_4 : decode cX7_isReached 4 = .ok (.getfield 182, 3) := by decide +kernel
theorem dX7_isReached_7 : decode cX7_isReached 7 = .ok (.if_icmp .ge 79, 3) := by decide +kernel
theorem dX7_isReached_10 : decode cX7_isReached 10 = .ok (.aload_n 0, 1) := by decide +kernel
theorem dX7_isReached_11 : decode cX7_isReached 11 = .ok (.getfield 25, 3) := by decide +kernel
theorem dX7_isReached_14 : decode cX7_isReached 14 = .ok (.iload_n 2, 1) := by decide +kernel
theorem dX7_isReached_15 : decode cX7_isReached 15 = .ok (.iaload, 1) := by decide +kernel
theorem dX7_isReached_16 : decode cX7_isReached 16 = .ok (.iload_n 1, 1) := by decide +kernel
theorem dX7_isReached_17 : decode cX7_isReached 17 = .ok (.bipush 16, 2) := by decide +kernel
theorem dX7_isReached_19 : decode cX7_isReached 19 = .ok (.idiv, 1) := by decide +kernel
theorem dX7_isReached_20 : decode cX7_isReached 20 = .ok (.if_icmp .ne 60, 3) := by decide +kernel
theorem dX7_isReached_23 : decode cX7_isReached 23 = .ok (.aload_n 0, 1) := by decide +kernel
theorem dX7_isReached_24 : decode cX7_isReached 24 = .ok (.iload_n 2, 1) := by decide +kernel
theorem dX7_isReached_25 : decode cX7_isReached 25 = .ok (.iload_n 1, 1) := by decide +kernel
theorem dX7_isReached_26 : decode cX7_isReached 26 = .ok (.bipush 16, 2) := by decide +kernel
theorem dX7_isReached_28 : decode cX7_isReached 28 = .ok (.irem, 1) := by decide +kernel
theorem dX7_isReached_29 : decode cX7_isReached 29 = .ok (.invokevirtual 189, 3) := by decide +kernel
theorem dX7_isReached_32 : decode cX7_isReached 32 = .ok (.ifCond .eq 48, 3) := by decide +kernel
theorem dX7_isReached_35 : decode cX7_isReached 35 = .ok (.aload_n 0, 1) := by decide +kernel
theorem dX7_isReached_36 : decode cX7_isReached 36 = .ok (.getfield 52, 3) := by decide +kernel
theorem dX7_isReached_39 : decode cX7_isReached 39 = .ok (.iload_n 1, 1) := by decide +kernel
theorem dX7_isReached_40 : decode cX7_isReached 40 = .ok (.aload_n 0, 1) := by decide +kernel
theorem dX7_isReached_41 : decode cX7_isReached 41 = .ok (.getfield 148, 3) := by decide +kernel
theorem dX7_isReached_44 : decode cX7_isReached 44 = .ok (.iastore, 1) := by decide +kernel
theorem dX7_isReached_45 : decode cX7_isReached 45 = .ok (.aload_n 0, 1) := by decide +kernel
theorem dX7_isReached_46 : decode cX7_isReached 46 = .ok (.getfield 55, 3) := by decide +kernel
theorem dX7_isReached_49 : decode cX7_isReached 49 = .ok (.iload_n 1, 1) := by decide +kernel
theorem dX7_isReached_50 : decode cX7_isReached 50 = .ok (.iload_n 2, 1) := by decide +kernel
theorem dX7_isReached_51 : decode cX7_isReached 51 = .ok (.iastore, 1) := by decide +kernel
theorem dX7_isReached_52 : decode cX7_isReached 52 = .ok (.aload_n 0, 1) := by decide +kernel
theorem dX7_isReached_53 : decode cX7_isReached 53 = .ok (.getfield 58, 3) := by decide +kernel
theorem dX7_isReached_56 : decode cX7_isReached 56 = .ok (.iconst 2, 1) := by decide +kernel
theorem dX7_isReached_57 : decode cX7_isReached 57 = .ok (.iload_n 1, 1) := by decide +kernel
theorem dX7_isReached_58 : decode cX7_isReached 58 = .ok (.imul, 1) := by decide +kernel
theorem dX7_isReached_59 : decode cX7_isReached 59 = .ok (.aload_n 0, 1) := by decide +kernel
theorem dX7_isReached_60 : decode cX7_isReached 60 = .ok (.getfield 142, 3) := by decide +kernel
theorem dX7_isReached_63 : decode cX7_isReached 63 = .ok (.iastore, 1) := by decide +kernel
theorem dX7_isReached_64 : decode cX7_isReached 64 = .ok (.aload_n 0, 1) := by decide +kernel
theorem dX7_isReached_65 : decode cX7_isReached 65 = .ok (.getfield 58, 3) := by decide +kernel
theorem dX7_isReached_68 : decode cX7_isReached 68 = .ok (.iconst 2, 1) := by decide +kernel
theorem dX7_isReached_69 : decode cX7_isReached 69 = .ok (.iload_n 1, 1) := by decide +kernel
theorem dX7_isReached_70 : decode cX7_isReached 70 = .ok (.imul, 1) := by decide +kernel
theorem dX7_isReached_71 : decode cX7_isReached 71 = .ok (.iconst 1, 1) := by decide +kernel
theorem dX7_isReached_72 : decode cX7_isReached 72 = .ok (.iadd, 1) := by decide +kernel
theorem dX7_isReached_73 : decode cX7_isReached 73 = .ok (.aload_n 0, 1) := by decide +kernel
theorem dX7_isReached_74 : decode cX7_isReached 74 = .ok (.getfield 145, 3) := by decide +kernel
theorem dX7_isReached_77 : decode cX7_isReached 77 = .ok (.iastore, 1) := by decide +kernel
theorem dX7_isReached_78 : decode cX7_isReached 78 = .ok (.iconst 1, 1) := by decide +kernel
theorem dX7_isReached_79 : decode cX7_isReached 79 = .ok (.ireturn, 1) := by decide +kernel
theorem dX7_isReached_80 : decode cX7_isReached 80 = .ok (.iinc 2 1, 3) := by decide +kernel
theorem dX7_isReached_83 : decode cX7_isReached 83 = .ok (.goto (-81), 3) := by decide +kernel
theorem dX7_isReached_86 : decode cX7_isReached 86 = .ok (.iconst 0, 1) := by decide +kernel
theorem dX7_isReached_87 : decode cX7_isReached 87 = .ok (.ireturn, 1) := by decide +kernel
theorem dX7_grow_0 : decode cX7_grow 0 = .ok (.aload_n 0, 1) := by decide +kernel
theorem dX7_grow_1 : decode cX7_grow 1 = .ok (.iconst 0, 1) := by decide +kernel
theorem dX7_grow_2 : decode cX7_grow 2 = .ok (.putfield 151, 3) := by decide +kernel
theorem dX7_grow_5 : decode cX7_grow 5 = .ok (.iconst 1, 1) := by decide +kernel
theorem dX7_grow_6 : decode cX7_grow 6 = .ok (.istore_n 1, 1) := by decide +kernel
theorem dX7_grow_7 : decode cX7_grow 7 = .ok (.aload_n 0, 1) := by decide +kernel
theorem dX7_grow_8 : decode cX7_grow 8 = .ok (.getfield 95, 3) := by decide +kernel
theorem dX7_grow_11 : decode cX7_grow 11 = .ok (.iconst 0, 1) := by decide +kernel
theorem dX7_grow_12 : decode cX7_grow 12 = .ok (.iconst 0, 1) := by decide +kernel
theorem dX7_grow_13 : decode cX7_grow 13 = .ok (.iastore, 1) := by decide +kernel
theorem dX7_grow_14 : decode cX7_grow 14 = .ok (.iload_n 1, 1) := by decide +kernel
theorem dX7_grow_15 : decode cX7_grow 15 = .ok (.ifCond .le 108, 3) := by decide +kernel
theorem dX7_grow_18 : decode cX7_grow 18 = .ok (.aload_n 0, 1) := by decide +kernel
theorem dX7_grow_19 : decode cX7_grow 19 = .ok (.getfield 151, 3) := by decide +kernel
theorem dX7_grow_22 : decode cX7_grow 22 = .ok (.bipush 41, 2) := by decide +kernel
theorem dX7_grow_24 : decode cX7_grow 24 = .ok (.if_icmp .ge 99, 3) := by decide +kernel
theorem dX7_grow_27 : decode cX7_grow 27 = .ok (.iinc 1 (-1), 3) := by decide +kernel
theorem dX7_grow_30 : decode cX7_grow 30 = .ok (.aload_n 0, 1) := by decide +kernel
theorem dX7_grow_31 : decode cX7_grow 31 = .ok (.getfield 151, 3) := by decide +kernel
theorem dX7_grow_34 : decode cX7_grow 34 = .ok (.istore_n 2, 1) := by decide +kernel
theorem dX7_grow_35 : decode cX7_grow 35 = .ok (.aload_n 0, 1) := by decide +kernel
theorem dX7_grow_36 : decode cX7_grow 36 = .ok (.getfield 83, 3) := by decide +kernel
theorem dX7_grow_39 : decode cX7_grow 39 = .ok (.iload_n 2, 1) := by decide +kernel
theorem dX7_grow_40 : decode cX7_grow 40 = .ok (.aload_n 0, 1) := by decide +kernel
theorem dX7_grow_41 : decode cX7_grow 41 = .ok (.getfield 95, 3) := by decide +kernel
theorem dX7_grow_44 : decode cX7_grow 44 = .ok (.iload_n 1, 1) := by decide +kernel
theorem dX7_grow_45 : decode cX7_grow 45 = .ok (.iaload, 1) := by decide +kernel
theorem dX7_grow_46 : decode cX7_grow 46 = .ok (.iconst 2, 1) := by decide +kernel
theorem dX7_grow_47 : decode cX7_grow 47 = .ok (.idiv, 1) := by decide +kernel
theorem dX7_grow_48 : decode cX7_grow 48 = .ok (.iconst 1, 1) := by decide +kernel
theorem dX7_grow_49 : decode cX7_grow 49 = .ok (.isub, 1) := by decide +kernel
theorem dX7_grow_50 : decode cX7_grow 50 = .ok (.iastore, 1) := by decide +kernel
theorem dX7_grow_51 : decode cX7_grow 51 = .ok (.aload_n 0, 1) := by decide +kernel
theorem dX7_grow_52 : decode cX7_grow 52 = .ok (.getfield 86, 3) := by decide +kernel
theorem dX7_grow_55 : decode cX7_grow 55 = .ok (.iload_n 2, 1) := by decide +kernel
theorem dX7_grow_56 : decode cX7_grow 56 = .ok (.aload_n 0, 1) := by decide +kernel
theorem dX7_grow_57 : decode cX7_grow 57 = .ok (.getfield 95, 3) := by decide +kernel
theorem dX7_grow_60 : decode cX7_grow 60 = .ok (.iload_n 1, 1) := by decide +kernel
theorem dX7_grow_61 : decode cX7_grow 61 = .ok (.iaload, 1) := by decide +kernel
theorem dX7_grow_62 : decode cX7_grow 62 = .ok (.iconst 2, 1) := by decide +kernel
theorem dX7_grow_63 : decode cX7_grow 63 = .ok (.irem, 1) := by decide +kernel
theorem dX7_grow_64 : decode cX7_grow 64 = .ok (.iastore, 1) := by decide +kernel
theorem dX7_grow_65 : decode cX7_grow 65 = .ok (.aload_n 0, 1) := by decide +kernel
theorem dX7_grow_66 : decode cX7_grow 66 = .ok (.iload_n 2, 1) := by decide +kernel
theorem dX7_grow_67 : decode cX7_grow 67 = .ok (.invokevirtual 198, 3) := by decide +kernel
theorem dX7_grow_70 : decode cX7_grow 70 = .ok (.aload_n 0, 1) := by decide +kernel
theorem dX7_grow_71 : decode cX7_grow 71 = .ok (.dup, 1) := by decide +kernel
theorem dX7_grow_72 : decode cX7_grow 72 = .ok (.getfield 151, 3) := by decide +kernel
theorem dX7_grow_75 : decode cX7_grow 75 = .ok (.iconst 1, 1) := by decide +kernel
theorem dX7_grow_76 : decode cX7_grow 76 = .ok (.iadd, 1) := by decide +kernel
theorem dX7_grow_77 : decode cX7_grow 77 = .ok (.putfield 151, 3) := by decide +kernel
theorem dX7_grow_80 : decode cX7_grow 80 = .ok (.aload_n 0, 1) := by decide +kernel
theorem dX7_grow_81 : decode cX7_grow 81 = .ok (.getfield 31, 3) := by decide +kernel
theorem dX7_grow_84 : decode cX7_grow 84 = .ok (.aload_n 0, 1) := by decide +kernel
theorem dX7_grow_85 : decode cX7_grow 85 = .ok (.getfield 80, 3) := by decide +kernel
theorem dX7_grow_88 : decode cX7_grow 88 = .ok (.iload_n 2, 1) := by decide +kernel
theorem dX7_grow_89 : decode cX7_grow 89 = .ok (.iaload, 1) := by decide +kernel
theorem dX7_grow_90 : decode cX7_grow 90 = .ok (.iaload, 1) := by decide +kernel
theorem dX7_grow_91 : decode cX7_grow 91 = .ok (.iconst 1, 1) := by decide +kernel
theorem dX7_grow_92 : decode cX7_grow 92 = .ok (.isub, 1) := by decide +kernel
theorem dX7_grow_93 : decode cX7_grow 93 = .ok (.istore_n 3, 1) := by decide +kernel
theorem dX7_grow_94 : decode cX7_grow 94 = .ok (.iload_n 3, 1) := by decide +kernel
theorem dX7_grow_95 : decode cX7_grow 95 = .ok (.ifCond .lt 25, 3) := by decide +kernel
theorem dX7_grow_98 : decode cX7_grow 98 = .ok (.aload_n 0, 1) := by decide +kernel
theorem dX7_grow_99 : decode cX7_grow 99 = .ok (.getfield 95, 3) := by decide +kernel
theorem dX7_grow_102 : decode cX7_grow 102 = .ok (.iload_n 1, 1) := by decide +kernel
theorem dX7_grow_103 : decode cX7_grow 103 = .ok (.iconst 2, 1) := by decide +kernel
theorem dX7_grow_104 : decode cX7_grow 104 = .ok (.iload_n 2, 1) := by decide +kernel
theorem dX7_grow_105 : decode cX7_grow 105 = .ok (.iconst 1, 1) := by decide +kernel
theorem dX7_grow_106 : decode cX7_grow 106 = .ok (.iadd, 1) := by decide +kernel
theorem dX7_grow_107 : decode cX7_grow 107 = .ok (.imul, 1) := by decide +kernel
theorem dX7_grow_108 : decode cX7_grow 108 = .ok (.iload_n 3, 1) := by decide +kernel
theorem dX7_grow_109 : decode cX7_grow 109 = .ok (.iadd, 1) := by decide +kernel
theorem dX7_grow_110 : decode cX7_grow 110 = .ok (.iastore, 1) := by decide +kernel
theorem dX7_grow_111 : decode cX7_grow 111 = .ok (.iinc 1 1, 3) := by decide +kernel
theorem dX7_grow_114 : decode cX7_grow 114 = .ok (.iinc 3 (-1), 3) := by decide +kernel
theorem dX7_grow_117 : decode cX7_grow 117 = .ok (.goto (-23), 3) := by decide +kernel
theorem dX7_grow_120 : decode cX7_grow 120 = .ok (.goto (-106), 3) := by decide +kernel
theorem dX7_grow_123 : decode cX7_grow 123 = .ok (.iconst 0, 1) := by decide +kernel
theorem dX7_grow_124 : decode cX7_grow 124 = .ok (.istore_n 2, 1) := by decide +kernel
theorem dX7_grow_125 : decode cX7_grow 125 = .ok (.iload_n 2, 1) := by decide +kernel
theorem dX7_grow_126 : decode cX7_grow 126 = .ok (.aload_n 0, 1) := by decide +kernel
theorem dX7_grow_127 : decode cX7_grow 127 = .ok (.getfield 151, 3) := by decide +kernel
theorem dX7_grow_130 : decode cX7_grow 130 = .ok (.if_icmp .ge 18, 3) := by decide +kernel
theorem dX7_grow_133 : decode cX7_grow 133 = .ok (.aload_n 0, 1) := by decide +kernel
theorem dX7_grow_134 : decode cX7_grow 134 = .ok (.getfield 92, 3) := by decide +kernel
theorem dX7_grow_137 : decode cX7_grow 137 = .ok (.iload_n 2, 1) := by decide +kernel
theorem dX7_grow_138 : decode cX7_grow 138 = .ok (.iload_n 2, 1) := by decide +kernel
theorem dX7_grow_139 : decode cX7_grow 139 = .ok (.iconst 1, 1) := by decide +kernel
theorem dX7_grow_140 : decode cX7_grow 140 = .ok (.iadd, 1) := by decide +kernel
theorem dX7_grow_141 : decode cX7_grow 141 = .ok (.iastore, 1) := by decide +kernel
theorem dX7_grow_142 : decode cX7_grow 142 = .ok (.iinc 2 1, 3) := by decide +kernel
theorem dX7_grow_145 : decode cX7_grow 145 = .ok (.goto (-20), 3) := by decide +kernel
theorem dX7_grow_148 : decode cX7_grow 148 = .ok (.aload_n 0, 1) := by decide +kernel
theorem dX7_grow_149 : decode cX7_grow 149 = .ok (.getfield 151, 3) := by decide +kernel
theorem dX7_grow_152 : decode cX7_grow 152 = .ok (.iconst 1, 1) := by decide +kernel
theorem dX7_grow_153 : decode cX7_grow 153 = .ok (.isub, 1) := by decide +kernel
theorem dX7_grow_154 : decode cX7_grow 154 = .ok (.istore_n 2, 1) := by decide +kernel
theorem dX7_grow_155 : decode cX7_grow 155 = .ok (.iload_n 2, 1) := by decide +kernel
theorem dX7_grow_156 : decode cX7_grow 156 = .ok (.ifCond .le 60, 3) := by decide +kernel
theorem dX7_grow_159 : decode cX7_grow 159 = .ok (.aload_n 0, 1) := by decide +kernel
theorem dX7_grow_160 : decode cX7_grow 160 = .ok (.getfield 92, 3) := by decide +kernel
theorem dX7_grow_163 : decode cX7_grow 163 = .ok (.aload_n 0, 1) := by decide +kernel
theorem dX7_grow_164 : decode cX7_grow 164 = .ok (.getfield 83, 3) := by decide +kernel
theorem dX7_grow_167 : decode cX7_grow 167 = .ok (.iload_n 2, 1) := by decide +kernel
theorem dX7_grow_168 : decode cX7_grow 168 = .ok (.iaload, 1) := by decide +kernel
theorem dX7_grow_169 : decode cX7_grow 169 = .ok (.aload_n 0, 1) := by decide +kernel
theorem dX7_grow_170 : decode cX7_grow 170 = .ok (.getfield 92, 3) := by decide +kernel
theorem dX7_grow_173 : decode cX7_grow 173 = .ok (.iload_n 2, 1) := by decide +kernel
theorem dX7_grow_174 : decode cX7_grow 174 = .ok (.iaload, 1) := by decide +kernel
theorem dX7_grow_175 : decode cX7_grow 175 = .ok (.aload_n 0, 1) := by decide +kernel
theorem dX7_grow_176 : decode cX7_grow 176 = .ok (.getfield 92, 3) := by decide +kernel
theorem dX7_grow_179 : decode cX7_grow 179 = .ok (.aload_n 0, 1) := by decide +kernel
theorem dX7_grow_180 : decode cX7_grow 180 = .ok (.getfield 83, 3) := by decide +kernel
theorem dX7_grow_183 : decode cX7_grow 183 = .ok (.iload_n 2, 1) := by decide +kernel
theorem dX7_grow_184 : decode cX7_grow 184 = .ok (.iaload, 1) := by decide +kernel
theorem dX7_grow_185 : decode cX7_grow 185 = .ok (.iaload, 1) := by decide +kernel
theorem dX7_grow_186 : decode cX7_grow 186 = .ok (.if_icmp .le 12, 3) := by decide +kernel
theorem dX7_grow_189 : decode cX7_grow 189 = .ok (.aload_n 0, 1) := by decide +kernel
theorem dX7_grow_190 : decode cX7_grow 190 = .ok (.getfield 92, 3) := by decide +kernel
theorem dX7_grow_193 : decode cX7_grow 193 = .ok (.iload_n 2, 1) := by decide +kernel
theorem dX7_grow_194 : decode cX7_grow 194 = .ok (.iaload, 1) := by decide +kernel
theorem dX7_grow_195 : decode cX7_grow 195 = .ok (.goto 14, 3) := by decide +kernel
theorem dX7_grow_198 : decode cX7_grow 198 = .ok (.aload_n 0, 1) := by decide +kernel
theorem dX7_grow_199 : decode cX7_grow 199 = .ok (.getfield 92, 3) := by decide +kernel
theorem dX7_grow_202 : decode cX7_grow 202 = .ok (.aload_n 0, 1) := by decide +kernel
theorem dX7_grow_203 : decode cX7_grow 203 = .ok (.getfield 83, 3) := by decide +kernel
theorem dX7_grow_206 : decode cX7_grow 206 = .ok (.iload_n 2, 1) := by decide +kernel
theorem dX7_grow_207 : decode cX7_grow 207 = .ok (.iaload, 1) := by decide +kernel
theorem dX7_grow_208 : decode cX7_grow 208 = .ok (.iaload, 1) := by decide +kernel
theorem dX7_grow_209 : decode cX7_grow 209 = .ok (.iastore, 1) := by decide +kernel
theorem dX7_grow_210 : decode cX7_grow 210 = .ok (.iinc 2 (-1), 3) := by decide +kernel
theorem dX7_grow_213 : decode cX7_grow 213 = .ok (.goto (-58), 3) := by decide +kernel
theorem dX7_grow_216 : decode cX7_grow 216 = .ok (.return_, 1) := by decide +kernel
theorem dX7_place_0 : decode cX7_place 0 = .ok (.aload_n 0, 1) := by decide +kernel
theorem dX7_place_1 : decode cX7_place 1 = .ok (.getfield 83, 3) := by decide +kernel
theorem dX7_place_4 : decode cX7_place 4 = .ok (.iload_n 1, 1) := by decide +kernel
theorem dX7_place_5 : decode cX7_place 5 = .ok (.iaload, 1) := by decide +kernel
theorem dX7_place_6 : decode cX7_place 6 = .ok (.ifCond .ge 21, 3) := by decide +kernel
theorem dX7_place_9 : decode cX7_place 9 = .ok (.aload_n 0, 1) := by decide +kernel
theorem dX7_place_10 : decode cX7_place 10 = .ok (.getfield 80, 3) := by decide +kernel
theorem dX7_place_13 : decode cX7_place 13 = .ok (.iload_n 1, 1) := by decide +kernel
theorem dX7_place_14 : decode cX7_place 14 = .ok (.aload_n 0, 1) := by decide +kernel
theorem dX7_place_15 : decode cX7_place 15 = .ok (.getfield 61, 3) := by decide +kernel
theorem dX7_place_18 : decode cX7_place 18 = .ok (.iastore, 1) := by decide +kernel
theorem dX7_place_19 : decode cX7_place 19 = .ok (.aload_n 0, 1) := by decide +kernel
theorem dX7_place_20 : decode cX7_place 20 = .ok (.getfield 89, 3) := by decide +kernel
theorem dX7_place_23 : decode cX7_place 23 = .ok (.iload_n 1, 1) := by decide +kernel
theorem dX7_place_24 : decode cX7_place 24 = .ok (.iconst (-1), 1) := by decide +kernel
theorem dX7_place_25 : decode cX7_place 25 = .ok (.iastore, 1) := by decide +kernel
theorem dX7_place_26 : decode cX7_place 26 = .ok (.return_, 1) := by decide +kernel
theorem dX7_place_27 : decode cX7_place 27 = .ok (.aload_n 0, 1) := by decide +kernel
theorem dX7_place_28 : decode cX7_place 28 = .ok (.getfield 80, 3) := by decide +kernel
theorem dX7_place_31 : decode cX7_place 31 = .ok (.aload_n 0, 1) := by decide +kernel
theorem dX7_place_32 : decode cX7_place 32 = .ok (.getfield 83, 3) := by decide +kernel
theorem dX7_place_35 : decode cX7_place 35 = .ok (.iload_n 1, 1) := by decide +kernel
theorem dX7_place_36 : decode cX7_place 36 = .ok (.iaload, 1) := by decide +kernel
theorem dX7_place_37 : decode cX7_place 37 = .ok (.iaload, 1) := by decide +kernel
theorem dX7_place_38 : decode cX7_place 38 = .ok (.istore_n 2, 1) := by decide +kernel
theorem dX7_place_39 : decode cX7_place 39 = .ok (.aload_n 0, 1) := by decide +kernel
theorem dX7_place_40 : decode cX7_place 40 = .ok (.getfield 34, 3) := by decide +kernel
theorem dX7_place_43 : decode cX7_place 43 = .ok (.iconst 2, 1) := by decide +kernel
theorem dX7_place_44 : decode cX7_place 44 = .ok (.iload_n 2, 1) := by decide +kernel
theorem dX7_place_45 : decode cX7_place 45 = .ok (.imul, 1) := by decide +kernel
theorem dX7_place_46 : decode cX7_place 46 = .ok (.aload_n 0, 1) := by decide +kernel
theorem dX7_place_47 : decode cX7_place 47 = .ok (.getfield 86, 3) := by decide +kernel
theorem dX7_place_50 : decode cX7_place 50 = .ok (.iload_n 1, 1) := by decide +kernel
theorem dX7_place_51 : decode cX7_place 51 = .ok (.iaload, 1) := by decide +kernel
theorem dX7_place_52 : decode cX7_place 52 = .ok (.iadd, 1) := by decide +kernel
theorem dX7_place_53 : decode cX7_place 53 = .ok (.iaload, 1) := by decide +kernel
theorem dX7_place_54 : decode cX7_place 54 = .ok (.istore_n 3, 1) := by decide +kernel
theorem dX7_place_55 : decode cX7_place 55 = .ok (.aload_n 0, 1) := by decide +kernel
theorem dX7_place_56 : decode cX7_place 56 = .ok (.getfield 89, 3) := by decide +kernel
theorem dX7_place_59 : decode cX7_place 59 = .ok (.iload_n 1, 1) := by decide +kernel
theorem dX7_place_60 : decode cX7_place 60 = .ok (.aload_n 0, 1) := by decide +kernel
theorem dX7_place_61 : decode cX7_place 61 = .ok (.getfield 83, 3) := by decide +kernel
theorem dX7_place_64 : decode cX7_place 64 = .ok (.iload_n 1, 1) := by decide +kernel
theorem dX7_place_65 : decode cX7_place 65 = .ok (.iaload, 1) := by decide +kernel
theorem dX7_place_66 : decode cX7_place 66 = .ok (.ifCond .ne 17, 3) := by decide +kernel
theorem dX7_place_69 : decode cX7_place 69 = .ok (.aload_n 0, 1) := by decide +kernel
theorem dX7_place_70 : decode cX7_place 70 = .ok (.getfield 65, 3) := by decide +kernel
theorem dX7_place_73 : decode cX7_place 73 = .ok (.aload_n 0, 1) := by decide +kernel
theorem dX7_place_74 : decode cX7_place 74 = .ok (.getfield 86, 3) := by decide +kernel
theorem dX7_place_77 : decode cX7_place 77 = .ok (.iload_n 1, 1) := by decide +kernel
theorem dX7_place_78 : decode cX7_place 78 = .ok (.iaload, 1) := by decide +kernel
theorem dX7_place_79 : decode cX7_place 79 = .ok (.iaload, 1) := by decide +kernel
theorem dX7_place_80 : decode cX7_place 80 = .ok (.goto 27, 3) := by decide +kernel
theorem dX7_place_83 : decode cX7_place 83 = .ok (.aload_n 0, 1) := by decide +kernel
theorem dX7_place_84 : decode cX7_place 84 = .ok (.getfield 58, 3) := by decide +kernel
theorem dX7_place_87 : decode cX7_place 87 = .ok (.iconst 2, 1) := by decide +kernel
theorem dX7_place_88 : decode cX7_place 88 = .ok (.aload_n 0, 1) := by decide +kernel
theorem dX7_place_89 : decode cX7_place 89 = .ok (.aload_n 0, 1) := by decide +kernel
theorem dX7_place_90 : decode cX7_place 90 = .ok (.getfield 83, 3) := by decide +kernel
theorem dX7_place_93 : decode cX7_place 93 = .ok (.iload_n 1, 1) := by decide +kernel
theorem dX7_place_94 : decode cX7_place 94 = .ok (.iaload, 1) := by decide +kernel
theorem dX7_place_95 : decode cX7_place 95 = .ok (.invokevirtual 202, 3) := by decide +kernel
theorem dX7_place_98 : decode cX7_place 98 = .ok (.imul, 1) := by decide +kernel
theorem dX7_place_99 : decode cX7_place 99 = .ok (.aload_n 0, 1) := by decide +kernel
theorem dX7_place_100 : decode cX7_place 100 = .ok (.getfield 86, 3) := by decide +kernel
theorem dX7_place_103 : decode cX7_place 103 = .ok (.iload_n 1, 1) := by decide +kernel
theorem dX7_place_104 : decode cX7_place 104 = .ok (.iaload, 1) := by decide +kernel
theorem dX7_place_105 : decode cX7_place 105 = .ok (.iadd, 1) := by decide +kernel
theorem dX7_place_106 : decode cX7_place 106 = .ok (.iaload, 1) := by decide +kernel
theorem dX7_place_107 : decode cX7_place 107 = .ok (.iastore, 1) := by decide +kernel
theorem dX7_place_108 : decode cX7_place 108 = .ok (.aload_n 0, 1) := by decide +kernel
theorem dX7_place_109 : decode cX7_place 109 = .ok (.getfield 80, 3) := by decide +kernel
theorem dX7_place_112 : decode cX7_place 112 = .ok (.iload_n 1, 1) := by decide +kernel
theorem dX7_place_113 : decode cX7_place 113 = .ok (.aload_n 0, 1) := by decide +kernel
theorem dX7_place_114 : decode cX7_place 114 = .ok (.getfield 55, 3) := by decide +kernel
theorem dX7_place_117 : decode cX7_place 117 = .ok (.bipush 16, 2) := by decide +kernel
theorem dX7_place_119 : decode cX7_place 119 = .ok (.iload_n 3, 1) := by decide +kernel
theorem dX7_place_120 : decode cX7_place 120 = .ok (.imul, 1) := by decide +kernel
theorem dX7_place_121 : decode cX7_place 121 = .ok (.aload_n 0, 1) := by decide +kernel
theorem dX7_place_122 : decode cX7_place 122 = .ok (.getfield 89, 3) := by decide +kernel
theorem dX7_place_125 : decode cX7_place 125 = .ok (.iload_n 1, 1) := by decide +kernel
theorem dX7_place_126 : decode cX7_place 126 = .ok (.iaload, 1) := by decide +kernel
theorem dX7_place_127 : decode cX7_place 127 = .ok (.iadd, 1) := by decide +kernel
theorem dX7_place_128 : decode cX7_place 128 = .ok (.iaload, 1) := by decide +kernel
theorem dX7_place_129 : decode cX7_place 129 = .ok (.iastore, 1) := by decide +kernel
theorem dX7_place_130 : decode cX7_place 130 = .ok (.return_, 1) := by decide +kernel
theorem dX7_stateOf_0 : decode cX7_stateOf 0 = .ok (.bipush 16, 2) := by decide +kernel
theorem dX7_stateOf_2 : decode cX7_stateOf 2 = .ok (.aload_n 0, 1) := by decide +kernel
theorem dX7_stateOf_3 : decode cX7_stateOf 3 = .ok (.getfield 25, 3) := by decide +kernel
theorem dX7_stateOf_6 : decode cX7_stateOf 6 = .ok (.aload_n 0, 1) := by decide +kernel
theorem dX7_stateOf_7 : decode cX7_stateOf 7 = .ok (.getfield 80, 3) := by decide +kernel
theorem dX7_stateOf_10 : decode cX7_stateOf 10 = .ok (.iload_n 1, 1) := by decide +kernel
theorem dX7_stateOf_11 : decode cX7_stateOf 11 = .ok (.iaload, 1) := by decide +kernel
theorem dX7_stateOf_12 : decode cX7_stateOf 12 = .ok (.iaload, 1) := by decide +kernel
theorem dX7_stateOf_13 : decode cX7_stateOf 13 = .ok (.imul, 1) := by decide +kernel
theorem dX7_stateOf_14 : decode cX7_stateOf 14 = .ok (.aload_n 0, 1) := by decide +kernel
theorem dX7_stateOf_15 : decode cX7_stateOf 15 = .ok (.getfield 89, 3) := by decide +kernel
theorem dX7_stateOf_18 : decode cX7_stateOf 18 = .ok (.iload_n 1, 1) := by decide +kernel
theorem dX7_stateOf_19 : decode cX7_stateOf 19 = .ok (.iaload, 1) := by decide +kernel
theorem dX7_stateOf_20 : decode cX7_stateOf 20 = .ok (.iadd, 1) := by decide +kernel
theorem dX7_stateOf_21 : decode cX7_stateOf 21 = .ok (.ireturn, 1) := by decide +kernel
theorem dX7_gather_0 : decode cX7_gather 0 = .ok (.aload_n 0, 1) := by decide +kernel
theorem dX7_gather_1 : decode cX7_gather 1 = .ok (.iconst 0, 1) := by decide +kernel
theorem dX7_gather_2 : decode cX7_gather 2 = .ok (.putfield 108, 3) := by decide +kernel
theorem dX7_gather_5 : decode cX7_gather 5 = .ok (.iload_n 1, 1) := by decide +kernel
theorem dX7_gather_6 : decode cX7_gather 6 = .ok (.istore_n 2, 1) := by decide +kernel
theorem dX7_gather_7 : decode cX7_gather 7 = .ok (.iload_n 2, 1) := by decide +kernel
theorem dX7_gather_8 : decode cX7_gather 8 = .ok (.aload_n 0, 1) := by decide +kernel
theorem dX7_gather_9 : decode cX7_gather 9 = .ok (.getfield 92, 3) := by decide +kernel
theorem dX7_gather_12 : decode cX7_gather 12 = .ok (.iload_n 1, 1) := by decide +kernel
theorem dX7_gather_13 : decode cX7_gather 13 = .ok (.iaload, 1) := by decide +kernel
theorem dX7_gather_14 : decode cX7_gather 14 = .ok (.if_icmp .ge 35, 3) := by decide +kernel
theorem dX7_gather_17 : decode cX7_gather 17 = .ok (.aload_n 0, 1) := by decide +kernel
theorem dX7_gather_18 : decode cX7_gather 18 = .ok (.aload_n 0, 1) := by decide +kernel
theorem dX7_gather_19 : decode cX7_gather 19 = .ok (.getfield 80, 3) := by decide +kernel
theorem dX7_gather_22 : decode cX7_gather 22 = .ok (.iload_n 2, 1) := by decide +kernel
theorem dX7_gather_23 : decode cX7_gather 23 = .ok (.iaload, 1) := by decide +kernel
theorem dX7_gather_24 : decode cX7_gather 24 = .ok (.iconst 5, 1) := by decide +kernel
theorem dX7_gather_25 : decode cX7_gather 25 = .ok (.iload_n 2, 1) := by decide +kernel
theorem dX7_gather_26 : decode cX7_gather 26 = .ok (.imul, 1) := by decide +kernel
theorem dX7_gather_27 : decode cX7_gather 27 = .ok (.sipush 200, 3) := by decide +kernel
theorem dX7_gather_30 : decode cX7_gather 30 = .ok (.invokevirtual 120, 3) := by decide +kernel
theorem dX7_gather_33 : decode cX7_gather 33 = .ok (.iload_n 2, 1) := by decide +kernel
theorem dX7_gather_34 : decode cX7_gather 34 = .ok (.iload_n 1, 1) := by decide +kernel
theorem dX7_gather_35 : decode cX7_gather 35 = .ok (.if_icmp .le 8, 3) := by decide +kernel
theorem dX7_gather_38 : decode cX7_gather 38 = .ok (.aload_n 0, 1) := by decide +kernel
theorem dX7_gather_39 : decode cX7_gather 39 = .ok (.iload_n 2, 1) := by decide +kernel
theorem dX7_gather_40 : decode cX7_gather 40 = .ok (.invokevirtual 205, 3) := by decide +kernel
theorem dX7_gather_43 : decode cX7_gather 43 = .ok (.iinc 2 1, 3) := by decide +kernel
theorem dX7_gather_46 : decode cX7_gather 46 = .ok (.goto (-39), 3) := by decide +kernel
theorem dX7_gather_49 : decode cX7_gather 49 = .ok (.return_, 1) := by decide +kernel
theorem dX7_join_0 : decode cX7_join 0 = .ok (.aload_n 0, 1) := by decide +kernel
theorem dX7_join_1 : decode cX7_join 1 = .ok (.getfield 80, 3) := by decide +kernel
theorem dX7_join_4 : decode cX7_join 4 = .ok (.aload_n 0, 1) := by decide +kernel
theorem dX7_join_5 : decode cX7_join 5 = .ok (.getfield 83, 3) := by decide +kernel
theorem dX7_join_8 : decode cX7_join 8 = .ok (.iload_n 1, 1) := by decide +kernel
theorem dX7_join_9 : decode cX7_join 9 = .ok (.iaload, 1) := by decide +kernel
theorem dX7_join_10 : decode cX7_join 10 = .ok (.iaload, 1) := by decide +kernel
theorem dX7_join_11 : decode cX7_join 11 = .ok (.istore_n 2, 1) := by decide +kernel
theorem dX7_join_12 : decode cX7_join 12 = .ok (.iconst 2, 1) := by decide +kernel
theorem dX7_join_13 : decode cX7_join 13 = .ok (.iload_n 2, 1) := by decide +kernel
theorem dX7_join_14 : decode cX7_join 14 = .ok (.imul, 1) := by decide +kernel
theorem dX7_join_15 : decode cX7_join 15 = .ok (.aload_n 0, 1) := by decide +kernel
theorem dX7_join_16 : decode cX7_join 16 = .ok (.getfield 86, 3) := by decide +kernel
theorem dX7_join_19 : decode cX7_join 19 = .ok (.iload_n 1, 1) := by decide +kernel
theorem dX7_join_20 : decode cX7_join 20 = .ok (.iaload, 1) := by decide +kernel
theorem dX7_join_21 : decode cX7_join 21 = .ok (.iadd, 1) := by decide +kernel
theorem dX7_join_22 : decode cX7_join 22 = .ok (.istore_n 3, 1) := by decide +kernel
theorem dX7_join_23 : decode cX7_join 23 = .ok (.iconst 0, 1) := by decide +kernel
theorem dX7_join_24 : decode cX7_join 24 = .ok (.istore 4, 2) := by decide +kernel
theorem dX7_join_26 : decode cX7_join 26 = .ok (.iload 4, 2) := by decide +kernel
theorem dX7_join_28 : decode cX7_join 28 = .ok (.aload_n 0, 1) := by decide +kernel
theorem dX7_join_29 : decode cX7_join 29 = .ok (.getfield 7, 3) := by decide +kernel
theorem dX7_join_32 : decode cX7_join 32 = .ok (.aload_n 0, 1) := by decide +kernel
theorem dX7_join_33 : decode cX7_join 33 = .ok (.getfield 34, 3) := by decide +kernel
theorem dX7_join_36 : decode cX7_join 36 = .ok (.iload_n 3, 1) := by decide +kernel
theorem dX7_join_37 : decode cX7_join 37 = .ok (.iaload, 1) := by decide +kernel
theorem dX7_join_38 : decode cX7_join 38 = .ok (.iaload, 1) := by decide +kernel
theorem dX7_join_39 : decode cX7_join 39 = .ok (.if_icmp .ge 71, 3) := by decide +kernel
theorem dX7_join_42 : decode cX7_join 42 = .ok (.iconst 5, 1) := by decide +kernel
theorem dX7_join_43 : decode cX7_join 43 = .ok (.aload_n 0, 1) := by decide +kernel
theorem dX7_join_44 : decode cX7_join 44 = .ok (.getfield 83, 3) := by decide +kernel
theorem dX7_join_47 : decode cX7_join 47 = .ok (.iload_n 1, 1) := by decide +kernel
theorem dX7_join_48 : decode cX7_join 48 = .ok (.iaload, 1) := by decide +kernel
theorem dX7_join_49 : decode cX7_join 49 = .ok (.imul, 1) := by decide +kernel
theorem dX7_join_50 : decode cX7_join 50 = .ok (.aload_n 0, 1) := by decide +kernel
theorem dX7_join_51 : decode cX7_join 51 = .ok (.getfield 37, 3) := by decide +kernel
theorem dX7_join_54 : decode cX7_join 54 = .ok (.iconst 2, 1) := by decide +kernel
theorem dX7_join_55 : decode cX7_join 55 = .ok (.iload_n 3, 1) := by decide +kernel
theorem dX7_join_56 : decode cX7_join 56 = .ok (.imul, 1) := by decide +kernel
theorem dX7_join_57 : decode cX7_join 57 = .ok (.iload 4, 2) := by decide +kernel
theorem dX7_join_59 : decode cX7_join 59 = .ok (.iadd, 1) := by decide +kernel
theorem dX7_join_60 : decode cX7_join 60 = .ok (.iaload, 1) := by decide +kernel
theorem dX7_join_61 : decode cX7_join 61 = .ok (.iadd, 1) := by decide +kernel
theorem dX7_join_62 : decode cX7_join 62 = .ok (.istore 5, 2) := by decide +kernel
theorem dX7_join_64 : decode cX7_join 64 = .ok (.iconst 5, 1) := by decide +kernel
theorem dX7_join_65 : decode cX7_join 65 = .ok (.iload_n 1, 1) := by decide +kernel
theorem dX7_join_66 : decode cX7_join 66 = .ok (.imul, 1) := by decide +kernel
theorem dX7_join_67 : decode cX7_join 67 = .ok (.aload_n 0, 1) := by decide +kernel
theorem dX7_join_68 : decode cX7_join 68 = .ok (.getfield 28, 3) := by decide +kernel
theorem dX7_join_71 : decode cX7_join 71 = .ok (.iconst 2, 1) := by decide +kernel
theorem dX7_join_72 : decode cX7_join 72 = .ok (.aload_n 0, 1) := by decide +kernel
theorem dX7_join_73 : decode cX7_join 73 = .ok (.getfield 80, 3) := by decide +kernel
theorem dX7_join_76 : decode cX7_join 76 = .ok (.iload_n 1, 1) := by decide +kernel
theorem dX7_join_77 : decode cX7_join 77 = .ok (.iaload, 1) := by decide +kernel
theorem dX7_join_78 : decode cX7_join 78 = .ok (.imul, 1) := by decide +kernel
theorem dX7_join_79 : decode cX7_join 79 = .ok (.iload 4, 2) := by decide +kernel
theorem dX7_join_81 : decode cX7_join 81 = .ok (.iadd, 1) := by decide +kernel
theorem dX7_join_82 : decode cX7_join 82 = .ok (.iaload, 1) := by decide +kernel
theorem dX7_join_83 : decode cX7_join 83 = .ok (.iadd, 1) := by decide +kernel
theorem dX7_join_84 : decode cX7_join 84 = .ok (.istore 6, 2) := by decide +kernel
theorem dX7_join_86 : decode cX7_join 86 = .ok (.aload_n 0, 1) := by decide +kernel
theorem dX7_join_87 : decode cX7_join 87 = .ok (.iload 5, 2) := by decide +kernel
theorem dX7_join_89 : decode cX7_join 89 = .ok (.iload 6, 2) := by decide +kernel
theorem dX7_join_91 : decode cX7_join 91 = .ok (.iconst 0, 1) := by decide +kernel
theorem dX7_join_92 : decode cX7_join 92 = .ok (.invokevirtual 116, 3) := by decide +kernel
theorem dX7_join_95 : decode cX7_join 95 = .ok (.aload_n 0, 1) := by decide +kernel
theorem dX7_join_96 : decode cX7_join 96 = .ok (.iload 6, 2) := by decide +kernel
theorem dX7_join_98 : decode cX7_join 98 = .ok (.iload 5, 2) := by decide +kernel
theorem dX7_join_100 : decode cX7_join 100 = .ok (.iconst 0, 1) := by decide +kernel
theorem dX7_join_101 : decode cX7_join 101 = .ok (.invokevirtual 116, 3) := by decide +kernel
theorem dX7_join_104 : decode cX7_join 104 = .ok (.iinc 4 1, 3) := by decide +kernel
theorem dX7_join_107 : decode cX7_join 107 = .ok (.goto (-81), 3) := by decide +kernel
theorem dX7_join_110 : decode cX7_join 110 = .ok (.return_, 1) := by decide +kernel
theorem dX7_refine_0 : decode cX7_refine 0 = .ok (.aload_n 0, 1) := by decide +kernel
theorem dX7_refine_1 : decode cX7_refine 1 = .ok (.aload_n 0, 1) := by decide +kernel
theorem dX7_refine_2 : decode cX7_refine 2 = .ok (.getfield 61, 3) := by decide +kernel
theorem dX7_refine_5 : decode cX7_refine 5 = .ok (.ifCond .lt 10, 3) := by decide +kernel
theorem dX7_refine_8 : decode cX7_refine 8 = .ok (.aload_n 0, 1) := by decide +kernel
theorem dX7_refine_9 : decode cX7_refine 9 = .ok (.getfield 157, 3) := by decide +kernel
theorem dX7_refine_12 : decode cX7_refine 12 = .ok (.ifCond .le 7, 3) := by decide +kernel
theorem dX7_refine_15 : decode cX7_refine 15 = .ok (.iconst 1, 1) := by decide +kernel
theorem dX7_refine_16 : decode cX7_refine 16 = .ok (.goto 4, 3) := by decide +kernel
theorem dX7_refine_19 : decode cX7_refine 19 = .ok (.iconst 0, 1) := by decide +kernel
theorem dX7_refine_20 : decode cX7_refine 20 = .ok (.putfield 98, 3) := by decide +kernel
theorem dX7_refine_23 : decode cX7_refine 23 = .ok (.aload_n 0, 1) := by decide +kernel
theorem dX7_refine_24 : decode cX7_refine 24 = .ok (.getfield 98, 3) := by decide +kernel
theorem dX7_refine_27 : decode cX7_refine 27 = .ok (.ifCond .le 7, 3) := by decide +kernel
theorem dX7_refine_30 : decode cX7_refine 30 = .ok (.iconst 0, 1) := by decide +kernel
theorem dX7_refine_31 : decode cX7_refine 31 = .ok (.goto 7, 3) := by decide +kernel
theorem dX7_refine_34 : decode cX7_refine 34 = .ok (.aload_n 0, 1) := by decide +kernel
theorem dX7_refine_35 : decode cX7_refine 35 = .ok (.invokevirtual 208, 3) := by decide +kernel
theorem dX7_refine_38 : decode cX7_refine 38 = .ok (.ireturn, 1) := by decide +kernel
theorem dX7_improve_0 : decode cX7_improve 0 = .ok (.aload_n 0, 1) := by decide +kernel
theorem dX7_improve_1 : decode cX7_improve 1 = .ok (.getfield 151, 3) := by decide +kernel
theorem dX7_improve_4 : decode cX7_improve 4 = .ok (.bipush 40, 2) := by decide +kernel
theorem dX7_improve_6 : decode cX7_improve 6 = .ok (.if_icmp .le 10, 3) := by decide +kernel
theorem dX7_improve_9 : decode cX7_improve 9 = .ok (.aload_n 0, 1) := by decide +kernel
theorem dX7_improve_10 : decode cX7_improve 10 = .ok (.iconst 3, 1) := by decide +kernel
theorem dX7_improve_11 : decode cX7_improve 11 = .ok (.putfield 157, 3) := by decide +kernel
theorem dX7_improve_14 : decode cX7_improve 14 = .ok (.iconst 0, 1) := by decide +kernel
theorem dX7_improve_15 : decode cX7_improve 15 = .ok (.ireturn, 1) := by decide +kernel
theorem dX7_improve_16 : decode cX7_improve 16 = .ok (.aload_n 0, 1) := by decide +kernel
theorem dX7_improve_17 : decode cX7_improve 17 = .ok (.iconst 0, 1) := by decide +kernel
theorem dX7_improve_18 : decode cX7_improve 18 = .ok (.invokevirtual 211, 3) := by decide +kernel
theorem dX7_improve_21 : decode cX7_improve 21 = .ok (.aload_n 0, 1) := by decide +kernel
theorem dX7_improve_22 : decode cX7_improve 22 = .ok (.sipush 201, 3) := by decide +kernel
theorem dX7_improve_25 : decode cX7_improve 25 = .ok (.invokevirtual 127, 3) := by decide +kernel
theorem dX7_improve_28 : decode cX7_improve 28 = .ok (.ifCond .eq 10, 3) := by decide +kernel
theorem dX7_improve_31 : decode cX7_improve 31 = .ok (.aload_n 0, 1) := by decide +kernel
theorem dX7_improve_32 : decode cX7_improve 32 = .ok (.iconst 2, 1) := by decide +kernel
theorem dX7_improve_33 : decode cX7_improve 33 = .ok (.putfield 157, 3) := by decide +kernel
theorem dX7_improve_36 : decode cX7_improve 36 = .ok (.iconst 0, 1) := by decide +kernel
theorem dX7_improve_37 : decode cX7_improve 37 = .ok (.ireturn, 1) := by decide +kernel
theorem dX7_improve_38 : decode cX7_improve 38 = .ok (.iconst 0, 1) := by decide +kernel
theorem dX7_improve_39 : decode cX7_improve 39 = .ok (.istore_n 1, 1) := by decide +kernel
theorem dX7_improve_40 : decode cX7_improve 40 = .ok (.iconst 1, 1) := by decide +kernel
theorem dX7_improve_41 : decode cX7_improve 41 = .ok (.istore_n 2, 1) := by decide +kernel
theorem dX7_improve_42 : decode cX7_improve 42 = .ok (.iload_n 2, 1) := by decide +kernel
theorem dX7_improve_43 : decode cX7_improve 43 = .ok (.aload_n 0, 1) := by decide +kernel
theorem dX7_improve_44 : decode cX7_improve 44 = .ok (.getfield 151, 3) := by decide +kernel
theorem dX7_improve_47 : decode cX7_improve 47 = .ok (.if_icmp .ge 32, 3) := by decide +kernel
theorem dX7_improve_50 : decode cX7_improve 50 = .ok (.aload_n 0, 1) := by decide +kernel
theorem dX7_improve_51 : decode cX7_improve 51 = .ok (.iload_n 2, 1) := by decide +kernel
theorem dX7_improve_52 : decode cX7_improve 52 = .ok (.invokevirtual 211, 3) := by decide +kernel
theorem dX7_improve_55 : decode cX7_improve 55 = .ok (.aload_n 0, 1) := by decide +kernel
theorem dX7_improve_56 : decode cX7_improve 56 = .ok (.sipush 201, 3) := by decide +kernel
theorem dX7_improve_59 : decode cX7_improve 59 = .ok (.invokevirtual 127, 3) := by decide +kernel
theorem dX7_improve_62 : decode cX7_improve 62 = .ok (.ifCond .eq 11, 3) := by decide +kernel
theorem dX7_improve_65 : decode cX7_improve 65 = .ok (.iload_n 1, 1) := by decide +kernel
theorem dX7_improve_66 : decode cX7_improve 66 = .ok (.aload_n 0, 1) := by decide +kernel
theorem dX7_improve_67 : decode cX7_improve 67 = .ok (.iload_n 2, 1) := by decide +kernel
theorem dX7_improve_68 : decode cX7_improve 68 = .ok (.invokevirtual 214, 3) := by decide +kernel
theorem dX7_improve_71 : decode cX7_improve 71 = .ok (.iadd, 1) := by decide +kernel
theorem dX7_improve_72 : decode cX7_improve 72 = .ok (.istore_n 1, 1) := by decide +kernel
theorem dX7_improve_73 : decode cX7_improve 73 = .ok (.iinc 2 1, 3) := by decide +kernel
theorem dX7_improve_76 : decode cX7_improve 76 = .ok (.goto (-34), 3) := by decide +kernel
theorem dX7_improve_79 : decode cX7_improve 79 = .ok (.iload_n 1, 1) := by decide +kernel
theorem dX7_improve_80 : decode cX7_improve 80 = .ok (.ifCond .ne 10, 3) := by decide +kernel
theorem dX7_improve_83 : decode cX7_improve 83 = .ok (.aload_n 0, 1) := by decide +kernel
theorem dX7_improve_84 : decode cX7_improve 84 = .ok (.iconst 3, 1) := by decide +kernel
theorem dX7_improve_85 : decode cX7_improve 85 = .ok (.putfield 157, 3) := by decide +kernel
theorem dX7_improve_88 : decode cX7_improve 88 = .ok (.iconst 0, 1) := by decide +kernel
theorem dX7_improve_89 : decode cX7_improve 89 = .ok (.ireturn, 1) := by decide +kernel
theorem dX7_improve_90 : decode cX7_improve 90 = .ok (.aload_n 0, 1) := by decide +kernel
theorem dX7_improve_91 : decode cX7_improve 91 = .ok (.dup, 1) := by decide +kernel
theorem dX7_improve_92 : decode cX7_improve 92 = .ok (.getfield 217, 3) := by decide +kernel
theorem dX7_improve_95 : decode cX7_improve 95 = .ok (.iconst 1, 1) := by decide +kernel
theorem dX7_improve_96 : decode cX7_improve 96 = .ok (.iadd, 1) := by decide +kernel
theorem dX7_improve_97 : decode cX7_improve 97 = .ok (.putfield 217, 3) := by decide +kernel
theorem dX7_improve_100 : decode cX7_improve 100 = .ok (.aload_n 0, 1) := by decide +kernel
theorem dX7_improve_101 : decode cX7_improve 101 = .ok (.invokevirtual 154, 3) := by decide +kernel
theorem dX7_improve_104 : decode cX7_improve 104 = .ok (.iload_n 1, 1) := by decide +kernel
theorem dX7_improve_105 : decode cX7_improve 105 = .ok (.ireturn, 1) := by decide +kernel
theorem dX7_marksOf_0 : decode cX7_marksOf 0 = .ok (.aload_n 0, 1) := by decide +kernel
theorem dX7_marksOf_1 : decode cX7_marksOf 1 = .ok (.getfield 80, 3) := by decide +kernel
theorem dX7_marksOf_4 : decode cX7_marksOf 4 = .ok (.iload_n 1, 1) := by decide +kernel
theorem dX7_marksOf_5 : decode cX7_marksOf 5 = .ok (.iaload, 1) := by decide +kernel
theorem dX7_marksOf_6 : decode cX7_marksOf 6 = .ok (.istore_n 2, 1) := by decide +kernel
theorem dX7_marksOf_7 : decode cX7_marksOf 7 = .ok (.aload_n 0, 1) := by decide +kernel
theorem dX7_marksOf_8 : decode cX7_marksOf 8 = .ok (.getfield 25, 3) := by decide +kernel
theorem dX7_marksOf_11 : decode cX7_marksOf 11 = .ok (.iload_n 2, 1) := by decide +kernel
theorem dX7_marksOf_12 : decode cX7_marksOf 12 = .ok (.iaload, 1) := by decide +kernel
theorem dX7_marksOf_13 : decode cX7_marksOf 13 = .ok (.istore_n 3, 1) := by decide +kernel
theorem dX7_marksOf_14 : decode cX7_marksOf 14 = .ok (.aload_n 0, 1) := by decide +kernel
theorem dX7_marksOf_15 : decode cX7_marksOf 15 = .ok (.getfield 7, 3) := by decide +kernel
theorem dX7_marksOf_18 : decode cX7_marksOf 18 = .ok (.iload_n 3, 1) := by decide +kernel
theorem dX7_marksOf_19 : decode cX7_marksOf 19 = .ok (.iaload, 1) := by decide +kernel
theorem dX7_marksOf_20 : decode cX7_marksOf 20 = .ok (.iconst 1, 1) := by decide +kernel
theorem dX7_marksOf_21 : decode cX7_marksOf 21 = .ok (.iadd, 1) := by decide +kernel
theorem dX7_marksOf_22 : decode cX7_marksOf 22 = .ok (.istore 4, 2) := by decide +kernel
theorem dX7_marksOf_24 : decode cX7_marksOf 24 = .ok (.iconst 0, 1) := by decide +kernel
theorem dX7_marksOf_25 : decode cX7_marksOf 25 = .ok (.istore 5, 2) := by decide +kernel
theorem dX7_marksOf_27 : decode cX7_marksOf 27 = .ok (.iconst 0, 1) := by decide +kernel
theorem dX7_marksOf_28 : decode cX7_marksOf 28 = .ok (.istore 6, 2) := by decide +kernel
theorem dX7_marksOf_30 : decode cX7_marksOf 30 = .ok (.iload 6, 2) := by decide +kernel
theorem dX7_marksOf_32 : decode cX7_marksOf 32 = .ok (.iload 4, 2) := by decide +kernel
theorem dX7_marksOf_34 : decode cX7_marksOf 34 = .ok (.iload 4, 2) := by decide +kernel
theorem dX7_marksOf_36 : decode cX7_marksOf 36 = .ok (.imul, 1) := by decide +kernel
theorem dX7_marksOf_37 : decode cX7_marksOf 37 = .ok (.if_icmp .ge 198, 3) := by decide +kernel
theorem dX7_marksOf_40 : decode cX7_marksOf 40 = .ok (.iload 6, 2) := by decide +kernel
theorem dX7_marksOf_42 : decode cX7_marksOf 42 = .ok (.iload 4, 2) := by decide +kernel
theorem dX7_marksOf_44 : decode cX7_marksOf 44 = .ok (.idiv, 1) := by decide +kernel
theorem dX7_marksOf_45 : decode cX7_marksOf 45 = .ok (.istore 7, 2) := by decide +kernel
theorem dX7_marksOf_47 : decode cX7_marksOf 47 = .ok (.iload 6, 2) := by decide +kernel
theorem dX7_marksOf_49 : decode cX7_marksOf 49 = .ok (.iload 4, 2) := by decide +kernel
theorem dX7_marksOf_51 : decode cX7_marksOf 51 = .ok (.irem, 1) := by decide +kernel
theorem dX7_marksOf_52 : decode cX7_marksOf 52 = .ok (.istore 8, 2) := by decide +kernel
theorem dX7_marksOf_54 : decode cX7_marksOf 54 = .ok (.iload 7, 2) := by decide +kernel
theorem dX7_marksOf_56 : decode cX7_marksOf 56 = .ok (.iload 4, 2) := by decide +kernel
theorem dX7_marksOf_58 : decode cX7_marksOf 58 = .ok (.iconst 1, 1) := by decide +kernel
theorem dX7_marksOf_59 : decode cX7_marksOf 59 = .ok (.isub, 1) := by decide +kernel
theorem dX7_marksOf_60 : decode cX7_marksOf 60 = .ok (.if_icmp .ne 7, 3) := by decide +kernel
theorem dX7_marksOf_63 : decode cX7_marksOf 63 = .ok (.iconst 2, 1) := by decide +kernel
theorem dX7_marksOf_64 : decode cX7_marksOf 64 = .ok (.goto 5, 3) := by decide +kernel
theorem dX7_marksOf_67 : decode cX7_marksOf 67 = .ok (.iload 7, 2) := by decide +kernel
theorem dX7_marksOf_69 : decode cX7_marksOf 69 = .ok (.istore 9, 2) := by decide +kernel
theorem dX7_marksOf_71 : decode cX7_marksOf 71 = .ok (.iload 8, 2) := by decide +kernel
theorem dX7_marksOf_73 : decode cX7_marksOf 73 = .ok (.iload 4, 2) := by decide +kernel
theorem dX7_marksOf_75 : decode cX7_marksOf 75 = .ok (.iconst 1, 1) := by decide +kernel
theorem dX7_marksOf_76 : decode cX7_marksOf 76 = .ok (.isub, 1) := by decide +kernel
theorem dX7_marksOf_77 : decode cX7_marksOf 77 = .ok (.if_icmp .ne 7, 3) := by decide +kernel
theorem dX7_marksOf_80 : decode cX7_marksOf 80 = .ok (.iconst 2, 1) := by decide +kernel
theorem dX7_marksOf_81 : decode cX7_marksOf 81 = .ok (.goto 5, 3) := by decide +kernel
theorem dX7_marksOf_84 : decode cX7_marksOf 84 = .ok (.iload 8, 2) := by decide +kernel
theorem dX7_marksOf_86 : decode cX7_marksOf 86 = .ok (.istore 10, 2) := by decide +kernel
theorem dX7_marksOf_88 : decode cX7_marksOf 88 = .ok (.iload 9, 2) := by decide +kernel
theorem dX7_marksOf_90 : decode cX7_marksOf 90 = .ok (.iload 10, 2) := by decide +kernel
theorem dX7_marksOf_92 : decode cX7_marksOf 92 = .ok (.if_icmp .eq 137, 3) := by decide +kernel
theorem dX7_marksOf_95 : decode cX7_marksOf 95 = .ok (.aload_n 0, 1) := by decide +kernel
theorem dX7_marksOf_96 : decode cX7_marksOf 96 = .ok (.getfield 13, 3) := by decide +kernel
theorem dX7_marksOf_99 : decode cX7_marksOf 99 = .ok (.iload_n 3, 1) := by decide +kernel
theorem dX7_marksOf_100 : decode cX7_marksOf 100 = .ok (.iaload, 1) := by decide +kernel
theorem dX7_marksOf_101 : decode cX7_marksOf 101 = .ok (.iconst 4, 1) := by decide +kernel
theorem dX7_marksOf_102 : decode cX7_marksOf 102 = .ok (.if_icmp .ge 127, 3) := by decide +kernel
theorem dX7_marksOf_105 : decode cX7_marksOf 105 = .ok (.iload 9, 2) := by decide +kernel
theorem dX7_marksOf_107 : decode cX7_marksOf 107 = .ok (.iconst 2, 1) := by decide +kernel
theorem dX7_marksOf_108 : decode cX7_marksOf 108 = .ok (.if_icmp .ne 9, 3) := by decide +kernel
theorem dX7_marksOf_111 : decode cX7_marksOf 111 = .ok (.sipush 200, 3) := by decide +kernel
theorem dX7_marksOf_114 : decode cX7_marksOf 114 = .ok (.goto 18, 3) := by decide +kernel
theorem dX7_marksOf_117 : decode cX7_marksOf 117 = .ok (.iconst 5, 1) := by decide +kernel
theorem dX7_marksOf_118 : decode cX7_marksOf 118 = .ok (.iload_n 1, 1) := by decide +kernel
theorem dX7_marksOf_119 : decode cX7_marksOf 119 = .ok (.imul, 1) := by decide +kernel
theorem dX7_marksOf_120 : decode cX7_marksOf 120 = .ok (.aload_n 0, 1) := by decide +kernel
theorem dX7_marksOf_121 : decode cX7_marksOf 121 = .ok (.getfield 28, 3) := by decide +kernel
theorem dX7_marksOf_124 : decode cX7_marksOf 124 = .ok (.iconst 2, 1) := by decide +kernel
theorem dX7_marksOf_125 : decode cX7_marksOf 125 = .ok (.iload_n 2, 1) := by decide +kernel
theorem dX7_marksOf_126 : decode cX7_marksOf 126 = .ok (.imul, 1) := by decide +kernel
theorem dX7_marksOf_127 : decode cX7_marksOf 127 = .ok (.iload 9, 2) := by decide +kernel
theorem dX7_marksOf_129 : decode cX7_marksOf 129 = .ok (.iadd, 1) := by decide +kernel
theorem dX7_marksOf_130 : decode cX7_marksOf 130 = .ok (.iaload, 1) := by decide +kernel
theorem dX7_marksOf_131 : decode cX7_marksOf 131 = .ok (.iadd, 1) := by decide +kernel
theorem dX7_marksOf_132 : decode cX7_marksOf 132 = .ok (.istore 11, 2) := by decide +kernel
theorem dX7_marksOf_134 : decode cX7_marksOf 134 = .ok (.iload 10, 2) := by decide +kernel
theorem dX7_marksOf_136 : decode cX7_marksOf 136 = .ok (.iconst 2, 1) := by decide +kernel
theorem dX7_marksOf_137 : decode cX7_marksOf 137 = .ok (.if_icmp .ne 9, 3) := by decide +kernel
theorem dX7_marksOf_140 : decode cX7_marksOf 140 = .ok (.sipush 200, 3) := by decide +kernel
theorem dX7_marksOf_143 : decode cX7_marksOf 143 = .ok (.goto 18, 3) := by decide +kernel
theorem dX7_marksOf_146 : decode cX7_marksOf 146 = .ok (.iconst 5, 1) := by decide +kernel
theorem dX7_marksOf_147 : decode cX7_marksOf 147 = .ok (.iload_n 1, 1) := by decide +kernel
theorem dX7_marksOf_148 : decode cX7_marksOf 148 = .ok (.imul, 1) := by decide +kernel
theorem dX7_marksOf_149 : decode cX7_marksOf 149 = .ok (.aload_n 0, 1) := by decide +kernel
theorem dX7_marksOf_150 : decode cX7_marksOf 150 = .ok (.getfield 28, 3) := by decide +kernel
theorem dX7_marksOf_153 : decode cX7_marksOf 153 = .ok (.iconst 2, 1) := by decide +kernel
theorem dX7_marksOf_154 : decode cX7_marksOf 154 = .ok (.iload_n 2, 1) := by decide +kernel
theorem dX7_marksOf_155 : decode cX7_marksOf 155 = .ok (.imul, 1) := by decide +kernel
theorem dX7_marksOf_156 : decode cX7_marksOf 156 = .ok (.iload 10, 2) := by decide +kernel
theorem dX7_marksOf_158 : decode cX7_marksOf 158 = .ok (.iadd, 1) := by decide +kernel
theorem dX7_marksOf_159 : decode cX7_marksOf 159 = .ok (.iaload, 1) := by decide +kernel
theorem dX7_marksOf_160 : decode cX7_marksOf 160 = .ok (.iadd, 1) := by decide +kernel
theorem dX7_marksOf_161 : decode cX7_marksOf 161 = .ok (.istore 12, 2) := by decide +kernel
theorem dX7_marksOf_163 : decode cX7_marksOf 163 = .ok (.iload 11, 2) := by decide +kernel
theorem dX7_marksOf_165 : decode cX7_marksOf 165 = .ok (.iload 12, 2) := by decide +kernel
theorem dX7_marksOf_167 : decode cX7_marksOf 167 = .ok (.if_icmp .ne 7, 3) := by decide +kernel
theorem dX7_marksOf_170 : decode cX7_marksOf 170 = .ok (.iconst 0, 1) := by decide +kernel
theorem dX7_marksOf_171 : decode cX7_marksOf 171 = .ok (.goto 14, 3) := by decide +kernel
theorem dX7_marksOf_174 : decode cX7_marksOf 174 = .ok (.aload_n 0, 1) := by decide +kernel
theorem dX7_marksOf_175 : decode cX7_marksOf 175 = .ok (.sipush 201, 3) := by decide +kernel
theorem dX7_marksOf_178 : decode cX7_marksOf 178 = .ok (.iload 11, 2) := by decide +kernel
theorem dX7_marksOf_180 : decode cX7_marksOf 180 = .ok (.iload 12, 2) := by decide +kernel
theorem dX7_marksOf_182 : decode cX7_marksOf 182 = .ok (.invokevirtual 220, 3) := by decide +kernel
theorem dX7_marksOf_185 : decode cX7_marksOf 185 = .ok (.istore 13, 2) := by decide +kernel
theorem dX7_marksOf_187 : decode cX7_marksOf 187 = .ok (.iload 13, 2) := by decide +kernel
theorem dX7_marksOf_189 : decode cX7_marksOf 189 = .ok (.sipush (-1000), 3) := by decide +kernel
theorem dX7_marksOf_192 : decode cX7_marksOf 192 = .ok (.sipush 1000, 3) := by decide +kernel
theorem dX7_marksOf_195 : decode cX7_marksOf 195 = .ok (.invokestatic 104, 3) := by decide +kernel
theorem dX7_marksOf_198 : decode cX7_marksOf 198 = .ok (.ifCond .eq 31, 3) := by decide +kernel
theorem dX7_marksOf_201 : decode cX7_marksOf 201 = .ok (.aload_n 0, 1) := by decide +kernel
theorem dX7_marksOf_202 : decode cX7_marksOf 202 = .ok (.iload_n 3, 1) := by decide +kernel
theorem dX7_marksOf_203 : decode cX7_marksOf 203 = .ok (.iload 9, 2) := by decide +kernel
theorem dX7_marksOf_205 : decode cX7_marksOf 205 = .ok (.iload 10, 2) := by decide +kernel
theorem dX7_marksOf_207 : decode cX7_marksOf 207 = .ok (.iload 13, 2) := by decide +kernel
theorem dX7_marksOf_209 : decode cX7_marksOf 209 = .ok (.invokevirtual 169, 3) := by decide +kernel
theorem dX7_marksOf_212 : decode cX7_marksOf 212 = .ok (.ifCond .ne 17, 3) := by decide +kernel
theorem dX7_marksOf_215 : decode cX7_marksOf 215 = .ok (.aload_n 0, 1) := by decide +kernel
theorem dX7_marksOf_216 : decode cX7_marksOf 216 = .ok (.iload_n 3, 1) := by decide +kernel
theorem dX7_marksOf_217 : decode cX7_marksOf 217 = .ok (.iload 9, 2) := by decide +kernel
theorem dX7_marksOf_219 : decode cX7_marksOf 219 = .ok (.iload 10, 2) := by decide +kernel
theorem dX7_marksOf_221 : decode cX7_marksOf 221 = .ok (.iload 13, 2) := by decide +kernel
theorem dX7_marksOf_223 : decode cX7_marksOf 223 = .ok (.invokevirtual 175, 3) := by decide +kernel
theorem dX7_marksOf_226 : decode cX7_marksOf 226 = .ok (.iinc 5 1, 3) := by decide +kernel
theorem dX7_marksOf_229 : decode cX7_marksOf 229 = .ok (.iinc 6 1, 3) := by decide +kernel
theorem dX7_marksOf_232 : decode cX7_marksOf 232 = .ok (.goto (-202), 3) := by decide +kernel
theorem dX7_marksOf_235 : decode cX7_marksOf 235 = .ok (.iload 5, 2) := by decide +kernel
theorem dX7_marksOf_237 : decode cX7_marksOf 237 = .ok (.ireturn, 1) := by decide +kernel
theorem dX7_verify_0 : decode cX7_verify 0 = .ok (.aload_n 0, 1) := by decide +kernel
theorem dX7_verify_1 : decode cX7_verify 1 = .ok (.iload_n 1, 1) := by decide +kernel
theorem dX7_verify_2 : decode cX7_verify 2 = .ok (.iconst 0, 1) := by decide +kernel
theorem dX7_verify_3 : decode cX7_verify 3 = .ok (.bipush 100, 2) := by decide +kernel
theorem dX7_verify_5 : decode cX7_verify 5 = .ok (.invokestatic 104, 3) := by decide +kernel
theorem dX7_verify_8 : decode cX7_verify 8 = .ok (.ifCond .eq 7, 3) := by decide +kernel
theorem dX7_verify_11 : decode cX7_verify 11 = .ok (.iconst 0, 1) := by decide +kernel
theorem dX7_verify_12 : decode cX7_verify 12 = .ok (.goto 4, 3) := by decide +kernel
theorem dX7_verify_15 : decode cX7_verify 15 = .ok (.iconst 1, 1) := by decide +kernel
theorem dX7_verify_16 : decode cX7_verify 16 = .ok (.putfield 98, 3) := by decide +kernel
theorem dX7_verify_19 : decode cX7_verify 19 = .ok (.aload_n 0, 1) := by decide +kernel
theorem dX7_verify_20 : decode cX7_verify 20 = .ok (.getfield 98, 3) := by decide +kernel
theorem dX7_verify_23 : decode cX7_verify 23 = .ok (.ifCond .le 5, 3) := by decide +kernel
theorem dX7_verify_26 : decode cX7_verify 26 = .ok (.iconst 0, 1) := by decide +kernel
theorem dX7_verify_27 : decode cX7_verify 27 = .ok (.ireturn, 1) := by decide +kernel
theorem dX7_verify_28 : decode cX7_verify 28 = .ok (.iconst 0, 1) := by decide +kernel
theorem dX7_verify_29 : decode cX7_verify 29 = .ok (.istore_n 2, 1) := by decide +kernel
theorem dX7_verify_30 : decode cX7_verify 30 = .ok (.iload_n 2, 1) := by decide +kernel
theorem dX7_verify_31 : decode cX7_verify 31 = .ok (.iload_n 1, 1) := by decide +kernel
theorem dX7_verify_32 : decode cX7_verify 32 = .ok (.if_icmp .ge 36, 3) := by decide +kernel
theorem dX7_verify_35 : decode cX7_verify 35 = .ok (.aload_n 0, 1) := by decide +kernel
theorem dX7_verify_36 : decode cX7_verify 36 = .ok (.getfield 157, 3) := by decide +kernel
theorem dX7_verify_39 : decode cX7_verify 39 = .ok (.ifCond .ne 29, 3) := by decide +kernel
theorem dX7_verify_42 : decode cX7_verify 42 = .ok (.aload_n 0, 1) := by decide +kernel
theorem dX7_verify_43 : decode cX7_verify 43 = .ok (.getfield 61, 3) := by decide +kernel
theorem dX7_verify_46 : decode cX7_verify 46 = .ok (.ifCond .lt 11, 3) := by decide +kernel
theorem dX7_verify_49 : decode cX7_verify 49 = .ok (.aload_n 0, 1) := by decide +kernel
theorem dX7_verify_50 : decode cX7_verify 50 = .ok (.invokevirtual 208, 3) := by decide +kernel
theorem dX7_verify_53 : decode cX7_verify 53 = .ok (.pop, 1) := by decide +kernel
theorem dX7_verify_54 : decode cX7_verify 54 = .ok (.goto 8, 3) := by decide +kernel
theorem dX7_verify_57 : decode cX7_verify 57 = .ok (.aload_n 0, 1) := by decide +kernel
theorem dX7_verify_58 : decode cX7_verify 58 = .ok (.invokevirtual 185, 3) := by decide +kernel
theorem dX7_verify_61 : decode cX7_verify 61 = .ok (.pop, 1) := by decide +kernel
theorem dX7_verify_62 : decode cX7_verify 62 = .ok (.iinc 2 1, 3) := by decide +kernel
theorem dX7_verify_65 : decode cX7_verify 65 = .ok (.goto (-35), 3) := by decide +kernel
theorem dX7_verify_68 : decode cX7_verify 68 = .ok (.aload_n 0, 1) := by decide +kernel
theorem dX7_verify_69 : decode cX7_verify 69 = .ok (.getfield 157, 3) := by decide +kernel
theorem dX7_verify_72 : decode cX7_verify 72 = .ok (.ireturn, 1) := by decide +kernel
theorem dX7_check_0 : decode cX7_check 0 = .ok (.aload_n 0, 1) := by decide +kernel
theorem dX7_check_1 : decode cX7_check 1 = .ok (.iconst 0, 1) := by decide +kernel
theorem dX7_check_2 : decode cX7_check 2 = .ok (.putfield 98, 3) := by decide +kernel
theorem dX7_check_5 : decode cX7_check 5 = .ok (.aload_n 0, 1) := by decide +kernel
theorem dX7_check_6 : decode cX7_check 6 = .ok (.getfield 148, 3) := by decide +kernel
theorem dX7_check_9 : decode cX7_check 9 = .ok (.istore_n 1, 1) := by decide +kernel
theorem dX7_check_10 : decode cX7_check 10 = .ok (.aload_n 0, 1) := by decide +kernel
theorem dX7_check_11 : decode cX7_check 11 = .ok (.iload_n 1, 1) := by decide +kernel
theorem dX7_check_12 : decode cX7_check 12 = .ok (.iconst 1, 1) := by decide +kernel
theorem dX7_check_13 : decode cX7_check 13 = .ok (.iadd, 1) := by decide +kernel
theorem dX7_check_14 : decode cX7_check 14 = .ok (.putfield 148, 3) := by decide +kernel
theorem dX7_check_17 : decode cX7_check 17 = .ok (.iconst (-1), 1) := by decide +kernel
theorem dX7_check_18 : decode cX7_check 18 = .ok (.istore_n 2, 1) := by decide +kernel
theorem dX7_check_19 : decode cX7_check 19 = .ok (.aload_n 0, 1) := by decide +kernel
theorem dX7_check_20 : decode cX7_check 20 = .ok (.getfield 182, 3) := by decide +kernel
theorem dX7_check_23 : decode cX7_check 23 = .ok (.iconst 1, 1) := by decide +kernel
theorem dX7_check_24 : decode cX7_check 24 = .ok (.isub, 1) := by decide +kernel
theorem dX7_check_25 : decode cX7_check 25 = .ok (.istore_n 3, 1) := by decide +kernel
theorem dX7_check_26 : decode cX7_check 26 = .ok (.iload_n 3, 1) := by decide +kernel
theorem dX7_check_27 : decode cX7_check 27 = .ok (.ifCond .lt 23, 3) := by decide +kernel
theorem dX7_check_30 : decode cX7_check 30 = .ok (.aload_n 0, 1) := by decide +kernel
theorem dX7_check_31 : decode cX7_check 31 = .ok (.iload_n 3, 1) := by decide +kernel
theorem dX7_check_32 : decode cX7_check 32 = .ok (.invokevirtual 224, 3) := by decide +kernel
theorem dX7_check_35 : decode cX7_check 35 = .ok (.ifCond .eq 7, 3) := by decide +kernel
theorem dX7_check_38 : decode cX7_check 38 = .ok (.iload_n 3, 1) := by decide +kernel
theorem dX7_check_39 : decode cX7_check 39 = .ok (.goto 4, 3) := by decide +kernel
theorem dX7_check_42 : decode cX7_check 42 = .ok (.iload_n 2, 1) := by decide +kernel
theorem dX7_check_43 : decode cX7_check 43 = .ok (.istore_n 2, 1) := by decide +kernel
theorem dX7_check_44 : decode cX7_check 44 = .ok (.iinc 3 (-1), 3) := by decide +kernel
theorem dX7_check_47 : decode cX7_check 47 = .ok (.goto (-21), 3) := by decide +kernel
theorem dX7_check_50 : decode cX7_check 50 = .ok (.aload_n 0, 1) := by decide +kernel
theorem dX7_check_51 : decode cX7_check 51 = .ok (.iload_n 1, 1) := by decide +kernel
theorem dX7_check_52 : decode cX7_check 52 = .ok (.putfield 148, 3) := by decide +kernel
theorem dX7_check_55 : decode cX7_check 55 = .ok (.iload_n 2, 1) := by decide +kernel
theorem dX7_check_56 : decode cX7_check 56 = .ok (.ireturn, 1) := by decide +kernel
theorem dX7_isBroken_0 : decode cX7_isBroken 0 = .ok (.aload_n 0, 1) := by decide +kernel
theorem dX7_isBroken_1 : decode cX7_isBroken 1 = .ok (.getfield 25, 3) := by decide +kernel
theorem dX7_isBroken_4 : decode cX7_isBroken 4 = .ok (.iload_n 1, 1) := by decide +kernel
theorem dX7_isBroken_5 : decode cX7_isBroken 5 = .ok (.iaload, 1) := by decide +kernel
theorem dX7_isBroken_6 : decode cX7_isBroken 6 = .ok (.ifCond .ge 10, 3) := by decide +kernel
theorem dX7_isBroken_9 : decode cX7_isBroken 9 = .ok (.aload_n 0, 1) := by decide +kernel
theorem dX7_isBroken_10 : decode cX7_isBroken 10 = .ok (.iload_n 1, 1) := by decide +kernel
theorem dX7_isBroken_11 : decode cX7_isBroken 11 = .ok (.iconst (-1), 1) := by decide +kernel
theorem dX7_isBroken_12 : decode cX7_isBroken 12 = .ok (.invokevirtual 189, 3) := by decide +kernel
theorem dX7_isBroken_15 : decode cX7_isBroken 15 = .ok (.ireturn, 1) := by decide +kernel
theorem dX7_isBroken_16 : decode cX7_isBroken 16 = .ok (.iconst 0, 1) := by decide +kernel
theorem dX7_isBroken_17 : decode cX7_isBroken 17 = .ok (.istore_n 2, 1) := by decide +kernel
theorem dX7_isBroken_18 : decode cX7_isBroken 18 = .ok (.iload_n 2, 1) := by decide +kernel
theorem dX7_isBroken_19 : decode cX7_isBroken 19 = .ok (.aload_n 0, 1) := by decide +kernel
theorem dX7_isBroken_20 : decode cX7_isBroken 20 = .ok (.aload_n 0, 1) := by decide +kernel
theorem dX7_isBroken_21 : decode cX7_isBroken 21 = .ok (.getfield 25, 3) := by decide +kernel
theorem dX7_isBroken_24 : decode cX7_isBroken 24 = .ok (.iload_n 1, 1) := by decide +kernel
theorem dX7_isBroken_25 : decode cX7_isBroken 25 = .ok (.iaload, 1) := by decide +kernel
theorem dX7_isBroken_26 : decode cX7_isBroken 26 = .ok (.invokevirtual 130, 3) := by decide +kernel
theorem dX7_isBroken_29 : decode cX7_isBroken 29 = .ok (.if_icmp .ge 39, 3) := by decide +kernel
theorem dX7_isBroken_32 : decode cX7_isBroken 32 = .ok (.aload_n 0, 1) := by decide +kernel
theorem dX7_isBroken_33 : decode cX7_isBroken 33 = .ok (.getfield 52, 3) := by decide +kernel
theorem dX7_isBroken_36 : decode cX7_isBroken 36 = .ok (.bipush 16, 2) := by decide +kernel
theorem dX7_isBroken_38 : decode cX7_isBroken 38 = .ok (.aload_n 0, 1) := by decide +kernel
theorem dX7_isBroken_39 : decode cX7_isBroken 39 = .ok (.getfield 25, 3) := by decide +kernel
theorem dX7_isBroken_42 : decode cX7_isBroken 42 = .ok (.iload_n 1, 1) := by decide +kernel
theorem dX7_isBroken_43 : decode cX7_isBroken 43 = .ok (.iaload, 1) := by decide +kernel
theorem dX7_isBroken_44 : decode cX7_isBroken 44 = .ok (.imul, 1) := by decide +kernel
theorem dX7_isBroken_45 : decode cX7_isBroken 45 = .ok (.iload_n 2, 1) := by decide +kernel
theorem dX7_isBroken_46 : decode cX7_isBroken 46 = .ok (.iadd, 1) := by decide +kernel
theorem dX7_isBroken_47 : decode cX7_isBroken 47 = .ok (.iaload, 1) := by decide +kernel
theorem dX7_isBroken_48 : decode cX7_isBroken 48 = .ok (.ifCond .ne 14, 3) := by decide +kernel
theorem dX7_isBroken_51 : decode cX7_isBroken 51 = .ok (.aload_n 0, 1) := by decide +kernel
theorem dX7_isBroken_52 : decode cX7_isBroken 52 = .ok (.iload_n 1, 1) := by decide +kernel
theorem dX7_isBroken_53 : decode cX7_isBroken 53 = .ok (.iload_n 2, 1) := by decide +kernel
theorem dX7_isBroken_54 : decode cX7_isBroken 54 = .ok (.invokevirtual 189, 3) := by decide +kernel
theorem dX7_isBroken_57 : decode cX7_isBroken 57 = .ok (.ifCond .eq 5, 3) := by decide +kernel
theorem dX7_isBroken_60 : decode cX7_isBroken 60 = .ok (.iconst 1, 1) := by decide +kernel
theorem dX7_isBroken_61 : decode cX7_isBroken 61 = .ok (.ireturn, 1) := by decide +kernel
theorem dX7_isBroken_62 : decode cX7_isBroken 62 = .ok (.iinc 2 1, 3) := by decide +kernel
theorem dX7_isBroken_65 : decode cX7_isBroken 65 = .ok (.goto (-47), 3) := by decide +kernel
theorem dX7_isBroken_68 : decode cX7_isBroken 68 = .ok (.iconst 0, 1) := by decide +kernel
theorem dX7_isBroken_69 : decode cX7_isBroken 69 = .ok (.ireturn, 1) := by decide +kernel
theorem dX7_follows_0 : decode cX7_follows 0 = .ok (.aload_n 0, 1) := by decide +kernel
theorem dX7_follows_1 : decode cX7_follows 1 = .ok (.iload_n 1, 1) := by decide +kernel
theorem dX7_follows_2 : decode cX7_follows 2 = .ok (.iconst 0, 1) := by decide +kernel
theorem dX7_follows_3 : decode cX7_follows 3 = .ok (.aload_n 0, 1) := by decide +kernel
theorem dX7_follows_4 : decode cX7_follows 4 = .ok (.getfield 182, 3) := by decide +kernel
theorem dX7_follows_7 : decode cX7_follows 7 = .ok (.iconst 1, 1) := by decide +kernel
theorem dX7_follows_8 : decode cX7_follows 8 = .ok (.isub, 1) := by decide +kernel
theorem dX7_follows_9 : decode cX7_follows 9 = .ok (.invokestatic 104, 3) := by decide +kernel
theorem dX7_follows_12 : decode cX7_follows 12 = .ok (.ifCond .eq 30, 3) := by decide +kernel
theorem dX7_follows_15 : decode cX7_follows 15 = .ok (.iload_n 2, 1) := by decide +kernel
theorem dX7_follows_16 : decode cX7_follows 16 = .ok (.iconst 0, 1) := by decide +kernel
theorem dX7_follows_17 : decode cX7_follows 17 = .ok (.iconst 5, 1) := by decide +kernel
theorem dX7_follows_18 : decode cX7_follows 18 = .ok (.invokestatic 104, 3) := by decide +kernel
theorem dX7_follows_21 : decode cX7_follows 21 = .ok (.ifCond .eq 21, 3) := by decide +kernel
theorem dX7_follows_24 : decode cX7_follows 24 = .ok (.iload_n 3, 1) := by decide +kernel
theorem dX7_follows_25 : decode cX7_follows 25 = .ok (.iconst 0, 1) := by decide +kernel
theorem dX7_follows_26 : decode cX7_follows 26 = .ok (.iconst 5, 1) := by decide +kernel
theorem dX7_follows_27 : decode cX7_follows 27 = .ok (.invokestatic 104, 3) := by decide +kernel
theorem dX7_follows_30 : decode cX7_follows 30 = .ok (.ifCond .eq 12, 3) := by decide +kernel
theorem dX7_follows_33 : decode cX7_follows 33 = .ok (.iload_n 2, 1) := by decide +kernel
theorem dX7_follows_34 : decode cX7_follows 34 = .ok (.iload_n 3, 1) := by decide +kernel
theorem dX7_follows_35 : decode cX7_follows 35 = .ok (.if_icmp .eq 7, 3) := by decide +kernel
theorem dX7_follows_38 : decode cX7_follows 38 = .ok (.iconst 0, 1) := by decide +kernel
theorem dX7_follows_39 : decode cX7_follows 39 = .ok (.goto 4, 3) := by decide +kernel
theorem dX7_follows_42 : decode cX7_follows 42 = .ok (.iconst 1, 1) := by decide +kernel
theorem dX7_follows_43 : decode cX7_follows 43 = .ok (.putfield 98, 3) := by decide +kernel
theorem dX7_follows_46 : decode cX7_follows 46 = .ok (.aload_n 0, 1) := by decide +kernel
theorem dX7_follows_47 : decode cX7_follows 47 = .ok (.getfield 98, 3) := by decide +kernel
theorem dX7_follows_50 : decode cX7_follows 50 = .ok (.ifCond .le 5, 3) := by decide +kernel
theorem dX7_follows_53 : decode cX7_follows 53 = .ok (.iconst 0, 1) := by decide +kernel
theorem dX7_follows_54 : decode cX7_follows 54 = .ok (.ireturn, 1) := by decide +kernel
theorem dX7_follows_55 : decode cX7_follows 55 = .ok (.aload_n 0, 1) := by decide +kernel
theorem dX7_follows_56 : decode cX7_follows 56 = .ok (.iconst 0, 1) := by decide +kernel
theorem dX7_follows_57 : decode cX7_follows 57 = .ok (.putfield 108, 3) := by decide +kernel
theorem dX7_follows_60 : decode cX7_follows 60 = .ok (.aload_n 0, 1) := by decide +kernel
theorem dX7_follows_61 : decode cX7_follows 61 = .ok (.iload_n 1, 1) := by decide +kernel
theorem dX7_follows_62 : decode cX7_follows 62 = .ok (.iconst 0, 1) := by decide +kernel
theorem dX7_follows_63 : decode cX7_follows 63 = .ok (.iconst 5, 1) := by decide +kernel
theorem dX7_follows_64 : decode cX7_follows 64 = .ok (.invokevirtual 120, 3) := by decide +kernel
theorem dX7_follows_67 : decode cX7_follows 67 = .ok (.aload_n 0, 1) := by decide +kernel
theorem dX7_follows_68 : decode cX7_follows 68 = .ok (.bipush 6, 2) := by decide +kernel
theorem dX7_follows_70 : decode cX7_follows 70 = .ok (.invokevirtual 127, 3) := by decide +kernel
theorem dX7_follows_73 : decode cX7_follows 73 = .ok (.ifCond .ne 9, 3) := by decide +kernel
theorem dX7_follows_76 : decode cX7_follows 76 = .ok (.aload_n 0, 1) := by decide +kernel
theorem dX7_follows_77 : decode cX7_follows 77 = .ok (.iconst 2, 1) := by decide +kernel
theorem dX7_follows_78 : decode cX7_follows 78 = .ok (.invokevirtual 172, 3) := by decide +kernel
theorem dX7_follows_81 : decode cX7_follows 81 = .ok (.ireturn, 1) := by decide +kernel
theorem dX7_follows_82 : decode cX7_follows 82 = .ok (.aload_n 0, 1) := by decide +kernel
theorem dX7_follows_83 : decode cX7_follows 83 = .ok (.bipush 6, 2) := by decide +kernel
theorem dX7_follows_85 : decode cX7_follows 85 = .ok (.iload_n 2, 1) := by decide +kernel
theorem dX7_follows_86 : decode cX7_follows 86 = .ok (.iload_n 3, 1) := by decide +kernel
theorem dX7_follows_87 : decode cX7_follows 87 = .ok (.invokevirtual 220, 3) := by decide +kernel
theorem dX7_follows_90 : decode cX7_follows 90 = .ok (.istore 4, 2) := by decide +kernel
theorem dX7_follows_92 : decode cX7_follows 92 = .ok (.iload 4, 2) := by decide +kernel
theorem dX7_follows_94 : decode cX7_follows 94 = .ok (.ldc 111, 2) := by decide +kernel
theorem dX7_follows_96 : decode cX7_follows 96 = .ok (.if_icmp .ne 11, 3) := by decide +kernel
theorem dX7_follows_99 : decode cX7_follows 99 = .ok (.aload_n 0, 1) := by decide +kernel
theorem dX7_follows_100 : decode cX7_follows 100 = .ok (.iconst 3, 1) := by decide +kernel
theorem dX7_follows_101 : decode cX7_follows 101 = .ok (.invokevirtual 172, 3) := by decide +kernel
theorem dX7_follows_104 : decode cX7_follows 104 = .ok (.goto 5, 3) := by decide +kernel
theorem dX7_follows_107 : decode cX7_follows 107 = .ok (.iload 4, 2) := by decide +kernel
theorem dX7_follows_109 : decode cX7_follows 109 = .ok (.ireturn, 1) := by decide +kernel
theorem dX7_state_0 : decode cX7_state 0 = .ok (.aload_n 0, 1) := by decide +kernel
theorem dX7_state_1 : decode cX7_state 1 = .ok (.iconst 0, 1) := by decide +kernel
theorem dX7_state_2 : decode cX7_state 2 = .ok (.putfield 98, 3) := by decide +kernel
theorem dX7_state_5 : decode cX7_state 5 = .ok (.iload_n 1, 1) := by decide +kernel
theorem dX7_state_6 : decode cX7_state 6 = .ok (.tableswitch 77 0 6 #[42, 47, 52, 57, 62, 67, 72], 42) := by decide +kernel
theorem dX7_state_48 : decode cX7_state 48 = .ok (.aload_n 0, 1) := by decide +kernel
theorem dX7_state_49 : decode cX7_state 49 = .ok (.getfield 101, 3) := by decide +kernel
theorem dX7_state_52 : decode cX7_state 52 = .ok (.ireturn, 1) := by decide +kernel
theorem dX7_state_53 : decode cX7_state 53 = .ok (.aload_n 0, 1) := by decide +kernel
theorem dX7_state_54 : decode cX7_state 54 = .ok (.getfield 182, 3) := by decide +kernel
theorem dX7_state_57 : decode cX7_state 57 = .ok (.ireturn, 1) := by decide +kernel
theorem dX7_state_58 : decode cX7_state 58 = .ok (.aload_n 0, 1) := by decide +kernel
theorem dX7_state_59 : decode cX7_state 59 = .ok (.getfield 157, 3) := by decide +kernel
theorem dX7_state_62 : decode cX7_state 62 = .ok (.ireturn, 1) := by decide +kernel
theorem dX7_state_63 : decode cX7_state 63 = .ok (.aload_n 0, 1) := by decide +kernel
theorem dX7_state_64 : decode cX7_state 64 = .ok (.getfield 148, 3) := by decide +kernel
theorem dX7_state_67 : decode cX7_state 67 = .ok (.ireturn, 1) := by decide +kernel
theorem dX7_state_68 : decode cX7_state 68 = .ok (.aload_n 0, 1) := by decide +kernel
theorem dX7_state_69 : decode cX7_state 69 = .ok (.getfield 61, 3) := by decide +kernel
theorem dX7_state_72 : decode cX7_state 72 = .ok (.ireturn, 1) := by decide +kernel
theorem dX7_state_73 : decode cX7_state 73 = .ok (.aload_n 0, 1) := by decide +kernel
theorem dX7_state_74 : decode cX7_state 74 = .ok (.getfield 151, 3) := by decide +kernel
theorem dX7_state_77 : decode cX7_state 77 = .ok (.ireturn, 1) := by decide +kernel
theorem dX7_state_78 : decode cX7_state 78 = .ok (.aload_n 0, 1) := by decide +kernel
theorem dX7_state_79 : decode cX7_state 79 = .ok (.getfield 217, 3) := by decide +kernel
theorem dX7_state_82 : decode cX7_state 82 = .ok (.ireturn, 1) := by decide +kernel
theorem dX7_state_83 : decode cX7_state 83 = .ok (.iconst (-1), 1) := by decide +kernel
theorem dX7_state_84 : decode cX7_state 84 = .ok (.ireturn, 1) := by decide +kernel
theorem dX7_shown_0 : decode cX7_shown 0 = .ok (.aload_n 0, 1) := by decide +kernel
theorem dX7_shown_1 : decode cX7_shown 1 = .ok (.aload_n 0, 1) := by decide +kernel
theorem dX7_shown_2 : decode cX7_shown 2 = .ok (.iload_n 1, 1) := by decide +kernel
theorem dX7_shown_3 : decode cX7_shown 3 = .ok (.invokevirtual 163, 3) := by decide +kernel
theorem dX7_shown_6 : decode cX7_shown 6 = .ok (.ifCond .eq 12, 3) := by decide +kernel
theorem dX7_shown_9 : decode cX7_shown 9 = .ok (.iload_n 3, 1) := by decide +kernel
theorem dX7_shown_10 : decode cX7_shown 10 = .ok (.iconst 0, 1) := by decide +kernel
theorem dX7_shown_11 : decode cX7_shown 11 = .ok (.iconst 2, 1) := by decide +kernel
theorem dX7_shown_12 : decode cX7_shown 12 = .ok (.invokestatic 104, 3) := by decide +kernel
theorem dX7_shown_15 : decode cX7_shown 15 = .ok (.ifCond .ne 7, 3) := by decide +kernel
theorem dX7_shown_18 : decode cX7_shown 18 = .ok (.iconst 1, 1) := by decide +kernel
theorem dX7_shown_19 : decode cX7_shown 19 = .ok (.goto 24, 3) := by decide +kernel
theorem dX7_shown_22 : decode cX7_shown 22 = .ok (.iload_n 2, 1) := by decide +kernel
theorem dX7_shown_23 : decode cX7_shown 23 = .ok (.iconst 0, 1) := by decide +kernel
theorem dX7_shown_24 : decode cX7_shown 24 = .ok (.aload_n 0, 1) := by decide +kernel
theorem dX7_shown_25 : decode cX7_shown 25 = .ok (.getfield 13, 3) := by decide +kernel
theorem dX7_shown_28 : decode cX7_shown 28 = .ok (.iload_n 1, 1) := by decide +kernel
theorem dX7_shown_29 : decode cX7_shown 29 = .ok (.iaload, 1) := by decide +kernel
theorem dX7_shown_30 : decode cX7_shown 30 = .ok (.iconst 1, 1) := by decide +kernel
theorem dX7_shown_31 : decode cX7_shown 31 = .ok (.isub, 1) := by decide +kernel
theorem dX7_shown_32 : decode cX7_shown 32 = .ok (.invokestatic 104, 3) := by decide +kernel
