theorem dX7_shown_35 : decode cX7_shown 35 = .ok (.ifCond .ne 7, 3) := by decide +kernel
theorem dX7_shown_38 : decode cX7_shown 38 = .ok (.iconst 2, 1) := by decide +kernel
theorem dX7_shown_39 : decode cX7_shown 39 = .ok (.goto 4, 3) := by decide +kernel
theorem dX7_shown_42 : decode cX7_shown 42 = .ok (.iconst 0, 1) := by decide +kernel
theorem dX7_shown_43 : decode cX7_shown 43 = .ok (.putfield 98, 3) := by decide +kernel
theorem dX7_shown_46 : decode cX7_shown 46 = .ok (.aload_n 0, 1) := by decide +kernel
theorem dX7_shown_47 : decode cX7_shown 47 = .ok (.getfield 98, 3) := by decide +kernel
theorem dX7_shown_50 : decode cX7_shown 50 = .ok (.ifCond .le 5, 3) := by decide +kernel
theorem dX7_shown_53 : decode cX7_shown 53 = .ok (.iconst 0, 1) := by decide +kernel
theorem dX7_shown_54 : decode cX7_shown 54 = .ok (.ireturn, 1) := by decide +kernel
theorem dX7_shown_55 : decode cX7_shown 55 = .ok (.iload_n 3, 1) := by decide +kernel
theorem dX7_shown_56 : decode cX7_shown 56 = .ok (.ifCond .ne 16, 3) := by decide +kernel
theorem dX7_shown_59 : decode cX7_shown 59 = .ok (.aload_n 0, 1) := by decide +kernel
theorem dX7_shown_60 : decode cX7_shown 60 = .ok (.getfield 16, 3) := by decide +kernel
theorem dX7_shown_63 : decode cX7_shown 63 = .ok (.iconst 4, 1) := by decide +kernel
theorem dX7_shown_64 : decode cX7_shown 64 = .ok (.iload_n 1, 1) := by decide +kernel
theorem dX7_shown_65 : decode cX7_shown 65 = .ok (.imul, 1) := by decide +kernel
theorem dX7_shown_66 : decode cX7_shown 66 = .ok (.iload_n 2, 1) := by decide +kernel
theorem dX7_shown_67 : decode cX7_shown 67 = .ok (.iadd, 1) := by decide +kernel
theorem dX7_shown_68 : decode cX7_shown 68 = .ok (.iaload, 1) := by decide +kernel
theorem dX7_shown_69 : decode cX7_shown 69 = .ok (.goto 31, 3) := by decide +kernel
theorem dX7_shown_72 : decode cX7_shown 72 = .ok (.iload_n 3, 1) := by decide +kernel
theorem dX7_shown_73 : decode cX7_shown 73 = .ok (.iconst 1, 1) := by decide +kernel
theorem dX7_shown_74 : decode cX7_shown 74 = .ok (.if_icmp .ne 16, 3) := by decide +kernel
theorem dX7_shown_77 : decode cX7_shown 77 = .ok (.aload_n 0, 1) := by decide +kernel
theorem dX7_shown_78 : decode cX7_shown 78 = .ok (.getfield 19, 3) := by decide +kernel
theorem dX7_shown_81 : decode cX7_shown 81 = .ok (.iconst 4, 1) := by decide +kernel
theorem dX7_shown_82 : decode cX7_shown 82 = .ok (.iload_n 1, 1) := by decide +kernel
theorem dX7_shown_83 : decode cX7_shown 83 = .ok (.imul, 1) := by decide +kernel
theorem dX7_shown_84 : decode cX7_shown 84 = .ok (.iload_n 2, 1) := by decide +kernel
theorem dX7_shown_85 : decode cX7_shown 85 = .ok (.iadd, 1) := by decide +kernel
theorem dX7_shown_86 : decode cX7_shown 86 = .ok (.iaload, 1) := by decide +kernel
theorem dX7_shown_87 : decode cX7_shown 87 = .ok (.goto 13, 3) := by decide +kernel
theorem dX7_shown_90 : decode cX7_shown 90 = .ok (.aload_n 0, 1) := by decide +kernel
theorem dX7_shown_91 : decode cX7_shown 91 = .ok (.getfield 22, 3) := by decide +kernel
theorem dX7_shown_94 : decode cX7_shown 94 = .ok (.iconst 4, 1) := by decide +kernel
theorem dX7_shown_95 : decode cX7_shown 95 = .ok (.iload_n 1, 1) := by decide +kernel
theorem dX7_shown_96 : decode cX7_shown 96 = .ok (.imul, 1) := by decide +kernel
theorem dX7_shown_97 : decode cX7_shown 97 = .ok (.iload_n 2, 1) := by decide +kernel
theorem dX7_shown_98 : decode cX7_shown 98 = .ok (.iadd, 1) := by decide +kernel
theorem dX7_shown_99 : decode cX7_shown 99 = .ok (.iaload, 1) := by decide +kernel
theorem dX7_shown_100 : decode cX7_shown 100 = .ok (.ireturn, 1) := by decide +kernel
theorem dX7_cube_0 : decode cX7_cube 0 = .ok (.aload_n 0, 1) := by decide +kernel
theorem dX7_cube_1 : decode cX7_cube 1 = .ok (.aload_n 0, 1) := by decide +kernel
theorem dX7_cube_2 : decode cX7_cube 2 = .ok (.iload_n 1, 1) := by decide +kernel
theorem dX7_cube_3 : decode cX7_cube 3 = .ok (.invokevirtual 163, 3) := by decide +kernel
theorem dX7_cube_6 : decode cX7_cube 6 = .ok (.ifCond .eq 16, 3) := by decide +kernel
theorem dX7_cube_9 : decode cX7_cube 9 = .ok (.iload_n 3, 1) := by decide +kernel
theorem dX7_cube_10 : decode cX7_cube 10 = .ok (.iconst 0, 1) := by decide +kernel
theorem dX7_cube_11 : decode cX7_cube 11 = .ok (.iconst 4, 1) := by decide +kernel
theorem dX7_cube_12 : decode cX7_cube 12 = .ok (.invokestatic 104, 3) := by decide +kernel
theorem dX7_cube_15 : decode cX7_cube 15 = .ok (.ifCond .eq 7, 3) := by decide +kernel
theorem dX7_cube_18 : decode cX7_cube 18 = .ok (.iconst 0, 1) := by decide +kernel
theorem dX7_cube_19 : decode cX7_cube 19 = .ok (.goto 4, 3) := by decide +kernel
theorem dX7_cube_22 : decode cX7_cube 22 = .ok (.iconst 1, 1) := by decide +kernel
theorem dX7_cube_23 : decode cX7_cube 23 = .ok (.putfield 98, 3) := by decide +kernel
theorem dX7_cube_26 : decode cX7_cube 26 = .ok (.aload_n 0, 1) := by decide +kernel
theorem dX7_cube_27 : decode cX7_cube 27 = .ok (.getfield 98, 3) := by decide +kernel
theorem dX7_cube_30 : decode cX7_cube 30 = .ok (.ifCond .gt 18, 3) := by decide +kernel
theorem dX7_cube_33 : decode cX7_cube 33 = .ok (.iload_n 2, 1) := by decide +kernel
theorem dX7_cube_34 : decode cX7_cube 34 = .ok (.iconst 0, 1) := by decide +kernel
theorem dX7_cube_35 : decode cX7_cube 35 = .ok (.aload_n 0, 1) := by decide +kernel
theorem dX7_cube_36 : decode cX7_cube 36 = .ok (.iload_n 1, 1) := by decide +kernel
theorem dX7_cube_37 : decode cX7_cube 37 = .ok (.invokevirtual 130, 3) := by decide +kernel
theorem dX7_cube_40 : decode cX7_cube 40 = .ok (.iconst 1, 1) := by decide +kernel
theorem dX7_cube_41 : decode cX7_cube 41 = .ok (.isub, 1) := by decide +kernel
theorem dX7_cube_42 : decode cX7_cube 42 = .ok (.invokestatic 104, 3) := by decide +kernel
theorem dX7_cube_45 : decode cX7_cube 45 = .ok (.ifCond .ne 9, 3) := by decide +kernel
theorem dX7_cube_48 : decode cX7_cube 48 = .ok (.aload_n 0, 1) := by decide +kernel
theorem dX7_cube_49 : decode cX7_cube 49 = .ok (.iconst 1, 1) := by decide +kernel
theorem dX7_cube_50 : decode cX7_cube 50 = .ok (.invokevirtual 172, 3) := by decide +kernel
theorem dX7_cube_53 : decode cX7_cube 53 = .ok (.ireturn, 1) := by decide +kernel
theorem dX7_cube_54 : decode cX7_cube 54 = .ok (.bipush 16, 2) := by decide +kernel
theorem dX7_cube_56 : decode cX7_cube 56 = .ok (.iload_n 1, 1) := by decide +kernel
theorem dX7_cube_57 : decode cX7_cube 57 = .ok (.imul, 1) := by decide +kernel
theorem dX7_cube_58 : decode cX7_cube 58 = .ok (.iload_n 2, 1) := by decide +kernel
theorem dX7_cube_59 : decode cX7_cube 59 = .ok (.iadd, 1) := by decide +kernel
theorem dX7_cube_60 : decode cX7_cube 60 = .ok (.istore 4, 2) := by decide +kernel
theorem dX7_cube_62 : decode cX7_cube 62 = .ok (.iload_n 3, 1) := by decide +kernel
theorem dX7_cube_63 : decode cX7_cube 63 = .ok (.iconst 4, 1) := by decide +kernel
theorem dX7_cube_64 : decode cX7_cube 64 = .ok (.if_icmp .ne 32, 3) := by decide +kernel
theorem dX7_cube_67 : decode cX7_cube 67 = .ok (.aload_n 0, 1) := by decide +kernel
theorem dX7_cube_68 : decode cX7_cube 68 = .ok (.iconst 0, 1) := by decide +kernel
theorem dX7_cube_69 : decode cX7_cube 69 = .ok (.putfield 108, 3) := by decide +kernel
theorem dX7_cube_72 : decode cX7_cube 72 = .ok (.aload_n 0, 1) := by decide +kernel
theorem dX7_cube_73 : decode cX7_cube 73 = .ok (.iload_n 1, 1) := by decide +kernel
theorem dX7_cube_74 : decode cX7_cube 74 = .ok (.iload_n 2, 1) := by decide +kernel
theorem dX7_cube_75 : decode cX7_cube 75 = .ok (.iconst 0, 1) := by decide +kernel
theorem dX7_cube_76 : decode cX7_cube 76 = .ok (.iconst 1, 1) := by decide +kernel
theorem dX7_cube_77 : decode cX7_cube 77 = .ok (.iconst 5, 1) := by decide +kernel
theorem dX7_cube_78 : decode cX7_cube 78 = .ok (.invokevirtual 123, 3) := by decide +kernel
theorem dX7_cube_81 : decode cX7_cube 81 = .ok (.aload_n 0, 1) := by decide +kernel
theorem dX7_cube_82 : decode cX7_cube 82 = .ok (.bipush 6, 2) := by decide +kernel
theorem dX7_cube_84 : decode cX7_cube 84 = .ok (.invokevirtual 127, 3) := by decide +kernel
theorem dX7_cube_87 : decode cX7_cube 87 = .ok (.ifCond .eq 7, 3) := by decide +kernel
theorem dX7_cube_90 : decode cX7_cube 90 = .ok (.iconst 1, 1) := by decide +kernel
theorem dX7_cube_91 : decode cX7_cube 91 = .ok (.goto 4, 3) := by decide +kernel
theorem dX7_cube_94 : decode cX7_cube 94 = .ok (.iconst 0, 1) := by decide +kernel
theorem dX7_cube_95 : decode cX7_cube 95 = .ok (.ireturn, 1) := by decide +kernel
theorem dX7_cube_96 : decode cX7_cube 96 = .ok (.iload_n 3, 1) := by decide +kernel
theorem dX7_cube_97 : decode cX7_cube 97 = .ok (.ifCond .ne 13, 3) := by decide +kernel
theorem dX7_cube_100 : decode cX7_cube 100 = .ok (.aload_n 0, 1) := by decide +kernel
theorem dX7_cube_101 : decode cX7_cube 101 = .ok (.getfield 52, 3) := by decide +kernel
theorem dX7_cube_104 : decode cX7_cube 104 = .ok (.iload 4, 2) := by decide +kernel
theorem dX7_cube_106 : decode cX7_cube 106 = .ok (.iaload, 1) := by decide +kernel
theorem dX7_cube_107 : decode cX7_cube 107 = .ok (.goto 45, 3) := by decide +kernel
theorem dX7_cube_110 : decode cX7_cube 110 = .ok (.aload_n 0, 1) := by decide +kernel
theorem dX7_cube_111 : decode cX7_cube 111 = .ok (.getfield 52, 3) := by decide +kernel
theorem dX7_cube_114 : decode cX7_cube 114 = .ok (.iload 4, 2) := by decide +kernel
theorem dX7_cube_116 : decode cX7_cube 116 = .ok (.iaload, 1) := by decide +kernel
theorem dX7_cube_117 : decode cX7_cube 117 = .ok (.ifCond .ne 7, 3) := by decide +kernel
theorem dX7_cube_120 : decode cX7_cube 120 = .ok (.iconst (-1), 1) := by decide +kernel
theorem dX7_cube_121 : decode cX7_cube 121 = .ok (.goto 31, 3) := by decide +kernel
theorem dX7_cube_124 : decode cX7_cube 124 = .ok (.iload_n 3, 1) := by decide +kernel
theorem dX7_cube_125 : decode cX7_cube 125 = .ok (.iconst 1, 1) := by decide +kernel
theorem dX7_cube_126 : decode cX7_cube 126 = .ok (.if_icmp .ne 13, 3) := by decide +kernel
theorem dX7_cube_129 : decode cX7_cube 129 = .ok (.aload_n 0, 1) := by decide +kernel
theorem dX7_cube_130 : decode cX7_cube 130 = .ok (.getfield 55, 3) := by decide +kernel
theorem dX7_cube_133 : decode cX7_cube 133 = .ok (.iload 4, 2) := by decide +kernel
theorem dX7_cube_135 : decode cX7_cube 135 = .ok (.iaload, 1) := by decide +kernel
theorem dX7_cube_136 : decode cX7_cube 136 = .ok (.goto 16, 3) := by decide +kernel
theorem dX7_cube_139 : decode cX7_cube 139 = .ok (.aload_n 0, 1) := by decide +kernel
theorem dX7_cube_140 : decode cX7_cube 140 = .ok (.getfield 58, 3) := by decide +kernel
theorem dX7_cube_143 : decode cX7_cube 143 = .ok (.iconst 2, 1) := by decide +kernel
theorem dX7_cube_144 : decode cX7_cube 144 = .ok (.iload 4, 2) := by decide +kernel
theorem dX7_cube_146 : decode cX7_cube 146 = .ok (.imul, 1) := by decide +kernel
theorem dX7_cube_147 : decode cX7_cube 147 = .ok (.iload_n 3, 1) := by decide +kernel
theorem dX7_cube_148 : decode cX7_cube 148 = .ok (.iadd, 1) := by decide +kernel
theorem dX7_cube_149 : decode cX7_cube 149 = .ok (.iconst 2, 1) := by decide +kernel
theorem dX7_cube_150 : decode cX7_cube 150 = .ok (.isub, 1) := by decide +kernel
theorem dX7_cube_151 : decode cX7_cube 151 = .ok (.iaload, 1) := by decide +kernel
theorem dX7_cube_152 : decode cX7_cube 152 = .ok (.ireturn, 1) := by decide +kernel
theorem dX7_node_0 : decode cX7_node 0 = .ok (.aload_n 0, 1) := by decide +kernel
theorem dX7_node_1 : decode cX7_node 1 = .ok (.iload_n 2, 1) := by decide +kernel
theorem dX7_node_2 : decode cX7_node 2 = .ok (.iconst 0, 1) := by decide +kernel
theorem dX7_node_3 : decode cX7_node 3 = .ok (.iconst 2, 1) := by decide +kernel
theorem dX7_node_4 : decode cX7_node 4 = .ok (.invokestatic 104, 3) := by decide +kernel
theorem dX7_node_7 : decode cX7_node 7 = .ok (.ifCond .ne 7, 3) := by decide +kernel
theorem dX7_node_10 : decode cX7_node 10 = .ok (.iconst 1, 1) := by decide +kernel
theorem dX7_node_11 : decode cX7_node 11 = .ok (.goto 38, 3) := by decide +kernel
theorem dX7_node_14 : decode cX7_node 14 = .ok (.aload_n 0, 1) := by decide +kernel
theorem dX7_node_15 : decode cX7_node 15 = .ok (.getfield 61, 3) := by decide +kernel
theorem dX7_node_18 : decode cX7_node 18 = .ok (.ifCond .lt 26, 3) := by decide +kernel
theorem dX7_node_21 : decode cX7_node 21 = .ok (.aload_n 0, 1) := by decide +kernel
theorem dX7_node_22 : decode cX7_node 22 = .ok (.getfield 151, 3) := by decide +kernel
theorem dX7_node_25 : decode cX7_node 25 = .ok (.bipush 40, 2) := by decide +kernel
theorem dX7_node_27 : decode cX7_node 27 = .ok (.if_icmp .gt 17, 3) := by decide +kernel
theorem dX7_node_30 : decode cX7_node 30 = .ok (.iload_n 1, 1) := by decide +kernel
theorem dX7_node_31 : decode cX7_node 31 = .ok (.iconst 0, 1) := by decide +kernel
theorem dX7_node_32 : decode cX7_node 32 = .ok (.aload_n 0, 1) := by decide +kernel
theorem dX7_node_33 : decode cX7_node 33 = .ok (.getfield 151, 3) := by decide +kernel
theorem dX7_node_36 : decode cX7_node 36 = .ok (.iconst 1, 1) := by decide +kernel
theorem dX7_node_37 : decode cX7_node 37 = .ok (.isub, 1) := by decide +kernel
theorem dX7_node_38 : decode cX7_node 38 = .ok (.invokestatic 104, 3) := by decide +kernel
theorem dX7_node_41 : decode cX7_node 41 = .ok (.ifCond .ne 7, 3) := by decide +kernel
theorem dX7_node_44 : decode cX7_node 44 = .ok (.iconst 2, 1) := by decide +kernel
theorem dX7_node_45 : decode cX7_node 45 = .ok (.goto 4, 3) := by decide +kernel
theorem dX7_node_48 : decode cX7_node 48 = .ok (.iconst 0, 1) := by decide +kernel
theorem dX7_node_49 : decode cX7_node 49 = .ok (.putfield 98, 3) := by decide +kernel
theorem dX7_node_52 : decode cX7_node 52 = .ok (.aload_n 0, 1) := by decide +kernel
theorem dX7_node_53 : decode cX7_node 53 = .ok (.getfield 98, 3) := by decide +kernel
theorem dX7_node_56 : decode cX7_node 56 = .ok (.ifCond .le 5, 3) := by decide +kernel
theorem dX7_node_59 : decode cX7_node 59 = .ok (.iconst 0, 1) := by decide +kernel
theorem dX7_node_60 : decode cX7_node 60 = .ok (.ireturn, 1) := by decide +kernel
theorem dX7_node_61 : decode cX7_node 61 = .ok (.iload_n 2, 1) := by decide +kernel
theorem dX7_node_62 : decode cX7_node 62 = .ok (.ifCond .ne 12, 3) := by decide +kernel
theorem dX7_node_65 : decode cX7_node 65 = .ok (.aload_n 0, 1) := by decide +kernel
theorem dX7_node_66 : decode cX7_node 66 = .ok (.getfield 80, 3) := by decide +kernel
theorem dX7_node_69 : decode cX7_node 69 = .ok (.iload_n 1, 1) := by decide +kernel
theorem dX7_node_70 : decode cX7_node 70 = .ok (.iaload, 1) := by decide +kernel
theorem dX7_node_71 : decode cX7_node 71 = .ok (.goto 23, 3) := by decide +kernel
theorem dX7_node_74 : decode cX7_node 74 = .ok (.iload_n 2, 1) := by decide +kernel
theorem dX7_node_75 : decode cX7_node 75 = .ok (.iconst 1, 1) := by decide +kernel
theorem dX7_node_76 : decode cX7_node 76 = .ok (.if_icmp .ne 12, 3) := by decide +kernel
theorem dX7_node_79 : decode cX7_node 79 = .ok (.aload_n 0, 1) := by decide +kernel
theorem dX7_node_80 : decode cX7_node 80 = .ok (.getfield 83, 3) := by decide +kernel
theorem dX7_node_83 : decode cX7_node 83 = .ok (.iload_n 1, 1) := by decide +kernel
theorem dX7_node_84 : decode cX7_node 84 = .ok (.iaload, 1) := by decide +kernel
theorem dX7_node_85 : decode cX7_node 85 = .ok (.goto 9, 3) := by decide +kernel
theorem dX7_node_88 : decode cX7_node 88 = .ok (.aload_n 0, 1) := by decide +kernel
theorem dX7_node_89 : decode cX7_node 89 = .ok (.getfield 89, 3) := by decide +kernel
theorem dX7_node_92 : decode cX7_node 92 = .ok (.iload_n 1, 1) := by decide +kernel
theorem dX7_node_93 : decode cX7_node 93 = .ok (.iaload, 1) := by decide +kernel
theorem dX7_node_94 : decode cX7_node 94 = .ok (.ireturn, 1) := by decide +kernel
theorem dL_relation_0 : decode cL_relation 0 = .ok (.aload_n 2, 1) := by decide +kernel
theorem dL_relation_1 : decode cL_relation 1 = .ok (.iconst 0, 1) := by decide +kernel
theorem dL_relation_2 : decode cL_relation 2 = .ok (.aload_n 0, 1) := by decide +kernel
theorem dL_relation_3 : decode cL_relation 3 = .ok (.iload_n 1, 1) := by decide +kernel
theorem dL_relation_4 : decode cL_relation 4 = .ok (.invokevirtual 7, 3) := by decide +kernel
theorem dL_relation_7 : decode cL_relation 7 = .ok (.i2l, 1) := by decide +kernel
theorem dL_relation_8 : decode cL_relation 8 = .ok (.lastore, 1) := by decide +kernel
theorem dL_relation_9 : decode cL_relation 9 = .ok (.goto 9, 3) := by decide +kernel
theorem dL_relation_12 : decode cL_relation 12 = .ok (.astore_n 3, 1) := by decide +kernel
theorem dL_relation_13 : decode cL_relation 13 = .ok (.iconst 1, 1) := by decide +kernel
theorem dL_relation_14 : decode cL_relation 14 = .ok (.ireturn, 1) := by decide +kernel
theorem dL_relation_15 : decode cL_relation 15 = .ok (.astore_n 3, 1) := by decide +kernel
theorem dL_relation_16 : decode cL_relation 16 = .ok (.iconst 2, 1) := by decide +kernel
theorem dL_relation_17 : decode cL_relation 17 = .ok (.ireturn, 1) := by decide +kernel
theorem dL_relation_18 : decode cL_relation 18 = .ok (.iconst 0, 1) := by decide +kernel
theorem dL_relation_19 : decode cL_relation 19 = .ok (.ireturn, 1) := by decide +kernel
theorem dL_mark_0 : decode cL_mark 0 = .ok (.aload 5, 2) := by decide +kernel
theorem dL_mark_2 : decode cL_mark 2 = .ok (.iconst 0, 1) := by decide +kernel
theorem dL_mark_3 : decode cL_mark 3 = .ok (.aload_n 0, 1) := by decide +kernel
theorem dL_mark_4 : decode cL_mark 4 = .ok (.iload_n 1, 1) := by decide +kernel
theorem dL_mark_5 : decode cL_mark 5 = .ok (.iload_n 2, 1) := by decide +kernel
theorem dL_mark_6 : decode cL_mark 6 = .ok (.iload_n 3, 1) := by decide +kernel
theorem dL_mark_7 : decode cL_mark 7 = .ok (.iload 4, 2) := by decide +kernel
theorem dL_mark_9 : decode cL_mark 9 = .ok (.invokevirtual 17, 3) := by decide +kernel
theorem dL_mark_12 : decode cL_mark 12 = .ok (.i2l, 1) := by decide +kernel
theorem dL_mark_13 : decode cL_mark 13 = .ok (.lastore, 1) := by decide +kernel
theorem dL_mark_14 : decode cL_mark 14 = .ok (.goto 11, 3) := by decide +kernel
theorem dL_mark_17 : decode cL_mark 17 = .ok (.astore 6, 2) := by decide +kernel
theorem dL_mark_19 : decode cL_mark 19 = .ok (.iconst 1, 1) := by decide +kernel
theorem dL_mark_20 : decode cL_mark 20 = .ok (.ireturn, 1) := by decide +kernel
theorem dL_mark_21 : decode cL_mark 21 = .ok (.astore 6, 2) := by decide +kernel
theorem dL_mark_23 : decode cL_mark 23 = .ok (.iconst 2, 1) := by decide +kernel
theorem dL_mark_24 : decode cL_mark 24 = .ok (.ireturn, 1) := by decide +kernel
theorem dL_mark_25 : decode cL_mark 25 = .ok (.iconst 0, 1) := by decide +kernel
theorem dL_mark_26 : decode cL_mark 26 = .ok (.ireturn, 1) := by decide +kernel
theorem dL_clause_0 : decode cL_clause 0 = .ok (.aload 4, 2) := by decide +kernel
theorem dL_clause_2 : decode cL_clause 2 = .ok (.iconst 0, 1) := by decide +kernel
theorem dL_clause_3 : decode cL_clause 3 = .ok (.aload_n 0, 1) := by decide +kernel
theorem dL_clause_4 : decode cL_clause 4 = .ok (.iload_n 1, 1) := by decide +kernel
theorem dL_clause_5 : decode cL_clause 5 = .ok (.iload_n 2, 1) := by decide +kernel
theorem dL_clause_6 : decode cL_clause 6 = .ok (.iload_n 3, 1) := by decide +kernel
theorem dL_clause_7 : decode cL_clause 7 = .ok (.invokevirtual 21, 3) := by decide +kernel
theorem dL_clause_10 : decode cL_clause 10 = .ok (.i2l, 1) := by decide +kernel
theorem dL_clause_11 : decode cL_clause 11 = .ok (.lastore, 1) := by decide +kernel
theorem dL_clause_12 : decode cL_clause 12 = .ok (.goto 11, 3) := by decide +kernel
theorem dL_clause_15 : decode cL_clause 15 = .ok (.astore 5, 2) := by decide +kernel
theorem dL_clause_17 : decode cL_clause 17 = .ok (.iconst 1, 1) := by decide +kernel
theorem dL_clause_18 : decode cL_clause 18 = .ok (.ireturn, 1) := by decide +kernel
theorem dL_clause_19 : decode cL_clause 19 = .ok (.astore 5, 2) := by decide +kernel
theorem dL_clause_21 : decode cL_clause 21 = .ok (.iconst 2, 1) := by decide +kernel
theorem dL_clause_22 : decode cL_clause 22 = .ok (.ireturn, 1) := by decide +kernel
theorem dL_clause_23 : decode cL_clause 23 = .ok (.iconst 0, 1) := by decide +kernel
theorem dL_clause_24 : decode cL_clause 24 = .ok (.ireturn, 1) := by decide +kernel
theorem dL_atom_0 : decode cL_atom 0 = .ok (.aload 4, 2) := by decide +kernel
theorem dL_atom_2 : decode cL_atom 2 = .ok (.iconst 0, 1) := by decide +kernel
theorem dL_atom_3 : decode cL_atom 3 = .ok (.aload_n 0, 1) := by decide +kernel
theorem dL_atom_4 : decode cL_atom 4 = .ok (.iload_n 1, 1) := by decide +kernel
theorem dL_atom_5 : decode cL_atom 5 = .ok (.iload_n 2, 1) := by decide +kernel
theorem dL_atom_6 : decode cL_atom 6 = .ok (.iload_n 3, 1) := by decide +kernel
theorem dL_atom_7 : decode cL_atom 7 = .ok (.invokevirtual 25, 3) := by decide +kernel
theorem dL_atom_10 : decode cL_atom 10 = .ok (.i2l, 1) := by decide +kernel
theorem dL_atom_11 : decode cL_atom 11 = .ok (.lastore, 1) := by decide +kernel
theorem dL_atom_12 : decode cL_atom 12 = .ok (.goto 11, 3) := by decide +kernel
theorem dL_atom_15 : decode cL_atom 15 = .ok (.astore 5, 2) := by decide +kernel
theorem dL_atom_17 : decode cL_atom 17 = .ok (.iconst 1, 1) := by decide +kernel
theorem dL_atom_18 : decode cL_atom 18 = .ok (.ireturn, 1) := by decide +kernel
theorem dL_atom_19 : decode cL_atom 19 = .ok (.astore 5, 2) := by decide +kernel
theorem dL_atom_21 : decode cL_atom 21 = .ok (.iconst 2, 1) := by decide +kernel
theorem dL_atom_22 : decode cL_atom 22 = .ok (.ireturn, 1) := by decide +kernel
theorem dL_atom_23 : decode cL_atom 23 = .ok (.iconst 0, 1) := by decide +kernel
theorem dL_atom_24 : decode cL_atom 24 = .ok (.ireturn, 1) := by decide +kernel
theorem dL_bound_0 : decode cL_bound 0 = .ok (.aload 4, 2) := by decide +kernel
theorem dL_bound_2 : decode cL_bound 2 = .ok (.iconst 0, 1) := by decide +kernel
theorem dL_bound_3 : decode cL_bound 3 = .ok (.aload_n 0, 1) := by decide +kernel
theorem dL_bound_4 : decode cL_bound 4 = .ok (.iload_n 1, 1) := by decide +kernel
theorem dL_bound_5 : decode cL_bound 5 = .ok (.iload_n 2, 1) := by decide +kernel
theorem dL_bound_6 : decode cL_bound 6 = .ok (.iload_n 3, 1) := by decide +kernel
theorem dL_bound_7 : decode cL_bound 7 = .ok (.invokevirtual 28, 3) := by decide +kernel
theorem dL_bound_10 : decode cL_bound 10 = .ok (.i2l, 1) := by decide +kernel
theorem dL_bound_11 : decode cL_bound 11 = .ok (.lastore, 1) := by decide +kernel
theorem dL_bound_12 : decode cL_bound 12 = .ok (.goto 11, 3) := by decide +kernel
theorem dL_bound_15 : decode cL_bound 15 = .ok (.astore 5, 2) := by decide +kernel
theorem dL_bound_17 : decode cL_bound 17 = .ok (.iconst 1, 1) := by decide +kernel
theorem dL_bound_18 : decode cL_bound 18 = .ok (.ireturn, 1) := by decide +kernel
theorem dL_bound_19 : decode cL_bound 19 = .ok (.astore 5, 2) := by decide +kernel
theorem dL_bound_21 : decode cL_bound 21 = .ok (.iconst 2, 1) := by decide +kernel
theorem dL_bound_22 : decode cL_bound 22 = .ok (.ireturn, 1) := by decide +kernel
theorem dL_bound_23 : decode cL_bound 23 = .ok (.iconst 0, 1) := by decide +kernel
theorem dL_bound_24 : decode cL_bound 24 = .ok (.ireturn, 1) := by decide +kernel
theorem dL_round_0 : decode cL_round 0 = .ok (.aload_n 1, 1) := by decide +kernel
theorem dL_round_1 : decode cL_round 1 = .ok (.iconst 0, 1) := by decide +kernel
theorem dL_round_2 : decode cL_round 2 = .ok (.aload_n 0, 1) := by decide +kernel
theorem dL_round_3 : decode cL_round 3 = .ok (.invokevirtual 31, 3) := by decide +kernel
theorem dL_round_6 : decode cL_round 6 = .ok (.i2l, 1) := by decide +kernel
theorem dL_round_7 : decode cL_round 7 = .ok (.lastore, 1) := by decide +kernel
theorem dL_round_8 : decode cL_round 8 = .ok (.goto 6, 3) := by decide +kernel
theorem dL_round_11 : decode cL_round 11 = .ok (.astore_n 2, 1) := by decide +kernel
theorem dL_round_12 : decode cL_round 12 = .ok (.iconst 1, 1) := by decide +kernel
theorem dL_round_13 : decode cL_round 13 = .ok (.ireturn, 1) := by decide +kernel
theorem dL_round_14 : decode cL_round 14 = .ok (.iconst 0, 1) := by decide +kernel
theorem dL_round_15 : decode cL_round 15 = .ok (.ireturn, 1) := by decide +kernel
theorem dL_refine_0 : decode cL_refine 0 = .ok (.aload_n 1, 1) := by decide +kernel
theorem dL_refine_1 : decode cL_refine 1 = .ok (.iconst 0, 1) := by decide +kernel
theorem dL_refine_2 : decode cL_refine 2 = .ok (.aload_n 0, 1) := by decide +kernel
theorem dL_refine_3 : decode cL_refine 3 = .ok (.invokevirtual 35, 3) := by decide +kernel
theorem dL_refine_6 : decode cL_refine 6 = .ok (.i2l, 1) := by decide +kernel
theorem dL_refine_7 : decode cL_refine 7 = .ok (.lastore, 1) := by decide +kernel
theorem dL_refine_8 : decode cL_refine 8 = .ok (.goto 6, 3) := by decide +kernel
theorem dL_refine_11 : decode cL_refine 11 = .ok (.astore_n 2, 1) := by decide +kernel
theorem dL_refine_12 : decode cL_refine 12 = .ok (.iconst 1, 1) := by decide +kernel
theorem dL_refine_13 : decode cL_refine 13 = .ok (.ireturn, 1) := by decide +kernel
theorem dL_refine_14 : decode cL_refine 14 = .ok (.iconst 0, 1) := by decide +kernel
theorem dL_refine_15 : decode cL_refine 15 = .ok (.ireturn, 1) := by decide +kernel
theorem dL_verify_0 : decode cL_verify 0 = .ok (.aload_n 2, 1) := by decide +kernel
theorem dL_verify_1 : decode cL_verify 1 = .ok (.iconst 0, 1) := by decide +kernel
theorem dL_verify_2 : decode cL_verify 2 = .ok (.aload_n 0, 1) := by decide +kernel
theorem dL_verify_3 : decode cL_verify 3 = .ok (.iload_n 1, 1) := by decide +kernel
theorem dL_verify_4 : decode cL_verify 4 = .ok (.invokevirtual 38, 3) := by decide +kernel
theorem dL_verify_7 : decode cL_verify 7 = .ok (.i2l, 1) := by decide +kernel
theorem dL_verify_8 : decode cL_verify 8 = .ok (.lastore, 1) := by decide +kernel
theorem dL_verify_9 : decode cL_verify 9 = .ok (.goto 6, 3) := by decide +kernel
theorem dL_verify_12 : decode cL_verify 12 = .ok (.astore_n 3, 1) := by decide +kernel
theorem dL_verify_13 : decode cL_verify 13 = .ok (.iconst 1, 1) := by decide +kernel
theorem dL_verify_14 : decode cL_verify 14 = .ok (.ireturn, 1) := by decide +kernel
theorem dL_verify_15 : decode cL_verify 15 = .ok (.iconst 0, 1) := by decide +kernel
theorem dL_verify_16 : decode cL_verify 16 = .ok (.ireturn, 1) := by decide +kernel
theorem dL_follows_0 : decode cL_follows 0 = .ok (.aload 4, 2) := by decide +kernel
theorem dL_follows_2 : decode cL_follows 2 = .ok (.iconst 0, 1) := by decide +kernel
theorem dL_follows_3 : decode cL_follows 3 = .ok (.aload_n 0, 1) := by decide +kernel
theorem dL_follows_4 : decode cL_follows 4 = .ok (.iload_n 1, 1) := by decide +kernel
theorem dL_follows_5 : decode cL_follows 5 = .ok (.iload_n 2, 1) := by decide +kernel
theorem dL_follows_6 : decode cL_follows 6 = .ok (.iload_n 3, 1) := by decide +kernel
theorem dL_follows_7 : decode cL_follows 7 = .ok (.invokevirtual 41, 3) := by decide +kernel
theorem dL_follows_10 : decode cL_follows 10 = .ok (.i2l, 1) := by decide +kernel
theorem dL_follows_11 : decode cL_follows 11 = .ok (.lastore, 1) := by decide +kernel
theorem dL_follows_12 : decode cL_follows 12 = .ok (.goto 15, 3) := by decide +kernel
theorem dL_follows_15 : decode cL_follows 15 = .ok (.astore 5, 2) := by decide +kernel
theorem dL_follows_17 : decode cL_follows 17 = .ok (.iconst 1, 1) := by decide +kernel
theorem dL_follows_18 : decode cL_follows 18 = .ok (.ireturn, 1) := by decide +kernel
theorem dL_follows_19 : decode cL_follows 19 = .ok (.astore 5, 2) := by decide +kernel
theorem dL_follows_21 : decode cL_follows 21 = .ok (.iconst 2, 1) := by decide +kernel
theorem dL_follows_22 : decode cL_follows 22 = .ok (.ireturn, 1) := by decide +kernel
theorem dL_follows_23 : decode cL_follows 23 = .ok (.astore 5, 2) := by decide +kernel
theorem dL_follows_25 : decode cL_follows 25 = .ok (.iconst 3, 1) := by decide +kernel
theorem dL_follows_26 : decode cL_follows 26 = .ok (.ireturn, 1) := by decide +kernel
theorem dL_follows_27 : decode cL_follows 27 = .ok (.iconst 0, 1) := by decide +kernel
theorem dL_follows_28 : decode cL_follows 28 = .ok (.ireturn, 1) := by decide +kernel
theorem dL_shown_0 : decode cL_shown 0 = .ok (.aload 4, 2) := by decide +kernel
theorem dL_shown_2 : decode cL_shown 2 = .ok (.iconst 0, 1) := by decide +kernel
theorem dL_shown_3 : decode cL_shown 3 = .ok (.aload_n 0, 1) := by decide +kernel
theorem dL_shown_4 : decode cL_shown 4 = .ok (.iload_n 1, 1) := by decide +kernel
theorem dL_shown_5 : decode cL_shown 5 = .ok (.iload_n 2, 1) := by decide +kernel
theorem dL_shown_6 : decode cL_shown 6 = .ok (.iload_n 3, 1) := by decide +kernel
theorem dL_shown_7 : decode cL_shown 7 = .ok (.invokevirtual 48, 3) := by decide +kernel
theorem dL_shown_10 : decode cL_shown 10 = .ok (.i2l, 1) := by decide +kernel
theorem dL_shown_11 : decode cL_shown 11 = .ok (.lastore, 1) := by decide +kernel
theorem dL_shown_12 : decode cL_shown 12 = .ok (.goto 11, 3) := by decide +kernel
theorem dL_shown_15 : decode cL_shown 15 = .ok (.astore 5, 2) := by decide +kernel
theorem dL_shown_17 : decode cL_shown 17 = .ok (.iconst 1, 1) := by decide +kernel
theorem dL_shown_18 : decode cL_shown 18 = .ok (.ireturn, 1) := by decide +kernel
theorem dL_shown_19 : decode cL_shown 19 = .ok (.astore 5, 2) := by decide +kernel
theorem dL_shown_21 : decode cL_shown 21 = .ok (.iconst 2, 1) := by decide +kernel
theorem dL_shown_22 : decode cL_shown 22 = .ok (.ireturn, 1) := by decide +kernel
theorem dL_shown_23 : decode cL_shown 23 = .ok (.iconst 0, 1) := by decide +kernel
theorem dL_shown_24 : decode cL_shown 24 = .ok (.ireturn, 1) := by decide +kernel
theorem dL_cube_0 : decode cL_cube 0 = .ok (.aload 4, 2) := by decide +kernel
theorem dL_cube_2 : decode cL_cube 2 = .ok (.iconst 0, 1) := by decide +kernel
theorem dL_cube_3 : decode cL_cube 3 = .ok (.aload_n 0, 1) := by decide +kernel
theorem dL_cube_4 : decode cL_cube 4 = .ok (.iload_n 1, 1) := by decide +kernel
theorem dL_cube_5 : decode cL_cube 5 = .ok (.iload_n 2, 1) := by decide +kernel
theorem dL_cube_6 : decode cL_cube 6 = .ok (.iload_n 3, 1) := by decide +kernel
theorem dL_cube_7 : decode cL_cube 7 = .ok (.invokevirtual 51, 3) := by decide +kernel
theorem dL_cube_10 : decode cL_cube 10 = .ok (.i2l, 1) := by decide +kernel
theorem dL_cube_11 : decode cL_cube 11 = .ok (.lastore, 1) := by decide +kernel
theorem dL_cube_12 : decode cL_cube 12 = .ok (.goto 7, 3) := by decide +kernel
theorem dL_cube_15 : decode cL_cube 15 = .ok (.astore 5, 2) := by decide +kernel
theorem dL_cube_17 : decode cL_cube 17 = .ok (.iconst 1, 1) := by decide +kernel
theorem dL_cube_18 : decode cL_cube 18 = .ok (.ireturn, 1) := by decide +kernel
theorem dL_cube_19 : decode cL_cube 19 = .ok (.iconst 0, 1) := by decide +kernel
theorem dL_cube_20 : decode cL_cube 20 = .ok (.ireturn, 1) := by decide +kernel
theorem dL_node_0 : decode cL_node 0 = .ok (.aload_n 3, 1) := by decide +kernel
theorem dL_node_1 : decode cL_node 1 = .ok (.iconst 0, 1) := by decide +kernel
theorem dL_node_2 : decode cL_node 2 = .ok (.aload_n 0, 1) := by decide +kernel
theorem dL_node_3 : decode cL_node 3 = .ok (.iload_n 1, 1) := by decide +kernel
theorem dL_node_4 : decode cL_node 4 = .ok (.iload_n 2, 1) := by decide +kernel
theorem dL_node_5 : decode cL_node 5 = .ok (.invokevirtual 54, 3) := by decide +kernel
theorem dL_node_8 : decode cL_node 8 = .ok (.i2l, 1) := by decide +kernel
theorem dL_node_9 : decode cL_node 9 = .ok (.lastore, 1) := by decide +kernel
theorem dL_node_10 : decode cL_node 10 = .ok (.goto 11, 3) := by decide +kernel
theorem dL_node_13 : decode cL_node 13 = .ok (.astore 4, 2) := by decide +kernel
theorem dL_node_15 : decode cL_node 15 = .ok (.iconst 1, 1) := by decide +kernel
theorem dL_node_16 : decode cL_node 16 = .ok (.ireturn, 1) := by decide +kernel
theorem dL_node_17 : decode cL_node 17 = .ok (.astore 4, 2) := by decide +kernel
theorem dL_node_19 : decode cL_node 19 = .ok (.iconst 2, 1) := by decide +kernel
theorem dL_node_20 : decode cL_node 20 = .ok (.ireturn, 1) := by decide +kernel
theorem dL_node_21 : decode cL_node 21 = .ok (.iconst 0, 1) := by decide +kernel
theorem dL_node_22 : decode cL_node 22 = .ok (.ireturn, 1) := by decide +kernel
theorem dL_law_0 : decode cL_law 0 = .ok (.new 8, 3) := by decide +kernel
theorem dL_law_3 : decode cL_law 3 = .ok (.dup, 1) := by decide +kernel
theorem dL_law_4 : decode cL_law 4 = .ok (.invokespecial 58, 3) := by decide +kernel
theorem dL_law_7 : decode cL_law 7 = .ok (.astore_n 1, 1) := by decide +kernel
theorem dL_law_8 : decode cL_law 8 = .ok (.new 59, 3) := by decide +kernel
theorem dL_law_11 : decode cL_law 11 = .ok (.dup, 1) := by decide +kernel
theorem dL_law_12 : decode cL_law 12 = .ok (.invokespecial 61, 3) := by decide +kernel
theorem dL_law_15 : decode cL_law 15 = .ok (.astore_n 2, 1) := by decide +kernel
theorem dL_law_16 : decode cL_law 16 = .ok (.iconst 1, 1) := by decide +kernel
theorem dL_law_17 : decode cL_law 17 = .ok (.newarray .long, 2) := by decide +kernel
theorem dL_law_19 : decode cL_law 19 = .ok (.astore_n 3, 1) := by decide +kernel
theorem dL_law_20 : decode cL_law 20 = .ok (.iconst 0, 1) := by decide +kernel
theorem dL_law_21 : decode cL_law 21 = .ok (.istore 4, 2) := by decide +kernel
theorem dL_law_23 : decode cL_law 23 = .ok (.iload 4, 2) := by decide +kernel
theorem dL_law_25 : decode cL_law 25 = .ok (.aload_n 0, 1) := by decide +kernel
theorem dL_law_26 : decode cL_law 26 = .ok (.arraylength, 1) := by decide +kernel
theorem dL_law_27 : decode cL_law 27 = .ok (.iconst 5, 1) := by decide +kernel
theorem dL_law_28 : decode cL_law 28 = .ok (.isub, 1) := by decide +kernel
theorem dL_law_29 : decode cL_law 29 = .ok (.if_icmp .gt 978, 3) := by decide +kernel
theorem dL_law_32 : decode cL_law 32 = .ok (.aload_n 0, 1) := by decide +kernel
theorem dL_law_33 : decode cL_law 33 = .ok (.iload 4, 2) := by decide +kernel
theorem dL_law_35 : decode cL_law 35 = .ok (.iaload, 1) := by decide +kernel
theorem dL_law_36 : decode cL_law 36 = .ok (.bipush 15, 2) := by decide +kernel
theorem dL_law_38 : decode cL_law 38 = .ok (.iand, 1) := by decide +kernel
theorem dL_law_39 : decode cL_law 39 = .ok (.tableswitch 962 0 14 #[73, 129, 221, 301, 381, 461, 505, 549, 605, 616, 629, 709, 734, 814, 894], 73) := by decide +kernel
theorem dL_law_112 : decode cL_law 112 = .ok (.aload_n 1, 1) := by decide +kernel
theorem dL_law_113 : decode cL_law 113 = .ok (.aload_n 0, 1) := by decide +kernel
theorem dL_law_114 : decode cL_law 114 = .ok (.iload 4, 2) := by decide +kernel
theorem dL_law_116 : decode cL_law 116 = .ok (.iconst 1, 1) := by decide +kernel
theorem dL_law_117 : decode cL_law 117 = .ok (.iadd, 1) := by decide +kernel
theorem dL_law_118 : decode cL_law 118 = .ok (.iaload, 1) := by decide +kernel
theorem dL_law_119 : decode cL_law 119 = .ok (.aload_n 3, 1) := by decide +kernel
theorem dL_law_120 : decode cL_law 120 = .ok (.invokestatic 62, 3) := by decide +kernel
theorem dL_law_123 : decode cL_law 123 = .ok (.istore 5, 2) := by decide +kernel
theorem dL_law_125 : decode cL_law 125 = .ok (.aload_n 2, 1) := by decide +kernel
theorem dL_law_126 : decode cL_law 126 = .ok (.aload_n 0, 1) := by decide +kernel
theorem dL_law_127 : decode cL_law 127 = .ok (.iload 4, 2) := by decide +kernel
theorem dL_law_129 : decode cL_law 129 = .ok (.iconst 1, 1) := by decide +kernel
theorem dL_law_130 : decode cL_law 130 = .ok (.iadd, 1) := by decide +kernel
theorem dL_law_131 : decode cL_law 131 = .ok (.iaload, 1) := by decide +kernel
theorem dL_law_132 : decode cL_law 132 = .ok (.invokevirtual 67, 3) := by decide +kernel
theorem dL_law_135 : decode cL_law 135 = .ok (.istore 6, 2) := by decide +kernel
theorem dL_law_137 : decode cL_law 137 = .ok (.aload_n 2, 1) := by decide +kernel
theorem dL_law_138 : decode cL_law 138 = .ok (.invokevirtual 68, 3) := by decide +kernel
theorem dL_law_141 : decode cL_law 141 = .ok (.iload 5, 2) := by decide +kernel
theorem dL_law_143 : decode cL_law 143 = .ok (.if_icmp .eq 5, 3) := by decide +kernel
theorem dL_law_146 : decode cL_law 146 = .ok (.iconst 0, 1) := by decide +kernel
theorem dL_law_147 : decode cL_law 147 = .ok (.ireturn, 1) := by decide +kernel
theorem dL_law_148 : decode cL_law 148 = .ok (.iload 5, 2) := by decide +kernel
theorem dL_law_150 : decode cL_law 150 = .ok (.ifCond .ne 15, 3) := by decide +kernel
theorem dL_law_153 : decode cL_law 153 = .ok (.aload_n 3, 1) := by decide +kernel
theorem dL_law_154 : decode cL_law 154 = .ok (.iconst 0, 1) := by decide +kernel
theorem dL_law_155 : decode cL_law 155 = .ok (.laload, 1) := by decide +kernel
theorem dL_law_156 : decode cL_law 156 = .ok (.iload 6, 2) := by decide +kernel
theorem dL_law_158 : decode cL_law 158 = .ok (.i2l, 1) := by decide +kernel
theorem dL_law_159 : decode cL_law 159 = .ok (.lcmp, 1) := by decide +kernel
theorem dL_law_160 : decode cL_law 160 = .ok (.ifCond .eq 5, 3) := by decide +kernel
theorem dL_law_163 : decode cL_law 163 = .ok (.iconst 0, 1) := by decide +kernel
theorem dL_law_164 : decode cL_law 164 = .ok (.ireturn, 1) := by decide +kernel
theorem dL_law_165 : decode cL_law 165 = .ok (.goto 836, 3) := by decide +kernel
theorem dL_law_168 : decode cL_law 168 = .ok (.aload_n 1, 1) := by decide +kernel
theorem dL_law_169 : decode cL_law 169 = .ok (.aload_n 0, 1) := by decide +kernel
theorem dL_law_170 : decode cL_law 170 = .ok (.iload 4, 2) := by decide +kernel
theorem dL_law_172 : decode cL_law 172 = .ok (.iconst 1, 1) := by decide +kernel
theorem dL_law_173 : decode cL_law 173 = .ok (.iadd, 1) := by decide +kernel
theorem dL_law_174 : decode cL_law 174 = .ok (.iaload, 1) := by decide +kernel
theorem dL_law_175 : decode cL_law 175 = .ok (.aload_n 0, 1) := by decide +kernel
theorem dL_law_176 : decode cL_law 176 = .ok (.iload 4, 2) := by decide +kernel
theorem dL_law_178 : decode cL_law 178 = .ok (.iconst 2, 1) := by decide +kernel
theorem dL_law_179 : decode cL_law 179 = .ok (.iadd, 1) := by decide +kernel
theorem dL_law_180 : decode cL_law 180 = .ok (.iaload, 1) := by decide +kernel
theorem dL_law_181 : decode cL_law 181 = .ok (.aload_n 0, 1) := by decide +kernel
theorem dL_law_182 : decode cL_law 182 = .ok (.iload 4, 2) := by decide +kernel
theorem dL_law_184 : decode cL_law 184 = .ok (.iconst 3, 1) := by decide +kernel
theorem dL_law_185 : decode cL_law 185 = .ok (.iadd, 1) := by decide +kernel
theorem dL_law_186 : decode cL_law 186 = .ok (.iaload, 1) := by decide +kernel
theorem dL_law_187 : decode cL_law 187 = .ok (.aload_n 0, 1) := by decide +kernel
theorem dL_law_188 : decode cL_law 188 = .ok (.iload 4, 2) := by decide +kernel
theorem dL_law_190 : decode cL_law 190 = .ok (.iconst 4, 1) := by decide +kernel
theorem dL_law_191 : decode cL_law 191 = .ok (.iadd, 1) := by decide +kernel
theorem dL_law_192 : decode cL_law 192 = .ok (.iaload, 1) := by decide +kernel
theorem dL_law_193 : decode cL_law 193 = .ok (.aload_n 3, 1) := by decide +kernel
theorem dL_law_194 : decode cL_law 194 = .ok (.invokestatic 71, 3) := by decide +kernel
theorem dL_law_197 : decode cL_law 197 = .ok (.istore 5, 2) := by decide +kernel
theorem dL_law_199 : decode cL_law 199 = .ok (.aload_n 2, 1) := by decide +kernel
theorem dL_law_200 : decode cL_law 200 = .ok (.aload_n 0, 1) := by decide +kernel
theorem dL_law_201 : decode cL_law 201 = .ok (.iload 4, 2) := by decide +kernel
theorem dL_law_203 : decode cL_law 203 = .ok (.iconst 1, 1) := by decide +kernel
theorem dL_law_204 : decode cL_law 204 = .ok (.iadd, 1) := by decide +kernel
theorem dL_law_205 : decode cL_law 205 = .ok (.iaload, 1) := by decide +kernel
theorem dL_law_206 : decode cL_law 206 = .ok (.aload_n 0, 1) := by decide +kernel
theorem dL_law_207 : decode cL_law 207 = .ok (.iload 4, 2) := by decide +kernel
theorem dL_law_209 : decode cL_law 209 = .ok (.iconst 2, 1) := by decide +kernel
theorem dL_law_210 : decode cL_law 210 = .ok (.iadd, 1) := by decide +kernel
theorem dL_law_211 : decode cL_law 211 = .ok (.iaload, 1) := by decide +kernel
theorem dL_law_212 : decode cL_law 212 = .ok (.aload_n 0, 1) := by decide +kernel
theorem dL_law_213 : decode cL_law 213 = .ok (.iload 4, 2) := by decide +kernel
theorem dL_law_215 : decode cL_law 215 = .ok (.iconst 3, 1) := by decide +kernel
theorem dL_law_216 : decode cL_law 216 = .ok (.iadd, 1) := by decide +kernel
theorem dL_law_217 : decode cL_law 217 = .ok (.iaload, 1) := by decide +kernel
theorem dL_law_218 : decode cL_law 218 = .ok (.aload_n 0, 1) := by decide +kernel
theorem dL_law_219 : decode cL_law 219 = .ok (.iload 4, 2) := by decide +kernel
theorem dL_law_221 : decode cL_law 221 = .ok (.iconst 4, 1) := by decide +kernel
theorem dL_law_222 : decode cL_law 222 = .ok (.iadd, 1) := by decide +kernel
theorem dL_law_223 : decode cL_law 223 = .ok (.iaload, 1) := by decide +kernel
theorem dL_law_224 : decode cL_law 224 = .ok (.invokevirtual 74, 3) := by decide +kernel
theorem dL_law_227 : decode cL_law 227 = .ok (.istore 6, 2) := by decide +kernel
theorem dL_law_229 : decode cL_law 229 = .ok (.aload_n 2, 1) := by decide +kernel
theorem dL_law_230 : decode cL_law 230 = .ok (.invokevirtual 68, 3) := by decide +kernel
theorem dL_law_233 : decode cL_law 233 = .ok (.iload 5, 2) := by decide +kernel
theorem dL_law_235 : decode cL_law 235 = .ok (.if_icmp .eq 5, 3) := by decide +kernel
theorem dL_law_238 : decode cL_law 238 = .ok (.iconst 0, 1) := by decide +kernel
theorem dL_law_239 : decode cL_law 239 = .ok (.ireturn, 1) := by decide +kernel
theorem dL_law_240 : decode cL_law 240 = .ok (.iload 5, 2) := by decide +kernel
theorem dL_law_242 : decode cL_law 242 = .ok (.ifCond .ne 15, 3) := by decide +kernel
theorem dL_law_245 : decode cL_law 245 = .ok (.aload_n 3, 1) := by decide +kernel
theorem dL_law_246 : decode cL_law 246 = .ok (.iconst 0, 1) := by decide +kernel
theorem dL_law_247 : decode cL_law 247 = .ok (.laload, 1) := by decide +kernel
theorem dL_law_248 : decode cL_law 248 = .ok (.iload 6, 2) := by decide +kernel
theorem dL_law_250 : decode cL_law 250 = .ok (.i2l, 1) := by decide +kernel
theorem dL_law_251 : decode cL_law 251 = .ok (.lcmp, 1) := by decide +kernel
theorem dL_law_252 : decode cL_law 252 = .ok (.ifCond .eq 5, 3) := by decide +kernel
theorem dL_law_255 : decode cL_law 255 = .ok (.iconst 0, 1) := by decide +kernel
theorem dL_law_256 : decode cL_law 256 = .ok (.ireturn, 1) := by decide +kernel
theorem dL_law_257 : decode cL_law 257 = .ok (.goto 744, 3) := by decide +kernel
theorem dL_law_260 : decode cL_law 260 = .ok (.aload_n 1, 1) := by decide +kernel
theorem dL_law_261 : decode cL_law 261 = .ok (.aload_n 0, 1) := by decide +kernel
theorem dL_law_262 : decode cL_law 262 = .ok (.iload 4, 2) := by decide +kernel
theorem dL_law_264 : decode cL_law 264 = .ok (.iconst 1, 1) := by decide +kernel
theorem dL_law_265 : decode cL_law 265 = .ok (.iadd, 1) := by decide +kernel
theorem dL_law_266 : decode cL_law 266 = .ok (.iaload, 1) := by decide +kernel
theorem dL_law_267 : decode cL_law 267 = .ok (.aload_n 0, 1) := by decide +kernel
theorem dL_law_268 : decode cL_law 268 = .ok (.iload 4, 2) := by decide +kernel
theorem dL_law_270 : decode cL_law 270 = .ok (.iconst 2, 1) := by decide +kernel
theorem dL_law_271 : decode cL_law 271 = .ok (.iadd, 1) := by decide +kernel
theorem dL_law_272 : decode cL_law 272 = .ok (.iaload, 1) := by decide +kernel
theorem dL_law_273 : decode cL_law 273 = .ok (.aload_n 0, 1) := by decide +kernel
theorem dL_law_274 : decode cL_law 274 = .ok (.iload 4, 2) := by decide +kernel
theorem dL_law_276 : decode cL_law 276 = .ok (.iconst 3, 1) := by decide +kernel
theorem dL_law_277 : decode cL_law 277 = .ok (.iadd, 1) := by decide +kernel
theorem dL_law_278 : decode cL_law 278 = .ok (.iaload, 1) := by decide +kernel
theorem dL_law_279 : decode cL_law 279 = .ok (.aload_n 3, 1) := by decide +kernel
theorem dL_law_280 : decode cL_law 280 = .ok (.invokestatic 75, 3) := by decide +kernel
theorem dL_law_283 : decode cL_law 283 = .ok (.istore 5, 2) := by decide +kernel
theorem dL_law_285 : decode cL_law 285 = .ok (.aload_n 2, 1) := by decide +kernel
theorem dL_law_286 : decode cL_law 286 = .ok (.aload_n 0, 1) := by decide +kernel
theorem dL_law_287 : decode cL_law 287 = .ok (.iload 4, 2) := by decide +kernel
theorem dL_law_289 : decode cL_law 289 = .ok (.iconst 1, 1) := by decide +kernel
theorem dL_law_290 : decode cL_law 290 = .ok (.iadd, 1) := by decide +kernel
theorem dL_law_291 : decode cL_law 291 = .ok (.iaload, 1) := by decide +kernel
theorem dL_law_292 : decode cL_law 292 = .ok (.aload_n 0, 1) := by decide +kernel
theorem dL_law_293 : decode cL_law 293 = .ok (.iload 4, 2) := by decide +kernel
theorem dL_law_295 : decode cL_law 295 = .ok (.iconst 2, 1) := by decide +kernel
theorem dL_law_296 : decode cL_law 296 = .ok (.iadd, 1) := by decide +kernel
theorem dL_law_297 : decode cL_law 297 = .ok (.iaload, 1) := by decide +kernel
theorem dL_law_298 : decode cL_law 298 = .ok (.aload_n 0, 1) := by decide +kernel
theorem dL_law_299 : decode cL_law 299 = .ok (.iload 4, 2) := by decide +kernel
theorem dL_law_301 : decode cL_law 301 = .ok (.iconst 3, 1) := by decide +kernel
theorem dL_law_302 : decode cL_law 302 = .ok (.iadd, 1) := by decide +kernel
theorem dL_law_303 : decode cL_law 303 = .ok (.iaload, 1) := by decide +kernel
theorem dL_law_304 : decode cL_law 304 = .ok (.invokevirtual 78, 3) := by decide +kernel
theorem dL_law_307 : decode cL_law 307 = .ok (.istore 6, 2) := by decide +kernel
theorem dL_law_309 : decode cL_law 309 = .ok (.aload_n 2, 1) := by decide +kernel
theorem dL_law_310 : decode cL_law 310 = .ok (.invokevirtual 68, 3) := by decide +kernel
theorem dL_law_313 : decode cL_law 313 = .ok (.iload 5, 2) := by decide +kernel
theorem dL_law_315 : decode cL_law 315 = .ok (.if_icmp .eq 5, 3) := by decide +kernel
theorem dL_law_318 : decode cL_law 318 = .ok (.iconst 0, 1) := by decide +kernel
theorem dL_law_319 : decode cL_law 319 = .ok (.ireturn, 1) := by decide +kernel
theorem dL_law_320 : decode cL_law 320 = .ok (.iload 5, 2) := by decide +kernel
theorem dL_law_322 : decode cL_law 322 = .ok (.ifCond .ne 15, 3) := by decide +kernel
theorem dL_law_325 : decode cL_law 325 = .ok (.aload_n 3, 1) := by decide +kernel
theorem dL_law_326 : decode cL_law 326 = .ok (.iconst 0, 1) := by decide +kernel
theorem dL_law_327 : decode cL_law 327 = .ok (.laload, 1) := by decide +kernel
theorem dL_law_328 : decode cL_law 328 = .ok (.iload 6, 2) := by decide +kernel
theorem dL_law_330 : decode cL_law 330 = .ok (.i2l, 1) := by decide +kernel
theorem dL_law_331 : decode cL_law 331 = .ok (.lcmp, 1) := by decide +kernel
theorem dL_law_332 : decode cL_law 332 = .ok (.ifCond .eq 5, 3) := by decide +kernel
theorem dL_law_335 : decode cL_law 335 = .ok (.iconst 0, 1) := by decide +kernel
theorem dL_law_336 : decode cL_law 336 = .ok (.ireturn, 1) := by decide +kernel
theorem dL_law_337 : decode cL_law 337 = .ok (.goto 664, 3) := by decide +kernel
theorem dL_law_340 : decode cL_law 340 = .ok (.aload_n 1, 1) := by decide +kernel
theorem dL_law_341 : decode cL_law 341 = .ok (.aload_n 0, 1) := by decide +kernel
theorem dL_law_342 : decode cL_law 342 = .ok (.iload 4, 2) := by decide +kernel
theorem dL_law_344 : decode cL_law 344 = .ok (.iconst 1, 1) := by decide +kernel
theorem dL_law_345 : decode cL_law 345 = .ok (.iadd, 1) := by decide +kernel
theorem dL_law_346 : decode cL_law 346 = .ok (.iaload, 1) := by decide +kernel
theorem dL_law_347 : decode cL_law 347 = .ok (.aload_n 0, 1) := by decide +kernel
theorem dL_law_348 : decode cL_law 348 = .ok (.iload 4, 2) := by decide +kernel
theorem dL_law_350 : decode cL_law 350 = .ok (.iconst 2, 1) := by decide +kernel
theorem dL_law_351 : decode cL_law 351 = .ok (.iadd, 1) := by decide +kernel
theorem dL_law_352 : decode cL_law 352 = .ok (.iaload, 1) := by decide +kernel
theorem dL_law_353 : decode cL_law 353 = .ok (.aload_n 0, 1) := by decide +kernel
theorem dL_law_354 : decode cL_law 354 = .ok (.iload 4, 2) := by decide +kernel
theorem dL_law_356 : decode cL_law 356 = .ok (.iconst 3, 1) := by decide +kernel
theorem dL_law_357 : decode cL_law 357 = .ok (.iadd, 1) := by decide +kernel
theorem dL_law_358 : decode cL_law 358 = .ok (.iaload, 1) := by decide +kernel
theorem dL_law_359 : decode cL_law 359 = .ok (.aload_n 3, 1) := by decide +kernel
theorem dL_law_360 : decode cL_law 360 = .ok (.invokestatic 79, 3) := by decide +kernel
theorem dL_law_363 : decode cL_law 363 = .ok (.istore 5, 2) := by decide +kernel
theorem dL_law_365 : decode cL_law 365 = .ok (.aload_n 2, 1) := by decide +kernel
theorem dL_law_366 : decode cL_law 366 = .ok (.aload_n 0, 1) := by decide +kernel
theorem dL_law_367 : decode cL_law 367 = .ok (.iload 4, 2) := by decide +kernel
theorem dL_law_369 : decode cL_law 369 = .ok (.iconst 1, 1) := by decide +kernel
theorem dL_law_370 : decode cL_law 370 = .ok (.iadd, 1) := by decide +kernel
theorem dL_law_371 : decode cL_law 371 = .ok (.iaload, 1) := by decide +kernel
theorem dL_law_372 : decode cL_law 372 = .ok (.aload_n 0, 1) := by decide +kernel
theorem dL_law_373 : decode cL_law 373 = .ok (.iload 4, 2) := by decide +kernel
theorem dL_law_375 : decode cL_law 375 = .ok (.iconst 2, 1) := by decide +kernel
theorem dL_law_376 : decode cL_law 376 = .ok (.iadd, 1) := by decide +kernel
theorem dL_law_377 : decode cL_law 377 = .ok (.iaload, 1) := by decide +kernel
theorem dL_law_378 : decode cL_law 378 = .ok (.aload_n 0, 1) := by decide +kernel
theorem dL_law_379 : decode cL_law 379 = .ok (.iload 4, 2) := by decide +kernel
theorem dL_law_381 : decode cL_law 381 = .ok (.iconst 3, 1) := by decide +kernel
theorem dL_law_382 : decode cL_law 382 = .ok (.iadd, 1) := by decide +kernel
theorem dL_law_383 : decode cL_law 383 = .ok (.iaload, 1) := by decide +kernel
theorem dL_law_384 : decode cL_law 384 = .ok (.invokevirtual 81, 3) := by decide +kernel
theorem dL_law_387 : decode cL_law 387 = .ok (.istore 6, 2) := by decide +kernel
theorem dL_law_389 : decode cL_law 389 = .ok (.aload_n 2, 1) := by decide +kernel
theorem dL_law_390 : decode cL_law 390 = .ok (.invokevirtual 68, 3) := by decide +kernel
theorem dL_law_393 : decode cL_law 393 = .ok (.iload 5, 2) := by decide +kernel
theorem dL_law_395 : decode cL_law 395 = .ok (.if_icmp .eq 5, 3) := by decide +kernel
theorem dL_law_398 : decode cL_law 398 = .ok (.iconst 0, 1) := by decide +kernel
theorem dL_law_399 : decode cL_law 399 = .ok (.ireturn, 1) := by decide +kernel
theorem dL_law_400 : decode cL_law 400 = .ok (.iload 5, 2) := by decide +kernel
theorem dL_law_402 : decode cL_law 402 = .ok (.ifCond .ne 15, 3) := by decide +kernel
theorem dL_law_405 : decode cL_law 405 = .ok (.aload_n 3, 1) := by decide +kernel
theorem dL_law_406 : decode cL_law 406 = .ok (.iconst 0, 1) := by decide +kernel
theorem dL_law_407 : decode cL_law 407 = .ok (.laload, 1) := by decide +kernel
theorem dL_law_408 : decode cL_law 408 = .ok (.iload 6, 2) := by decide +kernel
theorem dL_law_410 : decode cL_law 410 = .ok (.i2l, 1) := by decide +kernel
theorem dL_law_411 : decode cL_law 411 = .ok (.lcmp, 1) := by decide +kernel
theorem dL_law_412 : decode cL_law 412 = .ok (.ifCond .eq 5, 3) := by decide +kernel
theorem dL_law_415 : decode cL_law 415 = .ok (.iconst 0, 1) := by decide +kernel
theorem dL_law_416 : decode cL_law 416 = .ok (.ireturn, 1) := by decide +kernel
theorem dL_law_417 : decode cL_law 417 = .ok (.goto 584, 3) := by decide +kernel
theorem dL_law_420 : decode cL_law 420 = .ok (.aload_n 1, 1) := by decide +kernel
theorem dL_law_421 : decode cL_law 421 = .ok (.aload_n 0, 1) := by decide +kernel
theorem dL_law_422 : decode cL_law 422 = .ok (.iload 4, 2) := by decide +kernel
theorem dL_law_424 : decode cL_law 424 = .ok (.iconst 1, 1) := by decide +kernel
theorem dL_law_425 : decode cL_law 425 = .ok (.iadd, 1) := by decide +kernel
theorem dL_law_426 : decode cL_law 426 = .ok (.iaload, 1) := by decide +kernel
theorem dL_law_427 : decode cL_law 427 = .ok (.aload_n 0, 1) := by decide +kernel
theorem dL_law_428 : decode cL_law 428 = .ok (.iload 4, 2) := by decide +kernel
theorem dL_law_430 : decode cL_law 430 = .ok (.iconst 2, 1) := by decide +kernel
theorem dL_law_431 : decode cL_law 431 = .ok (.iadd, 1) := by decide +kernel
theorem dL_law_432 : decode cL_law 432 = .ok (.iaload, 1) := by decide +kernel
theorem dL_law_433 : decode cL_law 433 = .ok (.aload_n 0, 1) := by decide +kernel
theorem dL_law_434 : decode cL_law 434 = .ok (.iload 4, 2) := by decide +kernel
theorem dL_law_436 : decode cL_law 436 = .ok (.iconst 3, 1) := by decide +kernel
theorem dL_law_437 : decode cL_law 437 = .ok (.iadd, 1) := by decide +kernel
theorem dL_law_438 : decode cL_law 438 = .ok (.iaload, 1) := by decide +kernel
theorem dL_law_439 : decode cL_law 439 = .ok (.aload_n 3, 1) := by decide +kernel
theorem dL_law_440 : decode cL_law 440 = .ok (.invokestatic 82, 3) := by decide +kernel
theorem dL_law_443 : decode cL_law 443 = .ok (.istore 5, 2) := by decide +kernel
theorem dL_law_445 : decode cL_law 445 = .ok (.aload_n 2, 1) := by decide +kernel
theorem dL_law_446 : decode cL_law 446 = .ok (.aload_n 0, 1) := by decide +kernel
theorem dL_law_447 : decode cL_law 447 = .ok (.iload 4, 2) := by decide +kernel
theorem dL_law_449 : decode cL_law 449 = .ok (.iconst 1, 1) := by decide +kernel
theorem dL_law_450 : decode cL_law 450 = .ok (.iadd, 1) := by decide +kernel
theorem dL_law_451 : decode cL_law 451 = .ok (.iaload, 1) := by decide +kernel
theorem dL_law_452 : decode cL_law 452 = .ok (.aload_n 0, 1) := by decide +kernel
theorem dL_law_453 : decode cL_law 453 = .ok (.iload 4, 2) := by decide +kernel
theorem dL_law_455 : decode cL_law 455 = .ok (.iconst 2, 1) := by decide +kernel
theorem dL_law_456 : decode cL_law 456 = .ok (.iadd, 1) := by decide +kernel
theorem dL_law_457 : decode cL_law 457 = .ok (.iaload, 1) := by decide +kernel
theorem dL_law_458 : decode cL_law 458 = .ok (.aload_n 0, 1) := by decide +kernel
theorem dL_law_459 : decode cL_law 459 = .ok (.iload 4, 2) := by decide +kernel
theorem dL_law_461 : decode cL_law 461 = .ok (.iconst 3, 1) := by decide +kernel
theorem dL_law_462 : decode cL_law 462 = .ok (.iadd, 1) := by decide +kernel
theorem dL_law_463 : decode cL_law 463 = .ok (.iaload, 1) := by decide +kernel
theorem dL_law_464 : decode cL_law 464 = .ok (.invokevirtual 84, 3) := by decide +kernel
theorem dL_law_467 : decode cL_law 467 = .ok (.istore 6, 2) := by decide +kernel
theorem dL_law_469 : decode cL_law 469 = .ok (.aload_n 2, 1) := by decide +kernel
theorem dL_law_470 : decode cL_law 470 = .ok (.invokevirtual 68, 3) := by decide +kernel
theorem dL_law_473 : decode cL_law 473 = .ok (.iload 5, 2) := by decide +kernel
theorem dL_law_475 : decode cL_law 475 = .ok (.if_icmp .eq 5, 3) := by decide +kernel
theorem dL_law_478 : decode cL_law 478 = .ok (.iconst 0, 1) := by decide +kernel
theorem dL_law_479 : decode cL_law 479 = .ok (.ireturn, 1) := by decide +kernel
theorem dL_law_480 : decode cL_law 480 = .ok (.iload 5, 2) := by decide +kernel
theorem dL_law_482 : decode cL_law 482 = .ok (.ifCond .ne 15, 3) := by decide +kernel
theorem dL_law_485 : decode cL_law 485 = .ok (.aload_n 3, 1) := by decide +kernel
theorem dL_law_486 : decode cL_law 486 = .ok (.iconst 0, 1) := by decide +kernel
theorem dL_law_487 : decode cL_law 487 = .ok (.laload, 1) := by decide +kernel
theorem dL_law_488 : decode cL_law 488 = .ok (.iload 6, 2) := by decide +kernel
theorem dL_law_490 : decode cL_law 490 = .ok (.i2l, 1) := by decide +kernel
theorem dL_law_491 : decode cL_law 491 = .ok (.lcmp, 1) := by decide +kernel
theorem dL_law_492 : decode cL_law 492 = .ok (.ifCond .eq 5, 3) := by decide +kernel
theorem dL_law_495 : decode cL_law 495 = .ok (.iconst 0, 1) := by decide +kernel
theorem dL_law_496 : decode cL_law 496 = .ok (.ireturn, 1) := by decide +kernel
theorem dL_law_497 : decode cL_law 497 = .ok (.goto 504, 3) := by decide +kernel
theorem dL_law_500 : decode cL_law 500 = .ok (.aload_n 1, 1) := by decide +kernel
theorem dL_law_501 : decode cL_law 501 = .ok (.aload_n 3, 1) := by decide +kernel
theorem dL_law_502 : decode cL_law 502 = .ok (.invokestatic 85, 3) := by decide +kernel
theorem dL_law_505 : decode cL_law 505 = .ok (.istore 5, 2) := by decide +kernel
theorem dL_law_507 : decode cL_law 507 = .ok (.aload_n 2, 1) := by decide +kernel
theorem dL_law_508 : decode cL_law 508 = .ok (.invokevirtual 88, 3) := by decide +kernel
theorem dL_law_511 : decode cL_law 511 = .ok (.istore 6, 2) := by decide +kernel
theorem dL_law_513 : decode cL_law 513 = .ok (.aload_n 2, 1) := by decide +kernel
theorem dL_law_514 : decode cL_law 514 = .ok (.invokevirtual 68, 3) := by decide +kernel
theorem dL_law_517 : decode cL_law 517 = .ok (.iload 5, 2) := by decide +kernel
theorem dL_law_519 : decode cL_law 519 = .ok (.if_icmp .eq 5, 3) := by decide +kernel
theorem dL_law_522 : decode cL_law 522 = .ok (.iconst 0, 1) := by decide +kernel
theorem dL_law_523 : decode cL_law 523 = .ok (.ireturn, 1) := by decide +kernel
theorem dL_law_524 : decode cL_law 524 = .ok (.iload 5, 2) := by decide +kernel
theorem dL_law_526 : decode cL_law 526 = .ok (.ifCond .ne 15, 3) := by decide +kernel
theorem dL_law_529 : decode cL_law 529 = .ok (.aload_n 3, 1) := by decide +kernel
theorem dL_law_530 : decode cL_law 530 = .ok (.iconst 0, 1) := by decide +kernel
theorem dL_law_531 : decode cL_law 531 = .ok (.laload, 1) := by decide +kernel
theorem dL_law_532 : decode cL_law 532 = .ok (.iload 6, 2) := by decide +kernel
theorem dL_law_534 : decode cL_law 534 = .ok (.i2l, 1) := by decide +kernel
theorem dL_law_535 : decode cL_law 535 = .ok (.lcmp, 1) := by decide +kernel
theorem dL_law_536 : decode cL_law 536 = .ok (.ifCond .eq 5, 3) := by decide +kernel
theorem dL_law_539 : decode cL_law 539 = .ok (.iconst 0, 1) := by decide +kernel
theorem dL_law_540 : decode cL_law 540 = .ok (.ireturn, 1) := by decide +kernel
theorem dL_law_541 : decode cL_law 541 = .ok (.goto 460, 3) := by decide +kernel
theorem dL_law_544 : decode cL_law 544 = .ok (.aload_n 1, 1) := by decide +kernel
theorem dL_law_545 : decode cL_law 545 = .ok (.aload_n 3, 1) := by decide +kernel
theorem dL_law_546 : decode cL_law 546 = .ok (.invokestatic 89, 3) := by decide +kernel
theorem dL_law_549 : decode cL_law 549 = .ok (.istore 5, 2) := by decide +kernel
theorem dL_law_551 : decode cL_law 551 = .ok (.aload_n 2, 1) := by decide +kernel
theorem dL_law_552 : decode cL_law 552 = .ok (.invokevirtual 91, 3) := by decide +kernel
theorem dL_law_555 : decode cL_law 555 = .ok (.istore 6, 2) := by decide +kernel
theorem dL_law_557 : decode cL_law 557 = .ok (.aload_n 2, 1) := by decide +kernel
theorem dL_law_558 : decode cL_law 558 = .ok (.invokevirtual 68, 3) := by decide +kernel
theorem dL_law_561 : decode cL_law 561 = .ok (.iload 5, 2) := by decide +kernel
theorem dL_law_563 : decode cL_law 563 = .ok (.if_icmp .eq 5, 3) := by decide +kernel
theorem dL_law_566 : decode cL_law 566 = .ok (.iconst 0, 1) := by decide +kernel
theorem dL_law_567 : decode cL_law 567 = .ok (.ireturn, 1) := by decide +kernel
theorem dL_law_568 : decode cL_law 568 = .ok (.iload 5, 2) := by decide +kernel
theorem dL_law_570 : decode cL_law 570 = .ok (.ifCond .ne 15, 3) := by decide +kernel
theorem dL_law_573 : decode cL_law 573 = .ok (.aload_n 3, 1) := by decide +kernel
theorem dL_law_574 : decode cL_law 574 = .ok (.iconst 0, 1) := by decide +kernel
theorem dL_law_575 : decode cL_law 575 = .ok (.laload, 1) := by decide +kernel
theorem dL_law_576 : decode cL_law 576 = .ok (.iload 6, 2) := by decide +kernel
theorem dL_law_578 : decode cL_law 578 = .ok (.i2l, 1) := by decide +kernel
theorem dL_law_579 : decode cL_law 579 = .ok (.lcmp, 1) := by decide +kernel
theorem dL_law_580 : decode cL_law 580 = .ok (.ifCond .eq 5, 3) := by decide +kernel
theorem dL_law_583 : decode cL_law 583 = .ok (.iconst 0, 1) := by decide +kernel
theorem dL_law_584 : decode cL_law 584 = .ok (.ireturn, 1) := by decide +kernel
theorem dL_law_585 : decode cL_law 585 = .ok (.goto 416, 3) := by decide +kernel
theorem dL_law_588 : decode cL_law 588 = .ok (.aload_n 1, 1) := by decide +kernel
theorem dL_law_589 : decode cL_law 589 = .ok (.aload_n 0, 1) := by decide +kernel
theorem dL_law_590 : decode cL_law 590 = .ok (.iload 4, 2) := by decide +kernel
theorem dL_law_592 : decode cL_law 592 = .ok (.iconst 1, 1) := by decide +kernel
theorem dL_law_593 : decode cL_law 593 = .ok (.iadd, 1) := by decide +kernel
theorem dL_law_594 : decode cL_law 594 = .ok (.iaload, 1) := by decide +kernel
theorem dL_law_595 : decode cL_law 595 = .ok (.aload_n 3, 1) := by decide +kernel
theorem dL_law_596 : decode cL_law 596 = .ok (.invokestatic 92, 3) := by decide +kernel
theorem dL_law_599 : decode cL_law 599 = .ok (.istore 5, 2) := by decide +kernel
theorem dL_law_601 : decode cL_law 601 = .ok (.aload_n 2, 1) := by decide +kernel
theorem dL_law_602 : decode cL_law 602 = .ok (.aload_n 0, 1) := by decide +kernel
theorem dL_law_603 : decode cL_law 603 = .ok (.iload 4, 2) := by decide +kernel
theorem dL_law_605 : decode cL_law 605 = .ok (.iconst 1, 1) := by decide +kernel
theorem dL_law_606 : decode cL_law 606 = .ok (.iadd, 1) := by decide +kernel
theorem dL_law_607 : decode cL_law 607 = .ok (.iaload, 1) := by decide +kernel
theorem dL_law_608 : decode cL_law 608 = .ok (.invokevirtual 94, 3) := by decide +kernel
theorem dL_law_611 : decode cL_law 611 = .ok (.istore 6, 2) := by decide +kernel
theorem dL_law_613 : decode cL_law 613 = .ok (.aload_n 2, 1) := by decide +kernel
theorem dL_law_614 : decode cL_law 614 = .ok (.invokevirtual 68, 3) := by decide +kernel
theorem dL_law_617 : decode cL_law 617 = .ok (.iload 5, 2) := by decide +kernel
theorem dL_law_619 : decode cL_law 619 = .ok (.if_icmp .eq 5, 3) := by decide +kernel
theorem dL_law_622 : decode cL_law 622 = .ok (.iconst 0, 1) := by decide +kernel
theorem dL_law_623 : decode cL_law 623 = .ok (.ireturn, 1) := by decide +kernel
theorem dL_law_624 : decode cL_law 624 = .ok (.iload 5, 2) := by decide +kernel
theorem dL_law_626 : decode cL_law 626 = .ok (.ifCond .ne 15, 3) := by decide +kernel
theorem dL_law_629 : decode cL_law 629 = .ok (.aload_n 3, 1) := by decide +kernel
theorem dL_law_630 : decode cL_law 630 = .ok (.iconst 0, 1) := by decide +kernel
theorem dL_law_631 : decode cL_law 631 = .ok (.laload, 1) := by decide +kernel
theorem dL_law_632 : decode cL_law 632 = .ok (.iload 6, 2) := by decide +kernel
theorem dL_law_634 : decode cL_law 634 = .ok (.i2l, 1) := by decide +kernel
theorem dL_law_635 : decode cL_law 635 = .ok (.lcmp, 1) := by decide +kernel
theorem dL_law_636 : decode cL_law 636 = .ok (.ifCond .eq 5, 3) := by decide +kernel
theorem dL_law_639 : decode cL_law 639 = .ok (.iconst 0, 1) := by decide +kernel
theorem dL_law_640 : decode cL_law 640 = .ok (.ireturn, 1) := by decide +kernel
theorem dL_law_641 : decode cL_law 641 = .ok (.goto 360, 3) := by decide +kernel
theorem dL_law_644 : decode cL_law 644 = .ok (.aload_n 1, 1) := by decide +kernel
theorem dL_law_645 : decode cL_law 645 = .ok (.invokevirtual 95, 3) := by decide +kernel
theorem dL_law_648 : decode cL_law 648 = .ok (.aload_n 2, 1) := by decide +kernel
theorem dL_law_649 : decode cL_law 649 = .ok (.invokevirtual 98, 3) := by decide +kernel
theorem dL_law_652 : decode cL_law 652 = .ok (.goto 349, 3) := by decide +kernel
theorem dL_law_655 : decode cL_law 655 = .ok (.aload_n 1, 1) := by decide +kernel
theorem dL_law_656 : decode cL_law 656 = .ok (.invokevirtual 99, 3) := by decide +kernel
theorem dL_law_659 : decode cL_law 659 = .ok (.aload_n 2, 1) := by decide +kernel
theorem dL_law_660 : decode cL_law 660 = .ok (.invokevirtual 102, 3) := by decide +kernel
theorem dL_law_663 : decode cL_law 663 = .ok (.if_icmp .eq 338, 3) := by decide +kernel
theorem dL_law_666 : decode cL_law 666 = .ok (.iconst 0, 1) := by decide +kernel
theorem dL_law_667 : decode cL_law 667 = .ok (.ireturn, 1) := by decide +kernel
theorem dL_law_668 : decode cL_law 668 = .ok (.aload_n 1, 1) := by decide +kernel
theorem dL_law_669 : decode cL_law 669 = .ok (.aload_n 0, 1) := by decide +kernel
theorem dL_law_670 : decode cL_law 670 = .ok (.iload 4, 2) := by decide +kernel
theorem dL_law_672 : decode cL_law 672 = .ok (.iconst 1, 1) := by decide +kernel
theorem dL_law_673 : decode cL_law 673 = .ok (.iadd, 1) := by decide +kernel
theorem dL_law_674 : decode cL_law 674 = .ok (.iaload, 1) := by decide +kernel
theorem dL_law_675 : decode cL_law 675 = .ok (.aload_n 0, 1) := by decide +kernel
theorem dL_law_676 : decode cL_law 676 = .ok (.iload 4, 2) := by decide +kernel
theorem dL_law_678 : decode cL_law 678 = .ok (.iconst 2, 1) := by decide +kernel
theorem dL_law_679 : decode cL_law 679 = .ok (.iadd, 1) := by decide +kernel
theorem dL_law_680 : decode cL_law 680 = .ok (.iaload, 1) := by decide +kernel
theorem dL_law_681 : decode cL_law 681 = .ok (.aload_n 0, 1) := by decide +kernel
theorem dL_law_682 : decode cL_law 682 = .ok (.iload 4, 2) := by decide +kernel
theorem dL_law_684 : decode cL_law 684 = .ok (.iconst 3, 1) := by decide +kernel
theorem dL_law_685 : decode cL_law 685 = .ok (.iadd, 1) := by decide +kernel
theorem dL_law_686 : decode cL_law 686 = .ok (.iaload, 1) := by decide +kernel
theorem dL_law_687 : decode cL_law 687 = .ok (.aload_n 3, 1) := by decide +kernel
theorem dL_law_688 : decode cL_law 688 = .ok (.invokestatic 103, 3) := by decide +kernel
theorem dL_law_691 : decode cL_law 691 = .ok (.istore 5, 2) := by decide +kernel
theorem dL_law_693 : decode cL_law 693 = .ok (.aload_n 2, 1) := by decide +kernel
theorem dL_law_694 : decode cL_law 694 = .ok (.aload_n 0, 1) := by decide +kernel
theorem dL_law_695 : decode cL_law 695 = .ok (.iload 4, 2) := by decide +kernel
theorem dL_law_697 : decode cL_law 697 = .ok (.iconst 1, 1) := by decide +kernel
theorem dL_law_698 : decode cL_law 698 = .ok (.iadd, 1) := by decide +kernel
theorem dL_law_699 : decode cL_law 699 = .ok (.iaload, 1) := by decide +kernel
theorem dL_law_700 : decode cL_law 700 = .ok (.aload_n 0, 1) := by decide +kernel
theorem dL_law_701 : decode cL_law 701 = .ok (.iload 4, 2) := by decide +kernel
theorem dL_law_703 : decode cL_law 703 = .ok (.iconst 2, 1) := by decide +kernel
theorem dL_law_704 : decode cL_law 704 = .ok (.iadd, 1) := by decide +kernel
theorem dL_law_705 : decode cL_law 705 = .ok (.iaload, 1) := by decide +kernel
theorem dL_law_706 : decode cL_law 706 = .ok (.aload_n 0, 1) := by decide +kernel
theorem dL_law_707 : decode cL_law 707 = .ok (.iload 4, 2) := by decide +kernel
theorem dL_law_709 : decode cL_law 709 = .ok (.iconst 3, 1) := by decide +kernel
theorem dL_law_710 : decode cL_law 710 = .ok (.iadd, 1) := by decide +kernel
theorem dL_law_711 : decode cL_law 711 = .ok (.iaload, 1) := by decide +kernel
theorem dL_law_712 : decode cL_law 712 = .ok (.invokevirtual 105, 3) := by decide +kernel
theorem dL_law_715 : decode cL_law 715 = .ok (.istore 6, 2) := by decide +kernel
theorem dL_law_717 : decode cL_law 717 = .ok (.aload_n 2, 1) := by decide +kernel
theorem dL_law_718 : decode cL_law 718 = .ok (.invokevirtual 68, 3) := by decide +kernel
theorem dL_law_721 : decode cL_law 721 = .ok (.iload 5, 2) := by decide +kernel
theorem dL_law_723 : decode cL_law 723 = .ok (.if_icmp .eq 5, 3) := by decide +kernel
theorem dL_law_726 : decode cL_law 726 = .ok (.iconst 0, 1) := by decide +kernel
theorem dL_law_727 : decode cL_law 727 = .ok (.ireturn, 1) := by decide +kernel
theorem dL_law_728 : decode cL_law 728 = .ok (.iload 5, 2) := by decide +kernel
theorem dL_law_730 : decode cL_law 730 = .ok (.ifCond .ne 15, 3) := by decide +kernel
theorem dL_law_733 : decode cL_law 733 = .ok (.aload_n 3, 1) := by decide +kernel
theorem dL_law_734 : decode cL_law 734 = .ok (.iconst 0, 1) := by decide +kernel
theorem dL_law_735 : decode cL_law 735 = .ok (.laload, 1) := by decide +kernel
theorem dL_law_736 : decode cL_law 736 = .ok (.iload 6, 2) := by decide +kernel
theorem dL_law_738 : decode cL_law 738 = .ok (.i2l, 1) := by decide +kernel
theorem dL_law_739 : decode cL_law 739 = .ok (.lcmp, 1) := by decide +kernel
theorem dL_law_740 : decode cL_law 740 = .ok (.ifCond .eq 5, 3) := by decide +kernel
theorem dL_law_743 : decode cL_law 743 = .ok (.iconst 0, 1) := by decide +kernel
theorem dL_law_744 : decode cL_law 744 = .ok (.ireturn, 1) := by decide +kernel
theorem dL_law_745 : decode cL_law 745 = .ok (.goto 256, 3) := by decide +kernel
theorem dL_law_748 : decode cL_law 748 = .ok (.aload_n 1, 1) := by decide +kernel
theorem dL_law_749 : decode cL_law 749 = .ok (.aload_n 0, 1) := by decide +kernel
theorem dL_law_750 : decode cL_law 750 = .ok (.iload 4, 2) := by decide +kernel
theorem dL_law_752 : decode cL_law 752 = .ok (.iconst 1, 1) := by decide +kernel
theorem dL_law_753 : decode cL_law 753 = .ok (.iadd, 1) := by decide +kernel
theorem dL_law_754 : decode cL_law 754 = .ok (.iaload, 1) := by decide +kernel
theorem dL_law_755 : decode cL_law 755 = .ok (.invokevirtual 106, 3) := by decide +kernel
theorem dL_law_758 : decode cL_law 758 = .ok (.aload_n 2, 1) := by decide +kernel
theorem dL_law_759 : decode cL_law 759 = .ok (.aload_n 0, 1) := by decide +kernel
theorem dL_law_760 : decode cL_law 760 = .ok (.iload 4, 2) := by decide +kernel
theorem dL_law_762 : decode cL_law 762 = .ok (.iconst 1, 1) := by decide +kernel
theorem dL_law_763 : decode cL_law 763 = .ok (.iadd, 1) := by decide +kernel
theorem dL_law_764 : decode cL_law 764 = .ok (.iaload, 1) := by decide +kernel
theorem dL_law_765 : decode cL_law 765 = .ok (.invokevirtual 109, 3) := by decide +kernel
theorem dL_law_768 : decode cL_law 768 = .ok (.if_icmp .eq 233, 3) := by decide +kernel
theorem dL_law_771 : decode cL_law 771 = .ok (.iconst 0, 1) := by decide +kernel
theorem dL_law_772 : decode cL_law 772 = .ok (.ireturn, 1) := by decide +kernel
theorem dL_law_773 : decode cL_law 773 = .ok (.aload_n 1, 1) := by decide +kernel
theorem dL_law_774 : decode cL_law 774 = .ok (.aload_n 0, 1) := by decide +kernel
theorem dL_law_775 : decode cL_law 775 = .ok (.iload 4, 2) := by decide +kernel
theorem dL_law_777 : decode cL_law 777 = .ok (.iconst 1, 1) := by decide +kernel
theorem dL_law_778 : decode cL_law 778 = .ok (.iadd, 1) := by decide +kernel
theorem dL_law_779 : decode cL_law 779 = .ok (.iaload, 1) := by decide +kernel
theorem dL_law_780 : decode cL_law 780 = .ok (.aload_n 0, 1) := by decide +kernel
theorem dL_law_781 : decode cL_law 781 = .ok (.iload 4, 2) := by decide +kernel
theorem dL_law_783 : decode cL_law 783 = .ok (.iconst 2, 1) := by decide +kernel
theorem dL_law_784 : decode cL_law 784 = .ok (.iadd, 1) := by decide +kernel
theorem dL_law_785 : decode cL_law 785 = .ok (.iaload, 1) := by decide +kernel
theorem dL_law_786 : decode cL_law 786 = .ok (.aload_n 0, 1) := by decide +kernel
theorem dL_law_787 : decode cL_law 787 = .ok (.iload 4, 2) := by decide +kernel
theorem dL_law_789 : decode cL_law 789 = .ok (.iconst 3, 1) := by decide +kernel
theorem dL_law_790 : decode cL_law 790 = .ok (.iadd, 1) := by decide +kernel
theorem dL_law_791 : decode cL_law 791 = .ok (.iaload, 1) := by decide +kernel
theorem dL_law_792 : decode cL_law 792 = .ok (.aload_n 3, 1) := by decide +kernel
theorem dL_law_793 : decode cL_law 793 = .ok (.invokestatic 110, 3) := by decide +kernel
theorem dL_law_796 : decode cL_law 796 = .ok (.istore 5, 2) := by decide +kernel
theorem dL_law_798 : decode cL_law 798 = .ok (.aload_n 2, 1) := by decide +kernel
theorem dL_law_799 : decode cL_law 799 = .ok (.aload_n 0, 1) := by decide +kernel
theorem dL_law_800 : decode cL_law 800 = .ok (.iload 4, 2) := by decide +kernel
theorem dL_law_802 : decode cL_law 802 = .ok (.iconst 1, 1) := by decide +kernel
theorem dL_law_803 : decode cL_law 803 = .ok (.iadd, 1) := by decide +kernel
theorem dL_law_804 : decode cL_law 804 = .ok (.iaload, 1) := by decide +kernel
theorem dL_law_805 : decode cL_law 805 = .ok (.aload_n 0, 1) := by decide +kernel
theorem dL_law_806 : decode cL_law 806 = .ok (.iload 4, 2) := by decide +kernel
theorem dL_law_808 : decode cL_law 808 = .ok (.iconst 2, 1) := by decide +kernel
theorem dL_law_809 : decode cL_law 809 = .ok (.iadd, 1) := by decide +kernel
theorem dL_law_810 : decode cL_law 810 = .ok (.iaload, 1) := by decide +kernel
theorem dL_law_811 : decode cL_law 811 = .ok (.aload_n 0, 1) := by decide +kernel
theorem dL_law_812 : decode cL_law 812 = .ok (.iload 4, 2) := by decide +kernel
theorem dL_law_814 : decode cL_law 814 = .ok (.iconst 3, 1) := by decide +kernel
theorem dL_law_815 : decode cL_law 815 = .ok (.iadd, 1) := by decide +kernel
theorem dL_law_816 : decode cL_law 816 = .ok (.iaload, 1) := by decide +kernel
theorem dL_law_817 : decode cL_law 817 = .ok (.invokevirtual 112, 3) := by decide +kernel
theorem dL_law_820 : decode cL_law 820 = .ok (.istore 6, 2) := by decide +kernel
theorem dL_law_822 : decode cL_law 822 = .ok (.aload_n 2, 1) := by decide +kernel
theorem dL_law_823 : decode cL_law 823 = .ok (.invokevirtual 68, 3) := by decide +kernel
theorem dL_law_826 : decode cL_law 826 = .ok (.iload 5, 2) := by decide +kernel
theorem dL_law_828 : decode cL_law 828 = .ok (.if_icmp .eq 5, 3) := by decide +kernel
theorem dL_law_831 : decode cL_law 831 = .ok (.iconst 0, 1) := by decide +kernel
theorem dL_law_832 : decode cL_law 832 = .ok (.ireturn, 1) := by decide +kernel
theorem dL_law_833 : decode cL_law 833 = .ok (.iload 5, 2) := by decide +kernel
theorem dL_law_835 : decode cL_law 835 = .ok (.ifCond .ne 15, 3) := by decide +kernel
theorem dL_law_838 : decode cL_law 838 = .ok (.aload_n 3, 1) := by decide +kernel
theorem dL_law_839 : decode cL_law 839 = .ok (.iconst 0, 1) := by decide +kernel
theorem dL_law_840 : decode cL_law 840 = .ok (.laload, 1) := by decide +kernel
theorem dL_law_841 : decode cL_law 841 = .ok (.iload 6, 2) := by decide +kernel
theorem dL_law_843 : decode cL_law 843 = .ok (.i2l, 1) := by decide +kernel
theorem dL_law_844 : decode cL_law 844 = .ok (.lcmp, 1) := by decide +kernel
theorem dL_law_845 : decode cL_law 845 = .ok (.ifCond .eq 5, 3) := by decide +kernel
theorem dL_law_848 : decode cL_law 848 = .ok (.iconst 0, 1) := by decide +kernel
theorem dL_law_849 : decode cL_law 849 = .ok (.ireturn, 1) := by decide +kernel
theorem dL_law_850 : decode cL_law 850 = .ok (.goto 151, 3) := by decide +kernel
theorem dL_law_853 : decode cL_law 853 = .ok (.aload_n 1, 1) := by decide +kernel
theorem dL_law_854 : decode cL_law 854 = .ok (.aload_n 0, 1) := by decide +kernel
theorem dL_law_855 : decode cL_law 855 = .ok (.iload 4, 2) := by decide +kernel
theorem dL_law_857 : decode cL_law 857 = .ok (.iconst 1, 1) := by decide +kernel
theorem dL_law_858 : decode cL_law 858 = .ok (.iadd, 1) := by decide +kernel
theorem dL_law_859 : decode cL_law 859 = .ok (.iaload, 1) := by decide +kernel
theorem dL_law_860 : decode cL_law 860 = .ok (.aload_n 0, 1) := by decide +kernel
theorem dL_law_861 : decode cL_law 861 = .ok (.iload 4, 2) := by decide +kernel
theorem dL_law_863 : decode cL_law 863 = .ok (.iconst 2, 1) := by decide +kernel
theorem dL_law_864 : decode cL_law 864 = .ok (.iadd, 1) := by decide +kernel
theorem dL_law_865 : decode cL_law 865 = .ok (.iaload, 1) := by decide +kernel
theorem dL_law_866 : decode cL_law 866 = .ok (.aload_n 0, 1) := by decide +kernel
theorem dL_law_867 : decode cL_law 867 = .ok (.iload 4, 2) := by decide +kernel
theorem dL_law_869 : decode cL_law 869 = .ok (.iconst 3, 1) := by decide +kernel
theorem dL_law_870 : decode cL_law 870 = .ok (.iadd, 1) := by decide +kernel
theorem dL_law_871 : decode cL_law 871 = .ok (.iaload, 1) := by decide +kernel
theorem dL_law_872 : decode cL_law 872 = .ok (.aload_n 3, 1) := by decide +kernel
theorem dL_law_873 : decode cL_law 873 = .ok (.invokestatic 113, 3) := by decide +kernel
theorem dL_law_876 : decode cL_law 876 = .ok (.istore 5, 2) := by decide +kernel
theorem dL_law_878 : decode cL_law 878 = .ok (.aload_n 2, 1) := by decide +kernel
theorem dL_law_879 : decode cL_law 879 = .ok (.aload_n 0, 1) := by decide +kernel
theorem dL_law_880 : decode cL_law 880 = .ok (.iload 4, 2) := by decide +kernel
theorem dL_law_882 : decode cL_law 882 = .ok (.iconst 1, 1) := by decide +kernel
theorem dL_law_883 : decode cL_law 883 = .ok (.iadd, 1) := by decide +kernel
theorem dL_law_884 : decode cL_law 884 = .ok (.iaload, 1) := by decide +kernel
theorem dL_law_885 : decode cL_law 885 = .ok (.aload_n 0, 1) := by decide +kernel
theorem dL_law_886 : decode cL_law 886 = .ok (.iload 4, 2) := by decide +kernel
theorem dL_law_888 : decode cL_law 888 = .ok (.iconst 2, 1) := by decide +kernel
theorem dL_law_889 : decode cL_law 889 = .ok (.iadd, 1) := by decide +kernel
theorem dL_law_890 : decode cL_law 890 = .ok (.iaload, 1) := by decide +kernel
theorem dL_law_891 : decode cL_law 891 = .ok (.aload_n 0, 1) := by decide +kernel
theorem dL_law_892 : decode cL_law 892 = .ok (.iload 4, 2) := by decide +kernel
theorem dL_law_894 : decode cL_law 894 = .ok (.iconst 3, 1) := by decide +kernel
theorem dL_law_895 : decode cL_law 895 = .ok (.iadd, 1) := by decide +kernel
theorem dL_law_896 : decode cL_law 896 = .ok (.iaload, 1) := by decide +kernel
theorem dL_law_897 : decode cL_law 897 = .ok (.invokevirtual 115, 3) := by decide +kernel
theorem dL_law_900 : decode cL_law 900 = .ok (.istore 6, 2) := by decide +kernel
theorem dL_law_902 : decode cL_law 902 = .ok (.aload_n 2, 1) := by decide +kernel
theorem dL_law_903 : decode cL_law 903 = .ok (.invokevirtual 68, 3) := by decide +kernel
theorem dL_law_906 : decode cL_law 906 = .ok (.iload 5, 2) := by decide +kernel
theorem dL_law_908 : decode cL_law 908 = .ok (.if_icmp .eq 5, 3) := by decide +kernel
theorem dL_law_911 : decode cL_law 911 = .ok (.iconst 0, 1) := by decide +kernel
theorem dL_law_912 : decode cL_law 912 = .ok (.ireturn, 1) := by decide +kernel
theorem dL_law_913 : decode cL_law 913 = .ok (.iload 5, 2) := by decide +kernel
theorem dL_law_915 : decode cL_law 915 = .ok (.ifCond .ne 15, 3) := by decide +kernel
theorem dL_law_918 : decode cL_law 918 = .ok (.aload_n 3, 1) := by decide +kernel
theorem dL_law_919 : decode cL_law 919 = .ok (.iconst 0, 1) := by decide +kernel
theorem dL_law_920 : decode cL_law 920 = .ok (.laload, 1) := by decide +kernel
theorem dL_law_921 : decode cL_law 921 = .ok (.iload 6, 2) := by decide +kernel
theorem dL_law_923 : decode cL_law 923 = .ok (.i2l, 1) := by decide +kernel
theorem dL_law_924 : decode cL_law 924 = .ok (.lcmp, 1) := by decide +kernel
theorem dL_law_925 : decode cL_law 925 = .ok (.ifCond .eq 5, 3) := by decide +kernel
theorem dL_law_928 : decode cL_law 928 = .ok (.iconst 0, 1) := by decide +kernel
theorem dL_law_929 : decode cL_law 929 = .ok (.ireturn, 1) := by decide +kernel
theorem dL_law_930 : decode cL_law 930 = .ok (.goto 71, 3) := by decide +kernel
theorem dL_law_933 : decode cL_law 933 = .ok (.aload_n 1, 1) := by decide +kernel
theorem dL_law_934 : decode cL_law 934 = .ok (.aload_n 0, 1) := by decide +kernel
theorem dL_law_935 : decode cL_law 935 = .ok (.iload 4, 2) := by decide +kernel
theorem dL_law_937 : decode cL_law 937 = .ok (.iconst 1, 1) := by decide +kernel
theorem dL_law_938 : decode cL_law 938 = .ok (.iadd, 1) := by decide +kernel
theorem dL_law_939 : decode cL_law 939 = .ok (.iaload, 1) := by decide +kernel
theorem dL_law_940 : decode cL_law 940 = .ok (.aload_n 0, 1) := by decide +kernel
theorem dL_law_941 : decode cL_law 941 = .ok (.iload 4, 2) := by decide +kernel
theorem dL_law_943 : decode cL_law 943 = .ok (.iconst 2, 1) := by decide +kernel
theorem dL_law_944 : decode cL_law 944 = .ok (.iadd, 1) := by decide +kernel
theorem dL_law_945 : decode cL_law 945 = .ok (.iaload, 1) := by decide +kernel
theorem dL_law_946 : decode cL_law 946 = .ok (.aload_n 3, 1) := by decide +kernel
theorem dL_law_947 : decode cL_law 947 = .ok (.invokestatic 116, 3) := by decide +kernel
theorem dL_law_950 : decode cL_law 950 = .ok (.istore 5, 2) := by decide +kernel
theorem dL_law_952 : decode cL_law 952 = .ok (.aload_n 2, 1) := by decide +kernel
theorem dL_law_953 : decode cL_law 953 = .ok (.aload_n 0, 1) := by decide +kernel
theorem dL_law_954 : decode cL_law 954 = .ok (.iload 4, 2) := by decide +kernel
theorem dL_law_956 : decode cL_law 956 = .ok (.iconst 1, 1) := by decide +kernel
theorem dL_law_957 : decode cL_law 957 = .ok (.iadd, 1) := by decide +kernel
theorem dL_law_958 : decode cL_law 958 = .ok (.iaload, 1) := by decide +kernel
theorem dL_law_959 : decode cL_law 959 = .ok (.aload_n 0, 1) := by decide +kernel
theorem dL_law_960 : decode cL_law 960 = .ok (.iload 4, 2) := by decide +kernel
theorem dL_law_962 : decode cL_law 962 = .ok (.iconst 2, 1) := by decide +kernel
theorem dL_law_963 : decode cL_law 963 = .ok (.iadd, 1) := by decide +kernel
theorem dL_law_964 : decode cL_law 964 = .ok (.iaload, 1) := by decide +kernel
theorem dL_law_965 : decode cL_law 965 = .ok (.invokevirtual 119, 3) := by decide +kernel
theorem dL_law_968 : decode cL_law 968 = .ok (.istore 6, 2) := by decide +kernel
theorem dL_law_970 : decode cL_law 970 = .ok (.aload_n 2, 1) := by decide +kernel
theorem dL_law_971 : decode cL_law 971 = .ok (.invokevirtual 68, 3) := by decide +kernel
theorem dL_law_974 : decode cL_law 974 = .ok (.iload 5, 2) := by decide +kernel
theorem dL_law_976 : decode cL_law 976 = .ok (.if_icmp .eq 5, 3) := by decide +kernel
theorem dL_law_979 : decode cL_law 979 = .ok (.iconst 0, 1) := by decide +kernel
theorem dL_law_980 : decode cL_law 980 = .ok (.ireturn, 1) := by decide +kernel
theorem dL_law_981 : decode cL_law 981 = .ok (.iload 5, 2) := by decide +kernel
theorem dL_law_983 : decode cL_law 983 = .ok (.ifCond .ne 15, 3) := by decide +kernel
theorem dL_law_986 : decode cL_law 986 = .ok (.aload_n 3, 1) := by decide +kernel
theorem dL_law_987 : decode cL_law 987 = .ok (.iconst 0, 1) := by decide +kernel
theorem dL_law_988 : decode cL_law 988 = .ok (.laload, 1) := by decide +kernel
theorem dL_law_989 : decode cL_law 989 = .ok (.iload 6, 2) := by decide +kernel
theorem dL_law_991 : decode cL_law 991 = .ok (.i2l, 1) := by decide +kernel
theorem dL_law_992 : decode cL_law 992 = .ok (.lcmp, 1) := by decide +kernel
theorem dL_law_993 : decode cL_law 993 = .ok (.ifCond .eq 5, 3) := by decide +kernel
theorem dL_law_996 : decode cL_law 996 = .ok (.iconst 0, 1) := by decide +kernel
theorem dL_law_997 : decode cL_law 997 = .ok (.ireturn, 1) := by decide +kernel
theorem dL_law_998 : decode cL_law 998 = .ok (.goto 3, 3) := by decide +kernel
theorem dL_law_1001 : decode cL_law 1001 = .ok (.iinc 4 5, 3) := by decide +kernel
theorem dL_law_1004 : decode cL_law 1004 = .ok (.goto (-981), 3) := by decide +kernel
theorem dL_law_1007 : decode cL_law 1007 = .ok (.iconst 1, 1) := by decide +kernel
theorem dL_law_1008 : decode cL_law 1008 = .ok (.ireturn, 1) := by decide +kernel

