theorem dX6_reachBy_61 : decode cX6_reachBy 61 = .ok (.ireturn, 1) := by decide +kernel
theorem dX6_reachCubes_0 : decode cX6_reachCubes 0 = .ok (.aload_n 0, 1) := by decide +kernel
theorem dX6_reachCubes_1 : decode cX6_reachCubes 1 = .ok (.getfield 17, 3) := by decide +kernel
theorem dX6_reachCubes_4 : decode cX6_reachCubes 4 = .ok (.iload_n 1, 1) := by decide +kernel
theorem dX6_reachCubes_5 : decode cX6_reachCubes 5 = .ok (.aaload, 1) := by decide +kernel
theorem dX6_reachCubes_6 : decode cX6_reachCubes 6 = .ok (.astore_n 3, 1) := by decide +kernel
theorem dX6_reachCubes_7 : decode cX6_reachCubes 7 = .ok (.aload_n 0, 1) := by decide +kernel
theorem dX6_reachCubes_8 : decode cX6_reachCubes 8 = .ok (.getfield 11, 3) := by decide +kernel
theorem dX6_reachCubes_11 : decode cX6_reachCubes 11 = .ok (.aload_n 3, 1) := by decide +kernel
theorem dX6_reachCubes_12 : decode cX6_reachCubes 12 = .ok (.getfield 103, 3) := by decide +kernel
theorem dX6_reachCubes_15 : decode cX6_reachCubes 15 = .ok (.getfield 247, 3) := by decide +kernel
theorem dX6_reachCubes_18 : decode cX6_reachCubes 18 = .ok (.aaload, 1) := by decide +kernel
theorem dX6_reachCubes_19 : decode cX6_reachCubes 19 = .ok (.astore 4, 2) := by decide +kernel
theorem dX6_reachCubes_21 : decode cX6_reachCubes 21 = .ok (.iconst 0, 1) := by decide +kernel
theorem dX6_reachCubes_22 : decode cX6_reachCubes 22 = .ok (.istore 5, 2) := by decide +kernel
theorem dX6_reachCubes_24 : decode cX6_reachCubes 24 = .ok (.iconst 0, 1) := by decide +kernel
theorem dX6_reachCubes_25 : decode cX6_reachCubes 25 = .ok (.istore 6, 2) := by decide +kernel
theorem dX6_reachCubes_27 : decode cX6_reachCubes 27 = .ok (.iload 6, 2) := by decide +kernel
theorem dX6_reachCubes_29 : decode cX6_reachCubes 29 = .ok (.aload 4, 2) := by decide +kernel
theorem dX6_reachCubes_31 : decode cX6_reachCubes 31 = .ok (.invokevirtual 201, 3) := by decide +kernel
theorem dX6_reachCubes_34 : decode cX6_reachCubes 34 = .ok (.if_icmp .ge 76, 3) := by decide +kernel
theorem dX6_reachCubes_37 : decode cX6_reachCubes 37 = .ok (.aload_n 0, 1) := by decide +kernel
theorem dX6_reachCubes_38 : decode cX6_reachCubes 38 = .ok (.aload_n 3, 1) := by decide +kernel
theorem dX6_reachCubes_39 : decode cX6_reachCubes 39 = .ok (.getfield 103, 3) := by decide +kernel
theorem dX6_reachCubes_42 : decode cX6_reachCubes 42 = .ok (.iload 6, 2) := by decide +kernel
theorem dX6_reachCubes_44 : decode cX6_reachCubes 44 = .ok (.invokevirtual 280, 3) := by decide +kernel
theorem dX6_reachCubes_47 : decode cX6_reachCubes 47 = .ok (.ifCond .eq 57, 3) := by decide +kernel
theorem dX6_reachCubes_50 : decode cX6_reachCubes 50 = .ok (.aload 4, 2) := by decide +kernel
theorem dX6_reachCubes_52 : decode cX6_reachCubes 52 = .ok (.getfield 206, 3) := by decide +kernel
theorem dX6_reachCubes_55 : decode cX6_reachCubes 55 = .ok (.iload 6, 2) := by decide +kernel
theorem dX6_reachCubes_57 : decode cX6_reachCubes 57 = .ok (.aload_n 0, 1) := by decide +kernel
theorem dX6_reachCubes_58 : decode cX6_reachCubes 58 = .ok (.getfield 178, 3) := by decide +kernel
theorem dX6_reachCubes_61 : decode cX6_reachCubes 61 = .ok (.iconst 1, 1) := by decide +kernel
theorem dX6_reachCubes_62 : decode cX6_reachCubes 62 = .ok (.iadd, 1) := by decide +kernel
theorem dX6_reachCubes_63 : decode cX6_reachCubes 63 = .ok (.iastore, 1) := by decide +kernel
theorem dX6_reachCubes_64 : decode cX6_reachCubes 64 = .ok (.aload 4, 2) := by decide +kernel
theorem dX6_reachCubes_66 : decode cX6_reachCubes 66 = .ok (.getfield 216, 3) := by decide +kernel
theorem dX6_reachCubes_69 : decode cX6_reachCubes 69 = .ok (.iload 6, 2) := by decide +kernel
theorem dX6_reachCubes_71 : decode cX6_reachCubes 71 = .ok (.iload_n 1, 1) := by decide +kernel
theorem dX6_reachCubes_72 : decode cX6_reachCubes 72 = .ok (.iastore, 1) := by decide +kernel
theorem dX6_reachCubes_73 : decode cX6_reachCubes 73 = .ok (.aload 4, 2) := by decide +kernel
theorem dX6_reachCubes_75 : decode cX6_reachCubes 75 = .ok (.getfield 219, 3) := by decide +kernel
theorem dX6_reachCubes_78 : decode cX6_reachCubes 78 = .ok (.iload 6, 2) := by decide +kernel
theorem dX6_reachCubes_80 : decode cX6_reachCubes 80 = .ok (.aload_n 3, 1) := by decide +kernel
theorem dX6_reachCubes_81 : decode cX6_reachCubes 81 = .ok (.iconst 0, 1) := by decide +kernel
theorem dX6_reachCubes_82 : decode cX6_reachCubes 82 = .ok (.iload_n 2, 1) := by decide +kernel
theorem dX6_reachCubes_83 : decode cX6_reachCubes 83 = .ok (.invokevirtual 284, 3) := by decide +kernel
theorem dX6_reachCubes_86 : decode cX6_reachCubes 86 = .ok (.iastore, 1) := by decide +kernel
theorem dX6_reachCubes_87 : decode cX6_reachCubes 87 = .ok (.aload 4, 2) := by decide +kernel
theorem dX6_reachCubes_89 : decode cX6_reachCubes 89 = .ok (.getfield 222, 3) := by decide +kernel
theorem dX6_reachCubes_92 : decode cX6_reachCubes 92 = .ok (.iload 6, 2) := by decide +kernel
theorem dX6_reachCubes_94 : decode cX6_reachCubes 94 = .ok (.aload_n 3, 1) := by decide +kernel
theorem dX6_reachCubes_95 : decode cX6_reachCubes 95 = .ok (.iconst 1, 1) := by decide +kernel
theorem dX6_reachCubes_96 : decode cX6_reachCubes 96 = .ok (.iload_n 2, 1) := by decide +kernel
theorem dX6_reachCubes_97 : decode cX6_reachCubes 97 = .ok (.invokevirtual 284, 3) := by decide +kernel
theorem dX6_reachCubes_100 : decode cX6_reachCubes 100 = .ok (.iastore, 1) := by decide +kernel
theorem dX6_reachCubes_101 : decode cX6_reachCubes 101 = .ok (.iinc 5 1, 3) := by decide +kernel
theorem dX6_reachCubes_104 : decode cX6_reachCubes 104 = .ok (.iinc 6 1, 3) := by decide +kernel
theorem dX6_reachCubes_107 : decode cX6_reachCubes 107 = .ok (.goto (-80), 3) := by decide +kernel
theorem dX6_reachCubes_110 : decode cX6_reachCubes 110 = .ok (.iload 5, 2) := by decide +kernel
theorem dX6_reachCubes_112 : decode cX6_reachCubes 112 = .ok (.ireturn, 1) := by decide +kernel
theorem dX6_isObeyed_0 : decode cX6_isObeyed 0 = .ok (.aload_n 0, 1) := by decide +kernel
theorem dX6_isObeyed_1 : decode cX6_isObeyed 1 = .ok (.aload_n 1, 1) := by decide +kernel
theorem dX6_isObeyed_2 : decode cX6_isObeyed 2 = .ok (.iconst 0, 1) := by decide +kernel
theorem dX6_isObeyed_3 : decode cX6_isObeyed 3 = .ok (.invokevirtual 269, 3) := by decide +kernel
theorem dX6_isObeyed_6 : decode cX6_isObeyed 6 = .ok (.istore_n 2, 1) := by decide +kernel
theorem dX6_isObeyed_7 : decode cX6_isObeyed 7 = .ok (.iload_n 2, 1) := by decide +kernel
theorem dX6_isObeyed_8 : decode cX6_isObeyed 8 = .ok (.sipush 256, 3) := by decide +kernel
theorem dX6_isObeyed_11 : decode cX6_isObeyed 11 = .ok (.if_icmp .ge 39, 3) := by decide +kernel
theorem dX6_isObeyed_14 : decode cX6_isObeyed 14 = .ok (.aload_n 1, 1) := by decide +kernel
theorem dX6_isObeyed_15 : decode cX6_isObeyed 15 = .ok (.getfield 103, 3) := by decide +kernel
theorem dX6_isObeyed_18 : decode cX6_isObeyed 18 = .ok (.getfield 247, 3) := by decide +kernel
theorem dX6_isObeyed_21 : decode cX6_isObeyed 21 = .ok (.iconst (-1), 1) := by decide +kernel
theorem dX6_isObeyed_22 : decode cX6_isObeyed 22 = .ok (.if_icmp .eq 14, 3) := by decide +kernel
theorem dX6_isObeyed_25 : decode cX6_isObeyed 25 = .ok (.aload_n 0, 1) := by decide +kernel
theorem dX6_isObeyed_26 : decode cX6_isObeyed 26 = .ok (.aload_n 1, 1) := by decide +kernel
theorem dX6_isObeyed_27 : decode cX6_isObeyed 27 = .ok (.getfield 103, 3) := by decide +kernel
theorem dX6_isObeyed_30 : decode cX6_isObeyed 30 = .ok (.invokevirtual 287, 3) := by decide +kernel
theorem dX6_isObeyed_33 : decode cX6_isObeyed 33 = .ok (.ifCond .eq 5, 3) := by decide +kernel
theorem dX6_isObeyed_36 : decode cX6_isObeyed 36 = .ok (.iconst 0, 1) := by decide +kernel
theorem dX6_isObeyed_37 : decode cX6_isObeyed 37 = .ok (.ireturn, 1) := by decide +kernel
theorem dX6_isObeyed_38 : decode cX6_isObeyed 38 = .ok (.aload_n 0, 1) := by decide +kernel
theorem dX6_isObeyed_39 : decode cX6_isObeyed 39 = .ok (.aload_n 1, 1) := by decide +kernel
theorem dX6_isObeyed_40 : decode cX6_isObeyed 40 = .ok (.iload_n 2, 1) := by decide +kernel
theorem dX6_isObeyed_41 : decode cX6_isObeyed 41 = .ok (.iconst 1, 1) := by decide +kernel
theorem dX6_isObeyed_42 : decode cX6_isObeyed 42 = .ok (.iadd, 1) := by decide +kernel
theorem dX6_isObeyed_43 : decode cX6_isObeyed 43 = .ok (.invokevirtual 269, 3) := by decide +kernel
theorem dX6_isObeyed_46 : decode cX6_isObeyed 46 = .ok (.istore_n 2, 1) := by decide +kernel
theorem dX6_isObeyed_47 : decode cX6_isObeyed 47 = .ok (.goto (-40), 3) := by decide +kernel
theorem dX6_isObeyed_50 : decode cX6_isObeyed 50 = .ok (.iconst 1, 1) := by decide +kernel
theorem dX6_isObeyed_51 : decode cX6_isObeyed 51 = .ok (.ireturn, 1) := by decide +kernel
theorem dX6_isAnyMissing_0 : decode cX6_isAnyMissing 0 = .ok (.aload_n 0, 1) := by decide +kernel
theorem dX6_isAnyMissing_1 : decode cX6_isAnyMissing 1 = .ok (.getfield 11, 3) := by decide +kernel
theorem dX6_isAnyMissing_4 : decode cX6_isAnyMissing 4 = .ok (.aload_n 1, 1) := by decide +kernel
theorem dX6_isAnyMissing_5 : decode cX6_isAnyMissing 5 = .ok (.getfield 247, 3) := by decide +kernel
theorem dX6_isAnyMissing_8 : decode cX6_isAnyMissing 8 = .ok (.aaload, 1) := by decide +kernel
theorem dX6_isAnyMissing_9 : decode cX6_isAnyMissing 9 = .ok (.invokevirtual 201, 3) := by decide +kernel
theorem dX6_isAnyMissing_12 : decode cX6_isAnyMissing 12 = .ok (.istore_n 2, 1) := by decide +kernel
theorem dX6_isAnyMissing_13 : decode cX6_isAnyMissing 13 = .ok (.iconst 0, 1) := by decide +kernel
theorem dX6_isAnyMissing_14 : decode cX6_isAnyMissing 14 = .ok (.istore_n 3, 1) := by decide +kernel
theorem dX6_isAnyMissing_15 : decode cX6_isAnyMissing 15 = .ok (.iload_n 3, 1) := by decide +kernel
theorem dX6_isAnyMissing_16 : decode cX6_isAnyMissing 16 = .ok (.iload_n 2, 1) := by decide +kernel
theorem dX6_isAnyMissing_17 : decode cX6_isAnyMissing 17 = .ok (.if_icmp .ge 20, 3) := by decide +kernel
theorem dX6_isAnyMissing_20 : decode cX6_isAnyMissing 20 = .ok (.aload_n 0, 1) := by decide +kernel
theorem dX6_isAnyMissing_21 : decode cX6_isAnyMissing 21 = .ok (.aload_n 1, 1) := by decide +kernel
theorem dX6_isAnyMissing_22 : decode cX6_isAnyMissing 22 = .ok (.iload_n 3, 1) := by decide +kernel
theorem dX6_isAnyMissing_23 : decode cX6_isAnyMissing 23 = .ok (.invokevirtual 280, 3) := by decide +kernel
theorem dX6_isAnyMissing_26 : decode cX6_isAnyMissing 26 = .ok (.ifCond .eq 5, 3) := by decide +kernel
theorem dX6_isAnyMissing_29 : decode cX6_isAnyMissing 29 = .ok (.iconst 1, 1) := by decide +kernel
theorem dX6_isAnyMissing_30 : decode cX6_isAnyMissing 30 = .ok (.ireturn, 1) := by decide +kernel
theorem dX6_isAnyMissing_31 : decode cX6_isAnyMissing 31 = .ok (.iinc 3 1, 3) := by decide +kernel
theorem dX6_isAnyMissing_34 : decode cX6_isAnyMissing 34 = .ok (.goto (-19), 3) := by decide +kernel
theorem dX6_isAnyMissing_37 : decode cX6_isAnyMissing 37 = .ok (.iconst 0, 1) := by decide +kernel
theorem dX6_isAnyMissing_38 : decode cX6_isAnyMissing 38 = .ok (.ireturn, 1) := by decide +kernel
theorem dX6_isMissing_0 : decode cX6_isMissing 0 = .ok (.aload_n 0, 1) := by decide +kernel
theorem dX6_isMissing_1 : decode cX6_isMissing 1 = .ok (.getfield 11, 3) := by decide +kernel
theorem dX6_isMissing_4 : decode cX6_isMissing 4 = .ok (.aload_n 1, 1) := by decide +kernel
theorem dX6_isMissing_5 : decode cX6_isMissing 5 = .ok (.getfield 247, 3) := by decide +kernel
theorem dX6_isMissing_8 : decode cX6_isMissing 8 = .ok (.aaload, 1) := by decide +kernel
theorem dX6_isMissing_9 : decode cX6_isMissing 9 = .ok (.astore_n 3, 1) := by decide +kernel
theorem dX6_isMissing_10 : decode cX6_isMissing 10 = .ok (.aload_n 3, 1) := by decide +kernel
theorem dX6_isMissing_11 : decode cX6_isMissing 11 = .ok (.getfield 206, 3) := by decide +kernel
theorem dX6_isMissing_14 : decode cX6_isMissing 14 = .ok (.iload_n 2, 1) := by decide +kernel
theorem dX6_isMissing_15 : decode cX6_isMissing 15 = .ok (.iaload, 1) := by decide +kernel
theorem dX6_isMissing_16 : decode cX6_isMissing 16 = .ok (.ifCond .eq 5, 3) := by decide +kernel
theorem dX6_isMissing_19 : decode cX6_isMissing 19 = .ok (.iconst 0, 1) := by decide +kernel
theorem dX6_isMissing_20 : decode cX6_isMissing 20 = .ok (.ireturn, 1) := by decide +kernel
theorem dX6_isMissing_21 : decode cX6_isMissing 21 = .ok (.aload_n 0, 1) := by decide +kernel
theorem dX6_isMissing_22 : decode cX6_isMissing 22 = .ok (.getfield 38, 3) := by decide +kernel
theorem dX6_isMissing_25 : decode cX6_isMissing 25 = .ok (.aload_n 0, 1) := by decide +kernel
theorem dX6_isMissing_26 : decode cX6_isMissing 26 = .ok (.getfield 35, 3) := by decide +kernel
theorem dX6_isMissing_29 : decode cX6_isMissing 29 = .ok (.invokevirtual 291, 3) := by decide +kernel
theorem dX6_isMissing_32 : decode cX6_isMissing 32 = .ok (.aload_n 3, 1) := by decide +kernel
theorem dX6_isMissing_33 : decode cX6_isMissing 33 = .ok (.aload_n 0, 1) := by decide +kernel
theorem dX6_isMissing_34 : decode cX6_isMissing 34 = .ok (.getfield 38, 3) := by decide +kernel
theorem dX6_isMissing_37 : decode cX6_isMissing 37 = .ok (.iload_n 2, 1) := by decide +kernel
theorem dX6_isMissing_38 : decode cX6_isMissing 38 = .ok (.aload_n 1, 1) := by decide +kernel
theorem dX6_isMissing_39 : decode cX6_isMissing 39 = .ok (.getfield 252, 3) := by decide +kernel
theorem dX6_isMissing_42 : decode cX6_isMissing 42 = .ok (.aload_n 1, 1) := by decide +kernel
theorem dX6_isMissing_43 : decode cX6_isMissing 43 = .ok (.getfield 255, 3) := by decide +kernel
theorem dX6_isMissing_46 : decode cX6_isMissing 46 = .ok (.invokevirtual 212, 3) := by decide +kernel
theorem dX6_isMissing_49 : decode cX6_isMissing 49 = .ok (.aload_n 0, 1) := by decide +kernel
theorem dX6_isMissing_50 : decode cX6_isMissing 50 = .ok (.getfield 38, 3) := by decide +kernel
theorem dX6_isMissing_53 : decode cX6_isMissing 53 = .ok (.getfield 159, 3) := by decide +kernel
theorem dX6_isMissing_56 : decode cX6_isMissing 56 = .ok (.ireturn, 1) := by decide +kernel
theorem dX6_nextPremises_0 : decode cX6_nextPremises 0 = .ok (.aload_n 0, 1) := by decide +kernel
theorem dX6_nextPremises_1 : decode cX6_nextPremises 1 = .ok (.aload_n 1, 1) := by decide +kernel
theorem dX6_nextPremises_2 : decode cX6_nextPremises 2 = .ok (.iconst 0, 1) := by decide +kernel
theorem dX6_nextPremises_3 : decode cX6_nextPremises 3 = .ok (.invokevirtual 295, 3) := by decide +kernel
theorem dX6_nextPremises_6 : decode cX6_nextPremises 6 = .ok (.istore_n 3, 1) := by decide +kernel
theorem dX6_nextPremises_7 : decode cX6_nextPremises 7 = .ok (.aload_n 0, 1) := by decide +kernel
theorem dX6_nextPremises_8 : decode cX6_nextPremises 8 = .ok (.aload_n 1, 1) := by decide +kernel
theorem dX6_nextPremises_9 : decode cX6_nextPremises 9 = .ok (.iconst 1, 1) := by decide +kernel
theorem dX6_nextPremises_10 : decode cX6_nextPremises 10 = .ok (.invokevirtual 295, 3) := by decide +kernel
theorem dX6_nextPremises_13 : decode cX6_nextPremises 13 = .ok (.istore 4, 2) := by decide +kernel
theorem dX6_nextPremises_15 : decode cX6_nextPremises 15 = .ok (.iload_n 2, 1) := by decide +kernel
theorem dX6_nextPremises_16 : decode cX6_nextPremises 16 = .ok (.bipush 16, 2) := by decide +kernel
theorem dX6_nextPremises_18 : decode cX6_nextPremises 18 = .ok (.irem, 1) := by decide +kernel
theorem dX6_nextPremises_19 : decode cX6_nextPremises 19 = .ok (.istore 5, 2) := by decide +kernel
theorem dX6_nextPremises_21 : decode cX6_nextPremises 21 = .ok (.iload_n 2, 1) := by decide +kernel
theorem dX6_nextPremises_22 : decode cX6_nextPremises 22 = .ok (.bipush 16, 2) := by decide +kernel
theorem dX6_nextPremises_24 : decode cX6_nextPremises 24 = .ok (.idiv, 1) := by decide +kernel
theorem dX6_nextPremises_25 : decode cX6_nextPremises 25 = .ok (.istore 6, 2) := by decide +kernel
theorem dX6_nextPremises_27 : decode cX6_nextPremises 27 = .ok (.iload 6, 2) := by decide +kernel
theorem dX6_nextPremises_29 : decode cX6_nextPremises 29 = .ok (.iload_n 3, 1) := by decide +kernel
theorem dX6_nextPremises_30 : decode cX6_nextPremises 30 = .ok (.if_icmp .ge 72, 3) := by decide +kernel
theorem dX6_nextPremises_33 : decode cX6_nextPremises 33 = .ok (.aload_n 0, 1) := by decide +kernel
theorem dX6_nextPremises_34 : decode cX6_nextPremises 34 = .ok (.aload_n 0, 1) := by decide +kernel
theorem dX6_nextPremises_35 : decode cX6_nextPremises 35 = .ok (.getfield 31, 3) := by decide +kernel
theorem dX6_nextPremises_38 : decode cX6_nextPremises 38 = .ok (.aload_n 1, 1) := by decide +kernel
theorem dX6_nextPremises_39 : decode cX6_nextPremises 39 = .ok (.getfield 134, 3) := by decide +kernel
theorem dX6_nextPremises_42 : decode cX6_nextPremises 42 = .ok (.aload_n 1, 1) := by decide +kernel
theorem dX6_nextPremises_43 : decode cX6_nextPremises 43 = .ok (.iconst 0, 1) := by decide +kernel
theorem dX6_nextPremises_44 : decode cX6_nextPremises 44 = .ok (.iload 6, 2) := by decide +kernel
theorem dX6_nextPremises_46 : decode cX6_nextPremises 46 = .ok (.invokevirtual 298, 3) := by decide +kernel
theorem dX6_nextPremises_49 : decode cX6_nextPremises 49 = .ok (.ifCond .eq 44, 3) := by decide +kernel
theorem dX6_nextPremises_52 : decode cX6_nextPremises 52 = .ok (.iload 5, 2) := by decide +kernel
theorem dX6_nextPremises_54 : decode cX6_nextPremises 54 = .ok (.iload 4, 2) := by decide +kernel
theorem dX6_nextPremises_56 : decode cX6_nextPremises 56 = .ok (.if_icmp .ge 37, 3) := by decide +kernel
theorem dX6_nextPremises_59 : decode cX6_nextPremises 59 = .ok (.aload_n 0, 1) := by decide +kernel
theorem dX6_nextPremises_60 : decode cX6_nextPremises 60 = .ok (.aload_n 0, 1) := by decide +kernel
theorem dX6_nextPremises_61 : decode cX6_nextPremises 61 = .ok (.getfield 35, 3) := by decide +kernel
theorem dX6_nextPremises_64 : decode cX6_nextPremises 64 = .ok (.aload_n 0, 1) := by decide +kernel
theorem dX6_nextPremises_65 : decode cX6_nextPremises 65 = .ok (.getfield 31, 3) := by decide +kernel
theorem dX6_nextPremises_68 : decode cX6_nextPremises 68 = .ok (.aload_n 1, 1) := by decide +kernel
theorem dX6_nextPremises_69 : decode cX6_nextPremises 69 = .ok (.iconst 1, 1) := by decide +kernel
theorem dX6_nextPremises_70 : decode cX6_nextPremises 70 = .ok (.iload 5, 2) := by decide +kernel
theorem dX6_nextPremises_72 : decode cX6_nextPremises 72 = .ok (.invokevirtual 298, 3) := by decide +kernel
theorem dX6_nextPremises_75 : decode cX6_nextPremises 75 = .ok (.ifCond .eq 12, 3) := by decide +kernel
theorem dX6_nextPremises_78 : decode cX6_nextPremises 78 = .ok (.iload 6, 2) := by decide +kernel
theorem dX6_nextPremises_80 : decode cX6_nextPremises 80 = .ok (.bipush 16, 2) := by decide +kernel
theorem dX6_nextPremises_82 : decode cX6_nextPremises 82 = .ok (.imul, 1) := by decide +kernel
theorem dX6_nextPremises_83 : decode cX6_nextPremises 83 = .ok (.iload 5, 2) := by decide +kernel
theorem dX6_nextPremises_85 : decode cX6_nextPremises 85 = .ok (.iadd, 1) := by decide +kernel
theorem dX6_nextPremises_86 : decode cX6_nextPremises 86 = .ok (.ireturn, 1) := by decide +kernel
theorem dX6_nextPremises_87 : decode cX6_nextPremises 87 = .ok (.iinc 5 1, 3) := by decide +kernel
theorem dX6_nextPremises_90 : decode cX6_nextPremises 90 = .ok (.goto (-38), 3) := by decide +kernel
theorem dX6_nextPremises_93 : decode cX6_nextPremises 93 = .ok (.iconst 0, 1) := by decide +kernel
theorem dX6_nextPremises_94 : decode cX6_nextPremises 94 = .ok (.istore 5, 2) := by decide +kernel
theorem dX6_nextPremises_96 : decode cX6_nextPremises 96 = .ok (.iinc 6 1, 3) := by decide +kernel
theorem dX6_nextPremises_99 : decode cX6_nextPremises 99 = .ok (.goto (-72), 3) := by decide +kernel
theorem dX6_nextPremises_102 : decode cX6_nextPremises 102 = .ok (.sipush 256, 3) := by decide +kernel
theorem dX6_nextPremises_105 : decode cX6_nextPremises 105 = .ok (.ireturn, 1) := by decide +kernel
theorem dX6_choices_0 : decode cX6_choices 0 = .ok (.iload_n 2, 1) := by decide +kernel
theorem dX6_choices_1 : decode cX6_choices 1 = .ok (.aload_n 1, 1) := by decide +kernel
theorem dX6_choices_2 : decode cX6_choices 2 = .ok (.getfield 111, 3) := by decide +kernel
theorem dX6_choices_5 : decode cX6_choices 5 = .ok (.if_icmp .ge 23, 3) := by decide +kernel
theorem dX6_choices_8 : decode cX6_choices 8 = .ok (.aload_n 0, 1) := by decide +kernel
theorem dX6_choices_9 : decode cX6_choices 9 = .ok (.getfield 11, 3) := by decide +kernel
theorem dX6_choices_12 : decode cX6_choices 12 = .ok (.aload_n 1, 1) := by decide +kernel
theorem dX6_choices_13 : decode cX6_choices 13 = .ok (.getfield 116, 3) := by decide +kernel
theorem dX6_choices_16 : decode cX6_choices 16 = .ok (.iload_n 2, 1) := by decide +kernel
theorem dX6_choices_17 : decode cX6_choices 17 = .ok (.aaload, 1) := by decide +kernel
theorem dX6_choices_18 : decode cX6_choices 18 = .ok (.getfield 247, 3) := by decide +kernel
theorem dX6_choices_21 : decode cX6_choices 21 = .ok (.aaload, 1) := by decide +kernel
theorem dX6_choices_22 : decode cX6_choices 22 = .ok (.invokevirtual 201, 3) := by decide +kernel
theorem dX6_choices_25 : decode cX6_choices 25 = .ok (.goto 4, 3) := by decide +kernel
theorem dX6_choices_28 : decode cX6_choices 28 = .ok (.iconst 1, 1) := by decide +kernel
theorem dX6_choices_29 : decode cX6_choices 29 = .ok (.ireturn, 1) := by decide +kernel
theorem dX6_lay_0 : decode cX6_lay 0 = .ok (.iload 4, 2) := by decide +kernel
theorem dX6_lay_2 : decode cX6_lay 2 = .ok (.aload_n 3, 1) := by decide +kernel
theorem dX6_lay_3 : decode cX6_lay 3 = .ok (.getfield 111, 3) := by decide +kernel
theorem dX6_lay_6 : decode cX6_lay 6 = .ok (.if_icmp .lt 13, 3) := by decide +kernel
theorem dX6_lay_9 : decode cX6_lay 9 = .ok (.aload_n 1, 1) := by decide +kernel
theorem dX6_lay_10 : decode cX6_lay 10 = .ok (.aload_n 2, 1) := by decide +kernel
theorem dX6_lay_11 : decode cX6_lay 11 = .ok (.invokevirtual 291, 3) := by decide +kernel
theorem dX6_lay_14 : decode cX6_lay 14 = .ok (.aload_n 1, 1) := by decide +kernel
theorem dX6_lay_15 : decode cX6_lay 15 = .ok (.getfield 159, 3) := by decide +kernel
theorem dX6_lay_18 : decode cX6_lay 18 = .ok (.ireturn, 1) := by decide +kernel
theorem dX6_lay_19 : decode cX6_lay 19 = .ok (.aload_n 3, 1) := by decide +kernel
theorem dX6_lay_20 : decode cX6_lay 20 = .ok (.getfield 116, 3) := by decide +kernel
theorem dX6_lay_23 : decode cX6_lay 23 = .ok (.iload 4, 2) := by decide +kernel
theorem dX6_lay_25 : decode cX6_lay 25 = .ok (.aaload, 1) := by decide +kernel
theorem dX6_lay_26 : decode cX6_lay 26 = .ok (.astore 6, 2) := by decide +kernel
theorem dX6_lay_28 : decode cX6_lay 28 = .ok (.aload_n 0, 1) := by decide +kernel
theorem dX6_lay_29 : decode cX6_lay 29 = .ok (.getfield 11, 3) := by decide +kernel
theorem dX6_lay_32 : decode cX6_lay 32 = .ok (.aload 6, 2) := by decide +kernel
theorem dX6_lay_34 : decode cX6_lay 34 = .ok (.getfield 247, 3) := by decide +kernel
theorem dX6_lay_37 : decode cX6_lay 37 = .ok (.aaload, 1) := by decide +kernel
theorem dX6_lay_38 : decode cX6_lay 38 = .ok (.astore 7, 2) := by decide +kernel
theorem dX6_lay_40 : decode cX6_lay 40 = .ok (.aload 7, 2) := by decide +kernel
theorem dX6_lay_42 : decode cX6_lay 42 = .ok (.getfield 206, 3) := by decide +kernel
theorem dX6_lay_45 : decode cX6_lay 45 = .ok (.iload 5, 2) := by decide +kernel
theorem dX6_lay_47 : decode cX6_lay 47 = .ok (.iaload, 1) := by decide +kernel
theorem dX6_lay_48 : decode cX6_lay 48 = .ok (.istore 8, 2) := by decide +kernel
theorem dX6_lay_50 : decode cX6_lay 50 = .ok (.iload 8, 2) := by decide +kernel
theorem dX6_lay_52 : decode cX6_lay 52 = .ok (.ifCond .eq 12, 3) := by decide +kernel
theorem dX6_lay_55 : decode cX6_lay 55 = .ok (.iload 8, 2) := by decide +kernel
theorem dX6_lay_57 : decode cX6_lay 57 = .ok (.aload_n 0, 1) := by decide +kernel
theorem dX6_lay_58 : decode cX6_lay 58 = .ok (.getfield 178, 3) := by decide +kernel
theorem dX6_lay_61 : decode cX6_lay 61 = .ok (.if_icmp .le 5, 3) := by decide +kernel
theorem dX6_lay_64 : decode cX6_lay 64 = .ok (.iconst 0, 1) := by decide +kernel
theorem dX6_lay_65 : decode cX6_lay 65 = .ok (.ireturn, 1) := by decide +kernel
theorem dX6_lay_66 : decode cX6_lay 66 = .ok (.aload_n 1, 1) := by decide +kernel
theorem dX6_lay_67 : decode cX6_lay 67 = .ok (.aload_n 2, 1) := by decide +kernel
theorem dX6_lay_68 : decode cX6_lay 68 = .ok (.invokevirtual 291, 3) := by decide +kernel
theorem dX6_lay_71 : decode cX6_lay 71 = .ok (.aload 7, 2) := by decide +kernel
theorem dX6_lay_73 : decode cX6_lay 73 = .ok (.aload_n 1, 1) := by decide +kernel
theorem dX6_lay_74 : decode cX6_lay 74 = .ok (.iload 5, 2) := by decide +kernel
theorem dX6_lay_76 : decode cX6_lay 76 = .ok (.aload 6, 2) := by decide +kernel
theorem dX6_lay_78 : decode cX6_lay 78 = .ok (.getfield 252, 3) := by decide +kernel
theorem dX6_lay_81 : decode cX6_lay 81 = .ok (.aload 6, 2) := by decide +kernel
theorem dX6_lay_83 : decode cX6_lay 83 = .ok (.getfield 255, 3) := by decide +kernel
theorem dX6_lay_86 : decode cX6_lay 86 = .ok (.invokevirtual 212, 3) := by decide +kernel
theorem dX6_lay_89 : decode cX6_lay 89 = .ok (.aload_n 1, 1) := by decide +kernel
theorem dX6_lay_90 : decode cX6_lay 90 = .ok (.getfield 159, 3) := by decide +kernel
theorem dX6_lay_93 : decode cX6_lay 93 = .ok (.ireturn, 1) := by decide +kernel
theorem dX6_growTree_0 : decode cX6_growTree 0 = .ok (.aload_n 0, 1) := by decide +kernel
theorem dX6_growTree_1 : decode cX6_growTree 1 = .ok (.getfield 24, 3) := by decide +kernel
theorem dX6_growTree_4 : decode cX6_growTree 4 = .ok (.iconst 0, 1) := by decide +kernel
theorem dX6_growTree_5 : decode cX6_growTree 5 = .ok (.putfield 181, 3) := by decide +kernel
theorem dX6_growTree_8 : decode cX6_growTree 8 = .ok (.aload_n 0, 1) := by decide +kernel
theorem dX6_growTree_9 : decode cX6_growTree 9 = .ok (.getfield 24, 3) := by decide +kernel
theorem dX6_growTree_12 : decode cX6_growTree 12 = .ok (.iconst 0, 1) := by decide +kernel
theorem dX6_growTree_13 : decode cX6_growTree 13 = .ok (.putfield 302, 3) := by decide +kernel
theorem dX6_growTree_16 : decode cX6_growTree 16 = .ok (.aload_n 0, 1) := by decide +kernel
theorem dX6_growTree_17 : decode cX6_growTree 17 = .ok (.getfield 17, 3) := by decide +kernel
theorem dX6_growTree_20 : decode cX6_growTree 20 = .ok (.aload_n 0, 1) := by decide +kernel
theorem dX6_growTree_21 : decode cX6_growTree 21 = .ok (.getfield 43, 3) := by decide +kernel
theorem dX6_growTree_24 : decode cX6_growTree 24 = .ok (.aaload, 1) := by decide +kernel
theorem dX6_growTree_25 : decode cX6_growTree 25 = .ok (.astore_n 2, 1) := by decide +kernel
theorem dX6_growTree_26 : decode cX6_growTree 26 = .ok (.aload_n 0, 1) := by decide +kernel
theorem dX6_growTree_27 : decode cX6_growTree 27 = .ok (.getfield 24, 3) := by decide +kernel
theorem dX6_growTree_30 : decode cX6_growTree 30 = .ok (.getfield 229, 3) := by decide +kernel
theorem dX6_growTree_33 : decode cX6_growTree 33 = .ok (.iconst 0, 1) := by decide +kernel
theorem dX6_growTree_34 : decode cX6_growTree 34 = .ok (.aaload, 1) := by decide +kernel
theorem dX6_growTree_35 : decode cX6_growTree 35 = .ok (.aload_n 0, 1) := by decide +kernel
theorem dX6_growTree_36 : decode cX6_growTree 36 = .ok (.getfield 43, 3) := by decide +kernel
theorem dX6_growTree_39 : decode cX6_growTree 39 = .ok (.iconst (-1), 1) := by decide +kernel
theorem dX6_growTree_40 : decode cX6_growTree 40 = .ok (.iconst 0, 1) := by decide +kernel
theorem dX6_growTree_41 : decode cX6_growTree 41 = .ok (.iconst (-1), 1) := by decide +kernel
theorem dX6_growTree_42 : decode cX6_growTree 42 = .ok (.invokevirtual 305, 3) := by decide +kernel
theorem dX6_growTree_45 : decode cX6_growTree 45 = .ok (.aload_n 0, 1) := by decide +kernel
theorem dX6_growTree_46 : decode cX6_growTree 46 = .ok (.getfield 24, 3) := by decide +kernel
theorem dX6_growTree_49 : decode cX6_growTree 49 = .ok (.aload_n 2, 1) := by decide +kernel
theorem dX6_growTree_50 : decode cX6_growTree 50 = .ok (.aload_n 2, 1) := by decide +kernel
theorem dX6_growTree_51 : decode cX6_growTree 51 = .ok (.iconst 0, 1) := by decide +kernel
theorem dX6_growTree_52 : decode cX6_growTree 52 = .ok (.iload_n 1, 1) := by decide +kernel
theorem dX6_growTree_53 : decode cX6_growTree 53 = .ok (.invokevirtual 284, 3) := by decide +kernel
theorem dX6_growTree_56 : decode cX6_growTree 56 = .ok (.aload_n 2, 1) := by decide +kernel
theorem dX6_growTree_57 : decode cX6_growTree 57 = .ok (.iconst 1, 1) := by decide +kernel
theorem dX6_growTree_58 : decode cX6_growTree 58 = .ok (.iload_n 1, 1) := by decide +kernel
theorem dX6_growTree_59 : decode cX6_growTree 59 = .ok (.invokevirtual 284, 3) := by decide +kernel
theorem dX6_growTree_62 : decode cX6_growTree 62 = .ok (.invokevirtual 308, 3) := by decide +kernel
theorem dX6_growTree_65 : decode cX6_growTree 65 = .ok (.iconst 0, 1) := by decide +kernel
theorem dX6_growTree_66 : decode cX6_growTree 66 = .ok (.istore_n 3, 1) := by decide +kernel
theorem dX6_growTree_67 : decode cX6_growTree 67 = .ok (.iload_n 3, 1) := by decide +kernel
theorem dX6_growTree_68 : decode cX6_growTree 68 = .ok (.bipush 40, 2) := by decide +kernel
theorem dX6_growTree_70 : decode cX6_growTree 70 = .ok (.if_icmp .ge 81, 3) := by decide +kernel
theorem dX6_growTree_73 : decode cX6_growTree 73 = .ok (.aload_n 0, 1) := by decide +kernel
theorem dX6_growTree_74 : decode cX6_growTree 74 = .ok (.getfield 24, 3) := by decide +kernel
theorem dX6_growTree_77 : decode cX6_growTree 77 = .ok (.getfield 302, 3) := by decide +kernel
theorem dX6_growTree_80 : decode cX6_growTree 80 = .ok (.ifCond .le 71, 3) := by decide +kernel
theorem dX6_growTree_83 : decode cX6_growTree 83 = .ok (.aload_n 0, 1) := by decide +kernel
theorem dX6_growTree_84 : decode cX6_growTree 84 = .ok (.getfield 24, 3) := by decide +kernel
theorem dX6_growTree_87 : decode cX6_growTree 87 = .ok (.dup, 1) := by decide +kernel
theorem dX6_growTree_88 : decode cX6_growTree 88 = .ok (.getfield 302, 3) := by decide +kernel
theorem dX6_growTree_91 : decode cX6_growTree 91 = .ok (.iconst 1, 1) := by decide +kernel
theorem dX6_growTree_92 : decode cX6_growTree 92 = .ok (.isub, 1) := by decide +kernel
theorem dX6_growTree_93 : decode cX6_growTree 93 = .ok (.putfield 302, 3) := by decide +kernel
theorem dX6_growTree_96 : decode cX6_growTree 96 = .ok (.aload_n 0, 1) := by decide +kernel
theorem dX6_growTree_97 : decode cX6_growTree 97 = .ok (.aload_n 0, 1) := by decide +kernel
theorem dX6_growTree_98 : decode cX6_growTree 98 = .ok (.getfield 24, 3) := by decide +kernel
theorem dX6_growTree_101 : decode cX6_growTree 101 = .ok (.getfield 312, 3) := by decide +kernel
theorem dX6_growTree_104 : decode cX6_growTree 104 = .ok (.aload_n 0, 1) := by decide +kernel
theorem dX6_growTree_105 : decode cX6_growTree 105 = .ok (.getfield 24, 3) := by decide +kernel
theorem dX6_growTree_108 : decode cX6_growTree 108 = .ok (.getfield 302, 3) := by decide +kernel
theorem dX6_growTree_111 : decode cX6_growTree 111 = .ok (.iaload, 1) := by decide +kernel
theorem dX6_growTree_112 : decode cX6_growTree 112 = .ok (.aload_n 0, 1) := by decide +kernel
theorem dX6_growTree_113 : decode cX6_growTree 113 = .ok (.getfield 24, 3) := by decide +kernel
theorem dX6_growTree_116 : decode cX6_growTree 116 = .ok (.getfield 315, 3) := by decide +kernel
theorem dX6_growTree_119 : decode cX6_growTree 119 = .ok (.aload_n 0, 1) := by decide +kernel
theorem dX6_growTree_120 : decode cX6_growTree 120 = .ok (.getfield 24, 3) := by decide +kernel
theorem dX6_growTree_123 : decode cX6_growTree 123 = .ok (.getfield 302, 3) := by decide +kernel
theorem dX6_growTree_126 : decode cX6_growTree 126 = .ok (.iaload, 1) := by decide +kernel
theorem dX6_growTree_127 : decode cX6_growTree 127 = .ok (.aload_n 0, 1) := by decide +kernel
theorem dX6_growTree_128 : decode cX6_growTree 128 = .ok (.getfield 24, 3) := by decide +kernel
theorem dX6_growTree_131 : decode cX6_growTree 131 = .ok (.getfield 318, 3) := by decide +kernel
theorem dX6_growTree_134 : decode cX6_growTree 134 = .ok (.aload_n 0, 1) := by decide +kernel
theorem dX6_growTree_135 : decode cX6_growTree 135 = .ok (.getfield 24, 3) := by decide +kernel
theorem dX6_growTree_138 : decode cX6_growTree 138 = .ok (.getfield 302, 3) := by decide +kernel
theorem dX6_growTree_141 : decode cX6_growTree 141 = .ok (.iaload, 1) := by decide +kernel
theorem dX6_growTree_142 : decode cX6_growTree 142 = .ok (.invokevirtual 321, 3) := by decide +kernel
theorem dX6_growTree_145 : decode cX6_growTree 145 = .ok (.iinc 3 1, 3) := by decide +kernel
theorem dX6_growTree_148 : decode cX6_growTree 148 = .ok (.goto (-81), 3) := by decide +kernel
theorem dX6_growTree_151 : decode cX6_growTree 151 = .ok (.return_, 1) := by decide +kernel
theorem dX6_growChild_0 : decode cX6_growChild 0 = .ok (.aload_n 0, 1) := by decide +kernel
theorem dX6_growChild_1 : decode cX6_growChild 1 = .ok (.getfield 17, 3) := by decide +kernel
theorem dX6_growChild_4 : decode cX6_growChild 4 = .ok (.aload_n 0, 1) := by decide +kernel
theorem dX6_growChild_5 : decode cX6_growChild 5 = .ok (.getfield 24, 3) := by decide +kernel
theorem dX6_growChild_8 : decode cX6_growChild 8 = .ok (.getfield 229, 3) := by decide +kernel
theorem dX6_growChild_11 : decode cX6_growChild 11 = .ok (.iload_n 1, 1) := by decide +kernel
theorem dX6_growChild_12 : decode cX6_growChild 12 = .ok (.aaload, 1) := by decide +kernel
theorem dX6_growChild_13 : decode cX6_growChild 13 = .ok (.getfield 233, 3) := by decide +kernel
theorem dX6_growChild_16 : decode cX6_growChild 16 = .ok (.aaload, 1) := by decide +kernel
theorem dX6_growChild_17 : decode cX6_growChild 17 = .ok (.getfield 116, 3) := by decide +kernel
theorem dX6_growChild_20 : decode cX6_growChild 20 = .ok (.iload_n 2, 1) := by decide +kernel
theorem dX6_growChild_21 : decode cX6_growChild 21 = .ok (.aaload, 1) := by decide +kernel
theorem dX6_growChild_22 : decode cX6_growChild 22 = .ok (.astore 4, 2) := by decide +kernel
theorem dX6_growChild_24 : decode cX6_growChild 24 = .ok (.aload_n 0, 1) := by decide +kernel
theorem dX6_growChild_25 : decode cX6_growChild 25 = .ok (.getfield 11, 3) := by decide +kernel
theorem dX6_growChild_28 : decode cX6_growChild 28 = .ok (.aload 4, 2) := by decide +kernel
theorem dX6_growChild_30 : decode cX6_growChild 30 = .ok (.getfield 247, 3) := by decide +kernel
theorem dX6_growChild_33 : decode cX6_growChild 33 = .ok (.aaload, 1) := by decide +kernel
theorem dX6_growChild_34 : decode cX6_growChild 34 = .ok (.astore 5, 2) := by decide +kernel
theorem dX6_growChild_36 : decode cX6_growChild 36 = .ok (.aload 5, 2) := by decide +kernel
theorem dX6_growChild_38 : decode cX6_growChild 38 = .ok (.getfield 216, 3) := by decide +kernel
theorem dX6_growChild_41 : decode cX6_growChild 41 = .ok (.iload_n 3, 1) := by decide +kernel
theorem dX6_growChild_42 : decode cX6_growChild 42 = .ok (.iaload, 1) := by decide +kernel
theorem dX6_growChild_43 : decode cX6_growChild 43 = .ok (.istore 6, 2) := by decide +kernel
theorem dX6_growChild_45 : decode cX6_growChild 45 = .ok (.aload_n 0, 1) := by decide +kernel
theorem dX6_growChild_46 : decode cX6_growChild 46 = .ok (.getfield 24, 3) := by decide +kernel
theorem dX6_growChild_49 : decode cX6_growChild 49 = .ok (.getfield 229, 3) := by decide +kernel
theorem dX6_growChild_52 : decode cX6_growChild 52 = .ok (.aload_n 0, 1) := by decide +kernel
theorem dX6_growChild_53 : decode cX6_growChild 53 = .ok (.getfield 24, 3) := by decide +kernel
theorem dX6_growChild_56 : decode cX6_growChild 56 = .ok (.getfield 181, 3) := by decide +kernel
theorem dX6_growChild_59 : decode cX6_growChild 59 = .ok (.aaload, 1) := by decide +kernel
theorem dX6_growChild_60 : decode cX6_growChild 60 = .ok (.iload 6, 2) := by decide +kernel
theorem dX6_growChild_62 : decode cX6_growChild 62 = .ok (.iload_n 1, 1) := by decide +kernel
theorem dX6_growChild_63 : decode cX6_growChild 63 = .ok (.iload_n 2, 1) := by decide +kernel
theorem dX6_growChild_64 : decode cX6_growChild 64 = .ok (.iload_n 3, 1) := by decide +kernel
theorem dX6_growChild_65 : decode cX6_growChild 65 = .ok (.invokevirtual 305, 3) := by decide +kernel
theorem dX6_growChild_68 : decode cX6_growChild 68 = .ok (.aload_n 0, 1) := by decide +kernel
theorem dX6_growChild_69 : decode cX6_growChild 69 = .ok (.getfield 24, 3) := by decide +kernel
theorem dX6_growChild_72 : decode cX6_growChild 72 = .ok (.aload_n 0, 1) := by decide +kernel
theorem dX6_growChild_73 : decode cX6_growChild 73 = .ok (.getfield 17, 3) := by decide +kernel
theorem dX6_growChild_76 : decode cX6_growChild 76 = .ok (.iload 6, 2) := by decide +kernel
theorem dX6_growChild_78 : decode cX6_growChild 78 = .ok (.aaload, 1) := by decide +kernel
theorem dX6_growChild_79 : decode cX6_growChild 79 = .ok (.aload 5, 2) := by decide +kernel
theorem dX6_growChild_81 : decode cX6_growChild 81 = .ok (.getfield 219, 3) := by decide +kernel
theorem dX6_growChild_84 : decode cX6_growChild 84 = .ok (.iload_n 3, 1) := by decide +kernel
theorem dX6_growChild_85 : decode cX6_growChild 85 = .ok (.iaload, 1) := by decide +kernel
theorem dX6_growChild_86 : decode cX6_growChild 86 = .ok (.aload 5, 2) := by decide +kernel
theorem dX6_growChild_88 : decode cX6_growChild 88 = .ok (.getfield 222, 3) := by decide +kernel
theorem dX6_growChild_91 : decode cX6_growChild 91 = .ok (.iload_n 3, 1) := by decide +kernel
theorem dX6_growChild_92 : decode cX6_growChild 92 = .ok (.iaload, 1) := by decide +kernel
theorem dX6_growChild_93 : decode cX6_growChild 93 = .ok (.invokevirtual 308, 3) := by decide +kernel
theorem dX6_growChild_96 : decode cX6_growChild 96 = .ok (.return_, 1) := by decide +kernel
theorem dX6_refineAlarm_0 : decode cX6_refineAlarm 0 = .ok (.aload_n 0, 1) := by decide +kernel
theorem dX6_refineAlarm_1 : decode cX6_refineAlarm 1 = .ok (.getfield 24, 3) := by decide +kernel
theorem dX6_refineAlarm_4 : decode cX6_refineAlarm 4 = .ok (.getfield 181, 3) := by decide +kernel
theorem dX6_refineAlarm_7 : decode cX6_refineAlarm 7 = .ok (.bipush 40, 2) := by decide +kernel
theorem dX6_refineAlarm_9 : decode cX6_refineAlarm 9 = .ok (.if_icmp .le 10, 3) := by decide +kernel
theorem dX6_refineAlarm_12 : decode cX6_refineAlarm 12 = .ok (.aload_n 0, 1) := by decide +kernel
theorem dX6_refineAlarm_13 : decode cX6_refineAlarm 13 = .ok (.iconst 3, 1) := by decide +kernel
theorem dX6_refineAlarm_14 : decode cX6_refineAlarm 14 = .ok (.putfield 47, 3) := by decide +kernel
theorem dX6_refineAlarm_17 : decode cX6_refineAlarm 17 = .ok (.iconst 0, 1) := by decide +kernel
theorem dX6_refineAlarm_18 : decode cX6_refineAlarm 18 = .ok (.ireturn, 1) := by decide +kernel
theorem dX6_refineAlarm_19 : decode cX6_refineAlarm 19 = .ok (.aload_n 0, 1) := by decide +kernel
theorem dX6_refineAlarm_20 : decode cX6_refineAlarm 20 = .ok (.invokevirtual 324, 3) := by decide +kernel
theorem dX6_refineAlarm_23 : decode cX6_refineAlarm 23 = .ok (.aload_n 0, 1) := by decide +kernel
theorem dX6_refineAlarm_24 : decode cX6_refineAlarm 24 = .ok (.getfield 24, 3) := by decide +kernel
theorem dX6_refineAlarm_27 : decode cX6_refineAlarm 27 = .ok (.getfield 229, 3) := by decide +kernel
theorem dX6_refineAlarm_30 : decode cX6_refineAlarm 30 = .ok (.iconst 0, 1) := by decide +kernel
theorem dX6_refineAlarm_31 : decode cX6_refineAlarm 31 = .ok (.aaload, 1) := by decide +kernel
theorem dX6_refineAlarm_32 : decode cX6_refineAlarm 32 = .ok (.getfield 327, 3) := by decide +kernel
theorem dX6_refineAlarm_35 : decode cX6_refineAlarm 35 = .ok (.getfield 159, 3) := by decide +kernel
theorem dX6_refineAlarm_38 : decode cX6_refineAlarm 38 = .ok (.ifCond .eq 10, 3) := by decide +kernel
theorem dX6_refineAlarm_41 : decode cX6_refineAlarm 41 = .ok (.aload_n 0, 1) := by decide +kernel
theorem dX6_refineAlarm_42 : decode cX6_refineAlarm 42 = .ok (.iconst 2, 1) := by decide +kernel
theorem dX6_refineAlarm_43 : decode cX6_refineAlarm 43 = .ok (.putfield 47, 3) := by decide +kernel
theorem dX6_refineAlarm_46 : decode cX6_refineAlarm 46 = .ok (.iconst 0, 1) := by decide +kernel
theorem dX6_refineAlarm_47 : decode cX6_refineAlarm 47 = .ok (.ireturn, 1) := by decide +kernel
theorem dX6_refineAlarm_48 : decode cX6_refineAlarm 48 = .ok (.iconst 0, 1) := by decide +kernel
theorem dX6_refineAlarm_49 : decode cX6_refineAlarm 49 = .ok (.istore_n 1, 1) := by decide +kernel
theorem dX6_refineAlarm_50 : decode cX6_refineAlarm 50 = .ok (.iconst 1, 1) := by decide +kernel
theorem dX6_refineAlarm_51 : decode cX6_refineAlarm 51 = .ok (.istore_n 2, 1) := by decide +kernel
theorem dX6_refineAlarm_52 : decode cX6_refineAlarm 52 = .ok (.iload_n 2, 1) := by decide +kernel
theorem dX6_refineAlarm_53 : decode cX6_refineAlarm 53 = .ok (.aload_n 0, 1) := by decide +kernel
theorem dX6_refineAlarm_54 : decode cX6_refineAlarm 54 = .ok (.getfield 24, 3) := by decide +kernel
theorem dX6_refineAlarm_57 : decode cX6_refineAlarm 57 = .ok (.getfield 181, 3) := by decide +kernel
theorem dX6_refineAlarm_60 : decode cX6_refineAlarm 60 = .ok (.if_icmp .ge 25, 3) := by decide +kernel
theorem dX6_refineAlarm_63 : decode cX6_refineAlarm 63 = .ok (.iload_n 1, 1) := by decide +kernel
theorem dX6_refineAlarm_64 : decode cX6_refineAlarm 64 = .ok (.aload_n 0, 1) := by decide +kernel
theorem dX6_refineAlarm_65 : decode cX6_refineAlarm 65 = .ok (.aload_n 0, 1) := by decide +kernel
theorem dX6_refineAlarm_66 : decode cX6_refineAlarm 66 = .ok (.getfield 24, 3) := by decide +kernel
theorem dX6_refineAlarm_69 : decode cX6_refineAlarm 69 = .ok (.getfield 229, 3) := by decide +kernel
theorem dX6_refineAlarm_72 : decode cX6_refineAlarm 72 = .ok (.iload_n 2, 1) := by decide +kernel
theorem dX6_refineAlarm_73 : decode cX6_refineAlarm 73 = .ok (.aaload, 1) := by decide +kernel
theorem dX6_refineAlarm_74 : decode cX6_refineAlarm 74 = .ok (.invokevirtual 330, 3) := by decide +kernel
theorem dX6_refineAlarm_77 : decode cX6_refineAlarm 77 = .ok (.iadd, 1) := by decide +kernel
theorem dX6_refineAlarm_78 : decode cX6_refineAlarm 78 = .ok (.istore_n 1, 1) := by decide +kernel
theorem dX6_refineAlarm_79 : decode cX6_refineAlarm 79 = .ok (.iinc 2 1, 3) := by decide +kernel
theorem dX6_refineAlarm_82 : decode cX6_refineAlarm 82 = .ok (.goto (-30), 3) := by decide +kernel
theorem dX6_refineAlarm_85 : decode cX6_refineAlarm 85 = .ok (.iload_n 1, 1) := by decide +kernel
theorem dX6_refineAlarm_86 : decode cX6_refineAlarm 86 = .ok (.ifCond .ne 11, 3) := by decide +kernel
theorem dX6_refineAlarm_89 : decode cX6_refineAlarm 89 = .ok (.aload_n 0, 1) := by decide +kernel
theorem dX6_refineAlarm_90 : decode cX6_refineAlarm 90 = .ok (.iconst 3, 1) := by decide +kernel
theorem dX6_refineAlarm_91 : decode cX6_refineAlarm 91 = .ok (.putfield 47, 3) := by decide +kernel
theorem dX6_refineAlarm_94 : decode cX6_refineAlarm 94 = .ok (.goto 17, 3) := by decide +kernel
theorem dX6_refineAlarm_97 : decode cX6_refineAlarm 97 = .ok (.aload_n 0, 1) := by decide +kernel
theorem dX6_refineAlarm_98 : decode cX6_refineAlarm 98 = .ok (.dup, 1) := by decide +kernel
theorem dX6_refineAlarm_99 : decode cX6_refineAlarm 99 = .ok (.getfield 184, 3) := by decide +kernel
theorem dX6_refineAlarm_102 : decode cX6_refineAlarm 102 = .ok (.iconst 1, 1) := by decide +kernel
theorem dX6_refineAlarm_103 : decode cX6_refineAlarm 103 = .ok (.iadd, 1) := by decide +kernel
theorem dX6_refineAlarm_104 : decode cX6_refineAlarm 104 = .ok (.putfield 184, 3) := by decide +kernel
theorem dX6_refineAlarm_107 : decode cX6_refineAlarm 107 = .ok (.aload_n 0, 1) := by decide +kernel
theorem dX6_refineAlarm_108 : decode cX6_refineAlarm 108 = .ok (.invokevirtual 68, 3) := by decide +kernel
theorem dX6_refineAlarm_111 : decode cX6_refineAlarm 111 = .ok (.iload_n 1, 1) := by decide +kernel
theorem dX6_refineAlarm_112 : decode cX6_refineAlarm 112 = .ok (.ireturn, 1) := by decide +kernel
theorem dX6_closeTree_0 : decode cX6_closeTree 0 = .ok (.iconst 0, 1) := by decide +kernel
theorem dX6_closeTree_1 : decode cX6_closeTree 1 = .ok (.istore_n 1, 1) := by decide +kernel
theorem dX6_closeTree_2 : decode cX6_closeTree 2 = .ok (.iload_n 1, 1) := by decide +kernel
theorem dX6_closeTree_3 : decode cX6_closeTree 3 = .ok (.aload_n 0, 1) := by decide +kernel
theorem dX6_closeTree_4 : decode cX6_closeTree 4 = .ok (.getfield 24, 3) := by decide +kernel
theorem dX6_closeTree_7 : decode cX6_closeTree 7 = .ok (.getfield 181, 3) := by decide +kernel
theorem dX6_closeTree_10 : decode cX6_closeTree 10 = .ok (.if_icmp .ge 38, 3) := by decide +kernel
theorem dX6_closeTree_13 : decode cX6_closeTree 13 = .ok (.aload_n 0, 1) := by decide +kernel
theorem dX6_closeTree_14 : decode cX6_closeTree 14 = .ok (.getfield 24, 3) := by decide +kernel
theorem dX6_closeTree_17 : decode cX6_closeTree 17 = .ok (.getfield 229, 3) := by decide +kernel
theorem dX6_closeTree_20 : decode cX6_closeTree 20 = .ok (.iload_n 1, 1) := by decide +kernel
theorem dX6_closeTree_21 : decode cX6_closeTree 21 = .ok (.aaload, 1) := by decide +kernel
theorem dX6_closeTree_22 : decode cX6_closeTree 22 = .ok (.astore_n 2, 1) := by decide +kernel
theorem dX6_closeTree_23 : decode cX6_closeTree 23 = .ok (.aload_n 2, 1) := by decide +kernel
theorem dX6_closeTree_24 : decode cX6_closeTree 24 = .ok (.getfield 327, 3) := by decide +kernel
theorem dX6_closeTree_27 : decode cX6_closeTree 27 = .ok (.aload_n 0, 1) := by decide +kernel
theorem dX6_closeTree_28 : decode cX6_closeTree 28 = .ok (.getfield 17, 3) := by decide +kernel
theorem dX6_closeTree_31 : decode cX6_closeTree 31 = .ok (.aload_n 2, 1) := by decide +kernel
theorem dX6_closeTree_32 : decode cX6_closeTree 32 = .ok (.getfield 233, 3) := by decide +kernel
theorem dX6_closeTree_35 : decode cX6_closeTree 35 = .ok (.aaload, 1) := by decide +kernel
theorem dX6_closeTree_36 : decode cX6_closeTree 36 = .ok (.getfield 134, 3) := by decide +kernel
theorem dX6_closeTree_39 : decode cX6_closeTree 39 = .ok (.invokevirtual 291, 3) := by decide +kernel
theorem dX6_closeTree_42 : decode cX6_closeTree 42 = .ok (.iinc 1 1, 3) := by decide +kernel
theorem dX6_closeTree_45 : decode cX6_closeTree 45 = .ok (.goto (-43), 3) := by decide +kernel
theorem dX6_closeTree_48 : decode cX6_closeTree 48 = .ok (.aload_n 0, 1) := by decide +kernel
theorem dX6_closeTree_49 : decode cX6_closeTree 49 = .ok (.getfield 24, 3) := by decide +kernel
theorem dX6_closeTree_52 : decode cX6_closeTree 52 = .ok (.getfield 181, 3) := by decide +kernel
theorem dX6_closeTree_55 : decode cX6_closeTree 55 = .ok (.iconst 1, 1) := by decide +kernel
theorem dX6_closeTree_56 : decode cX6_closeTree 56 = .ok (.isub, 1) := by decide +kernel
theorem dX6_closeTree_57 : decode cX6_closeTree 57 = .ok (.istore_n 1, 1) := by decide +kernel
theorem dX6_closeTree_58 : decode cX6_closeTree 58 = .ok (.iload_n 1, 1) := by decide +kernel
theorem dX6_closeTree_59 : decode cX6_closeTree 59 = .ok (.ifCond .le 22, 3) := by decide +kernel
theorem dX6_closeTree_62 : decode cX6_closeTree 62 = .ok (.aload_n 0, 1) := by decide +kernel
theorem dX6_closeTree_63 : decode cX6_closeTree 63 = .ok (.aload_n 0, 1) := by decide +kernel
theorem dX6_closeTree_64 : decode cX6_closeTree 64 = .ok (.getfield 24, 3) := by decide +kernel
theorem dX6_closeTree_67 : decode cX6_closeTree 67 = .ok (.getfield 229, 3) := by decide +kernel
theorem dX6_closeTree_70 : decode cX6_closeTree 70 = .ok (.iload_n 1, 1) := by decide +kernel
theorem dX6_closeTree_71 : decode cX6_closeTree 71 = .ok (.aaload, 1) := by decide +kernel
theorem dX6_closeTree_72 : decode cX6_closeTree 72 = .ok (.invokevirtual 334, 3) := by decide +kernel
theorem dX6_closeTree_75 : decode cX6_closeTree 75 = .ok (.iinc 1 (-1), 3) := by decide +kernel
theorem dX6_closeTree_78 : decode cX6_closeTree 78 = .ok (.goto (-20), 3) := by decide +kernel
theorem dX6_closeTree_81 : decode cX6_closeTree 81 = .ok (.return_, 1) := by decide +kernel
theorem dX6_handUp_0 : decode cX6_handUp 0 = .ok (.aload_n 0, 1) := by decide +kernel
theorem dX6_handUp_1 : decode cX6_handUp 1 = .ok (.getfield 24, 3) := by decide +kernel
theorem dX6_handUp_4 : decode cX6_handUp 4 = .ok (.getfield 229, 3) := by decide +kernel
theorem dX6_handUp_7 : decode cX6_handUp 7 = .ok (.aload_n 1, 1) := by decide +kernel
theorem dX6_handUp_8 : decode cX6_handUp 8 = .ok (.getfield 238, 3) := by decide +kernel
theorem dX6_handUp_11 : decode cX6_handUp 11 = .ok (.aaload, 1) := by decide +kernel
theorem dX6_handUp_12 : decode cX6_handUp 12 = .ok (.astore_n 2, 1) := by decide +kernel
theorem dX6_handUp_13 : decode cX6_handUp 13 = .ok (.aload_n 1, 1) := by decide +kernel
theorem dX6_handUp_14 : decode cX6_handUp 14 = .ok (.getfield 327, 3) := by decide +kernel
theorem dX6_handUp_17 : decode cX6_handUp 17 = .ok (.getfield 159, 3) := by decide +kernel
theorem dX6_handUp_20 : decode cX6_handUp 20 = .ok (.ifCond .ne 12, 3) := by decide +kernel
theorem dX6_handUp_23 : decode cX6_handUp 23 = .ok (.aload_n 2, 1) := by decide +kernel
theorem dX6_handUp_24 : decode cX6_handUp 24 = .ok (.getfield 327, 3) := by decide +kernel
theorem dX6_handUp_27 : decode cX6_handUp 27 = .ok (.iconst 0, 1) := by decide +kernel
theorem dX6_handUp_28 : decode cX6_handUp 28 = .ok (.putfield 159, 3) := by decide +kernel
theorem dX6_handUp_31 : decode cX6_handUp 31 = .ok (.return_, 1) := by decide +kernel
theorem dX6_handUp_32 : decode cX6_handUp 32 = .ok (.aload_n 0, 1) := by decide +kernel
theorem dX6_handUp_33 : decode cX6_handUp 33 = .ok (.getfield 17, 3) := by decide +kernel
theorem dX6_handUp_36 : decode cX6_handUp 36 = .ok (.aload_n 1, 1) := by decide +kernel
theorem dX6_handUp_37 : decode cX6_handUp 37 = .ok (.getfield 233, 3) := by decide +kernel
theorem dX6_handUp_40 : decode cX6_handUp 40 = .ok (.aaload, 1) := by decide +kernel
theorem dX6_handUp_41 : decode cX6_handUp 41 = .ok (.getfield 103, 3) := by decide +kernel
theorem dX6_handUp_44 : decode cX6_handUp 44 = .ok (.astore_n 3, 1) := by decide +kernel
theorem dX6_handUp_45 : decode cX6_handUp 45 = .ok (.aload_n 0, 1) := by decide +kernel
theorem dX6_handUp_46 : decode cX6_handUp 46 = .ok (.getfield 17, 3) := by decide +kernel
theorem dX6_handUp_49 : decode cX6_handUp 49 = .ok (.aload_n 2, 1) := by decide +kernel
theorem dX6_handUp_50 : decode cX6_handUp 50 = .ok (.getfield 233, 3) := by decide +kernel
theorem dX6_handUp_53 : decode cX6_handUp 53 = .ok (.aaload, 1) := by decide +kernel
theorem dX6_handUp_54 : decode cX6_handUp 54 = .ok (.getfield 116, 3) := by decide +kernel
theorem dX6_handUp_57 : decode cX6_handUp 57 = .ok (.aload_n 1, 1) := by decide +kernel
theorem dX6_handUp_58 : decode cX6_handUp 58 = .ok (.getfield 338, 3) := by decide +kernel
theorem dX6_handUp_61 : decode cX6_handUp 61 = .ok (.aaload, 1) := by decide +kernel
theorem dX6_handUp_62 : decode cX6_handUp 62 = .ok (.astore 4, 2) := by decide +kernel
theorem dX6_handUp_64 : decode cX6_handUp 64 = .ok (.aload_n 0, 1) := by decide +kernel
theorem dX6_handUp_65 : decode cX6_handUp 65 = .ok (.getfield 11, 3) := by decide +kernel
theorem dX6_handUp_68 : decode cX6_handUp 68 = .ok (.aload_n 3, 1) := by decide +kernel
theorem dX6_handUp_69 : decode cX6_handUp 69 = .ok (.getfield 247, 3) := by decide +kernel
theorem dX6_handUp_72 : decode cX6_handUp 72 = .ok (.aaload, 1) := by decide +kernel
theorem dX6_handUp_73 : decode cX6_handUp 73 = .ok (.astore 5, 2) := by decide +kernel
theorem dX6_handUp_75 : decode cX6_handUp 75 = .ok (.iconst 0, 1) := by decide +kernel
theorem dX6_handUp_76 : decode cX6_handUp 76 = .ok (.istore 6, 2) := by decide +kernel
theorem dX6_handUp_78 : decode cX6_handUp 78 = .ok (.iload 6, 2) := by decide +kernel
theorem dX6_handUp_80 : decode cX6_handUp 80 = .ok (.iconst 3, 1) := by decide +kernel
theorem dX6_handUp_81 : decode cX6_handUp 81 = .ok (.if_icmp .ge 80, 3) := by decide +kernel
theorem dX6_handUp_84 : decode cX6_handUp 84 = .ok (.iconst 0, 1) := by decide +kernel
theorem dX6_handUp_85 : decode cX6_handUp 85 = .ok (.istore 7, 2) := by decide +kernel
theorem dX6_handUp_87 : decode cX6_handUp 87 = .ok (.iload 7, 2) := by decide +kernel
theorem dX6_handUp_89 : decode cX6_handUp 89 = .ok (.iconst 3, 1) := by decide +kernel
theorem dX6_handUp_90 : decode cX6_handUp 90 = .ok (.if_icmp .ge 65, 3) := by decide +kernel
theorem dX6_handUp_93 : decode cX6_handUp 93 = .ok (.aload 5, 2) := by decide +kernel
theorem dX6_handUp_95 : decode cX6_handUp 95 = .ok (.iload 6, 2) := by decide +kernel
theorem dX6_handUp_97 : decode cX6_handUp 97 = .ok (.iload 7, 2) := by decide +kernel
theorem dX6_handUp_99 : decode cX6_handUp 99 = .ok (.invokevirtual 341, 3) := by decide +kernel
theorem dX6_handUp_102 : decode cX6_handUp 102 = .ok (.ifCond .eq 47, 3) := by decide +kernel
theorem dX6_handUp_105 : decode cX6_handUp 105 = .ok (.aload_n 1, 1) := by decide +kernel
theorem dX6_handUp_106 : decode cX6_handUp 106 = .ok (.getfield 327, 3) := by decide +kernel
theorem dX6_handUp_109 : decode cX6_handUp 109 = .ok (.aload_n 3, 1) := by decide +kernel
theorem dX6_handUp_110 : decode cX6_handUp 110 = .ok (.iload 6, 2) := by decide +kernel
theorem dX6_handUp_112 : decode cX6_handUp 112 = .ok (.invokevirtual 344, 3) := by decide +kernel
theorem dX6_handUp_115 : decode cX6_handUp 115 = .ok (.aload_n 3, 1) := by decide +kernel
theorem dX6_handUp_116 : decode cX6_handUp 116 = .ok (.iload 7, 2) := by decide +kernel
theorem dX6_handUp_118 : decode cX6_handUp 118 = .ok (.invokevirtual 344, 3) := by decide +kernel
theorem dX6_handUp_121 : decode cX6_handUp 121 = .ok (.invokevirtual 168, 3) := by decide +kernel
theorem dX6_handUp_124 : decode cX6_handUp 124 = .ok (.istore 8, 2) := by decide +kernel
theorem dX6_handUp_126 : decode cX6_handUp 126 = .ok (.aload_n 2, 1) := by decide +kernel
theorem dX6_handUp_127 : decode cX6_handUp 127 = .ok (.getfield 327, 3) := by decide +kernel
theorem dX6_handUp_130 : decode cX6_handUp 130 = .ok (.aload 4, 2) := by decide +kernel
theorem dX6_handUp_132 : decode cX6_handUp 132 = .ok (.iload 6, 2) := by decide +kernel
theorem dX6_handUp_134 : decode cX6_handUp 134 = .ok (.invokevirtual 344, 3) := by decide +kernel
theorem dX6_handUp_137 : decode cX6_handUp 137 = .ok (.aload 4, 2) := by decide +kernel
theorem dX6_handUp_139 : decode cX6_handUp 139 = .ok (.iload 7, 2) := by decide +kernel
theorem dX6_handUp_141 : decode cX6_handUp 141 = .ok (.invokevirtual 344, 3) := by decide +kernel
theorem dX6_handUp_144 : decode cX6_handUp 144 = .ok (.iload 8, 2) := by decide +kernel
theorem dX6_handUp_146 : decode cX6_handUp 146 = .ok (.invokevirtual 137, 3) := by decide +kernel
theorem dX6_handUp_149 : decode cX6_handUp 149 = .ok (.iinc 7 1, 3) := by decide +kernel
theorem dX6_handUp_152 : decode cX6_handUp 152 = .ok (.goto (-65), 3) := by decide +kernel
theorem dX6_handUp_155 : decode cX6_handUp 155 = .ok (.iinc 6 1, 3) := by decide +kernel
theorem dX6_handUp_158 : decode cX6_handUp 158 = .ok (.goto (-80), 3) := by decide +kernel
theorem dX6_handUp_161 : decode cX6_handUp 161 = .ok (.return_, 1) := by decide +kernel
theorem dX6_markBy_0 : decode cX6_markBy 0 = .ok (.aload_n 1, 1) := by decide +kernel
theorem dX6_markBy_1 : decode cX6_markBy 1 = .ok (.getfield 327, 3) := by decide +kernel
theorem dX6_markBy_4 : decode cX6_markBy 4 = .ok (.getfield 159, 3) := by decide +kernel
theorem dX6_markBy_7 : decode cX6_markBy 7 = .ok (.ifCond .ne 5, 3) := by decide +kernel
theorem dX6_markBy_10 : decode cX6_markBy 10 = .ok (.iconst 0, 1) := by decide +kernel
theorem dX6_markBy_11 : decode cX6_markBy 11 = .ok (.ireturn, 1) := by decide +kernel
theorem dX6_markBy_12 : decode cX6_markBy 12 = .ok (.aload_n 0, 1) := by decide +kernel
theorem dX6_markBy_13 : decode cX6_markBy 13 = .ok (.getfield 17, 3) := by decide +kernel
theorem dX6_markBy_16 : decode cX6_markBy 16 = .ok (.aload_n 1, 1) := by decide +kernel
theorem dX6_markBy_17 : decode cX6_markBy 17 = .ok (.getfield 233, 3) := by decide +kernel
theorem dX6_markBy_20 : decode cX6_markBy 20 = .ok (.aaload, 1) := by decide +kernel
theorem dX6_markBy_21 : decode cX6_markBy 21 = .ok (.getfield 103, 3) := by decide +kernel
theorem dX6_markBy_24 : decode cX6_markBy 24 = .ok (.astore_n 2, 1) := by decide +kernel
theorem dX6_markBy_25 : decode cX6_markBy 25 = .ok (.aload_n 0, 1) := by decide +kernel
theorem dX6_markBy_26 : decode cX6_markBy 26 = .ok (.getfield 11, 3) := by decide +kernel
theorem dX6_markBy_29 : decode cX6_markBy 29 = .ok (.aload_n 2, 1) := by decide +kernel
theorem dX6_markBy_30 : decode cX6_markBy 30 = .ok (.getfield 247, 3) := by decide +kernel
theorem dX6_markBy_33 : decode cX6_markBy 33 = .ok (.aaload, 1) := by decide +kernel
theorem dX6_markBy_34 : decode cX6_markBy 34 = .ok (.astore_n 3, 1) := by decide +kernel
theorem dX6_markBy_35 : decode cX6_markBy 35 = .ok (.iconst 0, 1) := by decide +kernel
theorem dX6_markBy_36 : decode cX6_markBy 36 = .ok (.istore 4, 2) := by decide +kernel
theorem dX6_markBy_38 : decode cX6_markBy 38 = .ok (.iconst 0, 1) := by decide +kernel
theorem dX6_markBy_39 : decode cX6_markBy 39 = .ok (.istore 5, 2) := by decide +kernel
theorem dX6_markBy_41 : decode cX6_markBy 41 = .ok (.iload 5, 2) := by decide +kernel
theorem dX6_markBy_43 : decode cX6_markBy 43 = .ok (.iconst 3, 1) := by decide +kernel
theorem dX6_markBy_44 : decode cX6_markBy 44 = .ok (.if_icmp .ge 92, 3) := by decide +kernel
theorem dX6_markBy_47 : decode cX6_markBy 47 = .ok (.iconst 0, 1) := by decide +kernel
theorem dX6_markBy_48 : decode cX6_markBy 48 = .ok (.istore 6, 2) := by decide +kernel
theorem dX6_markBy_50 : decode cX6_markBy 50 = .ok (.iload 6, 2) := by decide +kernel
theorem dX6_markBy_52 : decode cX6_markBy 52 = .ok (.iconst 3, 1) := by decide +kernel
theorem dX6_markBy_53 : decode cX6_markBy 53 = .ok (.if_icmp .ge 77, 3) := by decide +kernel
theorem dX6_markBy_56 : decode cX6_markBy 56 = .ok (.aload_n 1, 1) := by decide +kernel
theorem dX6_markBy_57 : decode cX6_markBy 57 = .ok (.getfield 327, 3) := by decide +kernel
theorem dX6_markBy_60 : decode cX6_markBy 60 = .ok (.aload_n 2, 1) := by decide +kernel
theorem dX6_markBy_61 : decode cX6_markBy 61 = .ok (.iload 5, 2) := by decide +kernel
theorem dX6_markBy_63 : decode cX6_markBy 63 = .ok (.invokevirtual 344, 3) := by decide +kernel
theorem dX6_markBy_66 : decode cX6_markBy 66 = .ok (.aload_n 2, 1) := by decide +kernel
theorem dX6_markBy_67 : decode cX6_markBy 67 = .ok (.iload 6, 2) := by decide +kernel
theorem dX6_markBy_69 : decode cX6_markBy 69 = .ok (.invokevirtual 344, 3) := by decide +kernel
theorem dX6_markBy_72 : decode cX6_markBy 72 = .ok (.invokevirtual 168, 3) := by decide +kernel
theorem dX6_markBy_75 : decode cX6_markBy 75 = .ok (.istore 7, 2) := by decide +kernel
theorem dX6_markBy_77 : decode cX6_markBy 77 = .ok (.aload_n 3, 1) := by decide +kernel
theorem dX6_markBy_78 : decode cX6_markBy 78 = .ok (.getfield 81, 3) := by decide +kernel
theorem dX6_markBy_81 : decode cX6_markBy 81 = .ok (.iconst 4, 1) := by decide +kernel
theorem dX6_markBy_82 : decode cX6_markBy 82 = .ok (.if_icmp .ge 42, 3) := by decide +kernel
theorem dX6_markBy_85 : decode cX6_markBy 85 = .ok (.aload_n 3, 1) := by decide +kernel
theorem dX6_markBy_86 : decode cX6_markBy 86 = .ok (.iload 5, 2) := by decide +kernel
theorem dX6_markBy_88 : decode cX6_markBy 88 = .ok (.iload 6, 2) := by decide +kernel
theorem dX6_markBy_90 : decode cX6_markBy 90 = .ok (.iload 7, 2) := by decide +kernel
theorem dX6_markBy_92 : decode cX6_markBy 92 = .ok (.invokevirtual 75, 3) := by decide +kernel
theorem dX6_markBy_95 : decode cX6_markBy 95 = .ok (.ifCond .eq 29, 3) := by decide +kernel
theorem dX6_markBy_98 : decode cX6_markBy 98 = .ok (.aload_n 3, 1) := by decide +kernel
theorem dX6_markBy_99 : decode cX6_markBy 99 = .ok (.iload 5, 2) := by decide +kernel
theorem dX6_markBy_101 : decode cX6_markBy 101 = .ok (.iload 6, 2) := by decide +kernel
theorem dX6_markBy_103 : decode cX6_markBy 103 = .ok (.iload 7, 2) := by decide +kernel
theorem dX6_markBy_105 : decode cX6_markBy 105 = .ok (.invokevirtual 84, 3) := by decide +kernel
theorem dX6_markBy_108 : decode cX6_markBy 108 = .ok (.ifCond .ne 16, 3) := by decide +kernel
theorem dX6_markBy_111 : decode cX6_markBy 111 = .ok (.aload_n 3, 1) := by decide +kernel
theorem dX6_markBy_112 : decode cX6_markBy 112 = .ok (.iload 5, 2) := by decide +kernel
theorem dX6_markBy_114 : decode cX6_markBy 114 = .ok (.iload 6, 2) := by decide +kernel
theorem dX6_markBy_116 : decode cX6_markBy 116 = .ok (.iload 7, 2) := by decide +kernel
theorem dX6_markBy_118 : decode cX6_markBy 118 = .ok (.invokevirtual 89, 3) := by decide +kernel
theorem dX6_markBy_121 : decode cX6_markBy 121 = .ok (.iinc 4 1, 3) := by decide +kernel
theorem dX6_markBy_124 : decode cX6_markBy 124 = .ok (.iinc 6 1, 3) := by decide +kernel
theorem dX6_markBy_127 : decode cX6_markBy 127 = .ok (.goto (-77), 3) := by decide +kernel
theorem dX6_markBy_130 : decode cX6_markBy 130 = .ok (.iinc 5 1, 3) := by decide +kernel
theorem dX6_markBy_133 : decode cX6_markBy 133 = .ok (.goto (-92), 3) := by decide +kernel
theorem dX6_markBy_136 : decode cX6_markBy 136 = .ok (.iload 4, 2) := by decide +kernel
theorem dX6_markBy_138 : decode cX6_markBy 138 = .ok (.ireturn, 1) := by decide +kernel
theorem dX7_init_0 : decode cX7_init 0 = .ok (.aload_n 0, 1) := by decide +kernel
theorem dX7_init_1 : decode cX7_init 1 = .ok (.invokespecial 1, 3) := by decide +kernel
theorem dX7_init_4 : decode cX7_init 4 = .ok (.aload_n 0, 1) := by decide +kernel
theorem dX7_init_5 : decode cX7_init 5 = .ok (.iconst 4, 1) := by decide +kernel
theorem dX7_init_6 : decode cX7_init 6 = .ok (.newarray .int, 2) := by decide +kernel
theorem dX7_init_8 : decode cX7_init 8 = .ok (.putfield 7, 3) := by decide +kernel
theorem dX7_init_11 : decode cX7_init 11 = .ok (.aload_n 0, 1) := by decide +kernel
theorem dX7_init_12 : decode cX7_init 12 = .ok (.iconst 4, 1) := by decide +kernel
theorem dX7_init_13 : decode cX7_init 13 = .ok (.newarray .int, 2) := by decide +kernel
theorem dX7_init_15 : decode cX7_init 15 = .ok (.putfield 13, 3) := by decide +kernel
theorem dX7_init_18 : decode cX7_init 18 = .ok (.aload_n 0, 1) := by decide +kernel
theorem dX7_init_19 : decode cX7_init 19 = .ok (.bipush 16, 2) := by decide +kernel
theorem dX7_init_21 : decode cX7_init 21 = .ok (.newarray .int, 2) := by decide +kernel
theorem dX7_init_23 : decode cX7_init 23 = .ok (.putfield 16, 3) := by decide +kernel
theorem dX7_init_26 : decode cX7_init 26 = .ok (.aload_n 0, 1) := by decide +kernel
theorem dX7_init_27 : decode cX7_init 27 = .ok (.bipush 16, 2) := by decide +kernel
theorem dX7_init_29 : decode cX7_init 29 = .ok (.newarray .int, 2) := by decide +kernel
theorem dX7_init_31 : decode cX7_init 31 = .ok (.putfield 19, 3) := by decide +kernel
theorem dX7_init_34 : decode cX7_init 34 = .ok (.aload_n 0, 1) := by decide +kernel
theorem dX7_init_35 : decode cX7_init 35 = .ok (.bipush 16, 2) := by decide +kernel
theorem dX7_init_37 : decode cX7_init 37 = .ok (.newarray .int, 2) := by decide +kernel
theorem dX7_init_39 : decode cX7_init 39 = .ok (.putfield 22, 3) := by decide +kernel
theorem dX7_init_42 : decode cX7_init 42 = .ok (.aload_n 0, 1) := by decide +kernel
theorem dX7_init_43 : decode cX7_init 43 = .ok (.bipush 12, 2) := by decide +kernel
theorem dX7_init_45 : decode cX7_init 45 = .ok (.newarray .int, 2) := by decide +kernel
theorem dX7_init_47 : decode cX7_init 47 = .ok (.putfield 25, 3) := by decide +kernel
theorem dX7_init_50 : decode cX7_init 50 = .ok (.aload_n 0, 1) := by decide +kernel
theorem dX7_init_51 : decode cX7_init 51 = .ok (.bipush 24, 2) := by decide +kernel
theorem dX7_init_53 : decode cX7_init 53 = .ok (.newarray .int, 2) := by decide +kernel
theorem dX7_init_55 : decode cX7_init 55 = .ok (.putfield 28, 3) := by decide +kernel
theorem dX7_init_58 : decode cX7_init 58 = .ok (.aload_n 0, 1) := by decide +kernel
theorem dX7_init_59 : decode cX7_init 59 = .ok (.bipush 12, 2) := by decide +kernel
theorem dX7_init_61 : decode cX7_init 61 = .ok (.newarray .int, 2) := by decide +kernel
theorem dX7_init_63 : decode cX7_init 63 = .ok (.putfield 31, 3) := by decide +kernel
theorem dX7_init_66 : decode cX7_init 66 = .ok (.aload_n 0, 1) := by decide +kernel
theorem dX7_init_67 : decode cX7_init 67 = .ok (.bipush 24, 2) := by decide +kernel
theorem dX7_init_69 : decode cX7_init 69 = .ok (.newarray .int, 2) := by decide +kernel
theorem dX7_init_71 : decode cX7_init 71 = .ok (.putfield 34, 3) := by decide +kernel
theorem dX7_init_74 : decode cX7_init 74 = .ok (.aload_n 0, 1) := by decide +kernel
theorem dX7_init_75 : decode cX7_init 75 = .ok (.bipush 48, 2) := by decide +kernel
theorem dX7_init_77 : decode cX7_init 77 = .ok (.newarray .int, 2) := by decide +kernel
theorem dX7_init_79 : decode cX7_init 79 = .ok (.putfield 37, 3) := by decide +kernel
theorem dX7_init_82 : decode cX7_init 82 = .ok (.aload_n 0, 1) := by decide +kernel
theorem dX7_init_83 : decode cX7_init 83 = .ok (.bipush 12, 2) := by decide +kernel
theorem dX7_init_85 : decode cX7_init 85 = .ok (.newarray .int, 2) := by decide +kernel
theorem dX7_init_87 : decode cX7_init 87 = .ok (.putfield 40, 3) := by decide +kernel
theorem dX7_init_90 : decode cX7_init 90 = .ok (.aload_n 0, 1) := by decide +kernel
theorem dX7_init_91 : decode cX7_init 91 = .ok (.bipush 96, 2) := by decide +kernel
theorem dX7_init_93 : decode cX7_init 93 = .ok (.newarray .int, 2) := by decide +kernel
theorem dX7_init_95 : decode cX7_init 95 = .ok (.putfield 43, 3) := by decide +kernel
theorem dX7_init_98 : decode cX7_init 98 = .ok (.aload_n 0, 1) := by decide +kernel
theorem dX7_init_99 : decode cX7_init 99 = .ok (.bipush 96, 2) := by decide +kernel
theorem dX7_init_101 : decode cX7_init 101 = .ok (.newarray .int, 2) := by decide +kernel
theorem dX7_init_103 : decode cX7_init 103 = .ok (.putfield 46, 3) := by decide +kernel
theorem dX7_init_106 : decode cX7_init 106 = .ok (.aload_n 0, 1) := by decide +kernel
theorem dX7_init_107 : decode cX7_init 107 = .ok (.bipush 96, 2) := by decide +kernel
theorem dX7_init_109 : decode cX7_init 109 = .ok (.newarray .int, 2) := by decide +kernel
theorem dX7_init_111 : decode cX7_init 111 = .ok (.putfield 49, 3) := by decide +kernel
theorem dX7_init_114 : decode cX7_init 114 = .ok (.aload_n 0, 1) := by decide +kernel
theorem dX7_init_115 : decode cX7_init 115 = .ok (.bipush 64, 2) := by decide +kernel
theorem dX7_init_117 : decode cX7_init 117 = .ok (.newarray .int, 2) := by decide +kernel
theorem dX7_init_119 : decode cX7_init 119 = .ok (.putfield 52, 3) := by decide +kernel
theorem dX7_init_122 : decode cX7_init 122 = .ok (.aload_n 0, 1) := by decide +kernel
theorem dX7_init_123 : decode cX7_init 123 = .ok (.bipush 64, 2) := by decide +kernel
theorem dX7_init_125 : decode cX7_init 125 = .ok (.newarray .int, 2) := by decide +kernel
theorem dX7_init_127 : decode cX7_init 127 = .ok (.putfield 55, 3) := by decide +kernel
theorem dX7_init_130 : decode cX7_init 130 = .ok (.aload_n 0, 1) := by decide +kernel
theorem dX7_init_131 : decode cX7_init 131 = .ok (.sipush 128, 3) := by decide +kernel
theorem dX7_init_134 : decode cX7_init 134 = .ok (.newarray .int, 2) := by decide +kernel
theorem dX7_init_136 : decode cX7_init 136 = .ok (.putfield 58, 3) := by decide +kernel
theorem dX7_init_139 : decode cX7_init 139 = .ok (.aload_n 0, 1) := by decide +kernel
theorem dX7_init_140 : decode cX7_init 140 = .ok (.iconst (-1), 1) := by decide +kernel
theorem dX7_init_141 : decode cX7_init 141 = .ok (.putfield 61, 3) := by decide +kernel
theorem dX7_init_144 : decode cX7_init 144 = .ok (.aload_n 0, 1) := by decide +kernel
theorem dX7_init_145 : decode cX7_init 145 = .ok (.iconst 2, 1) := by decide +kernel
theorem dX7_init_146 : decode cX7_init 146 = .ok (.newarray .int, 2) := by decide +kernel
theorem dX7_init_148 : decode cX7_init 148 = .ok (.putfield 65, 3) := by decide +kernel
theorem dX7_init_151 : decode cX7_init 151 = .ok (.aload_n 0, 1) := by decide +kernel
theorem dX7_init_152 : decode cX7_init 152 = .ok (.sipush 800, 3) := by decide +kernel
theorem dX7_init_155 : decode cX7_init 155 = .ok (.newarray .int, 2) := by decide +kernel
theorem dX7_init_157 : decode cX7_init 157 = .ok (.putfield 68, 3) := by decide +kernel
theorem dX7_init_160 : decode cX7_init 160 = .ok (.aload_n 0, 1) := by decide +kernel
theorem dX7_init_161 : decode cX7_init 161 = .ok (.sipush 800, 3) := by decide +kernel
theorem dX7_init_164 : decode cX7_init 164 = .ok (.newarray .int, 2) := by decide +kernel
theorem dX7_init_166 : decode cX7_init 166 = .ok (.putfield 71, 3) := by decide +kernel
theorem dX7_init_169 : decode cX7_init 169 = .ok (.aload_n 0, 1) := by decide +kernel
theorem dX7_init_170 : decode cX7_init 170 = .ok (.sipush 800, 3) := by decide +kernel
theorem dX7_init_173 : decode cX7_init 173 = .ok (.newarray .int, 2) := by decide +kernel
theorem dX7_init_175 : decode cX7_init 175 = .ok (.putfield 74, 3) := by decide +kernel
theorem dX7_init_178 : decode cX7_init 178 = .ok (.aload_n 0, 1) := by decide +kernel
theorem dX7_init_179 : decode cX7_init 179 = .ok (.sipush 201, 3) := by decide +kernel
theorem dX7_init_182 : decode cX7_init 182 = .ok (.newarray .int, 2) := by decide +kernel
theorem dX7_init_184 : decode cX7_init 184 = .ok (.putfield 77, 3) := by decide +kernel
theorem dX7_init_187 : decode cX7_init 187 = .ok (.aload_n 0, 1) := by decide +kernel
theorem dX7_init_188 : decode cX7_init 188 = .ok (.bipush 41, 2) := by decide +kernel
theorem dX7_init_190 : decode cX7_init 190 = .ok (.newarray .int, 2) := by decide +kernel
theorem dX7_init_192 : decode cX7_init 192 = .ok (.putfield 80, 3) := by decide +kernel
theorem dX7_init_195 : decode cX7_init 195 = .ok (.aload_n 0, 1) := by decide +kernel
theorem dX7_init_196 : decode cX7_init 196 = .ok (.bipush 41, 2) := by decide +kernel
theorem dX7_init_198 : decode cX7_init 198 = .ok (.newarray .int, 2) := by decide +kernel
theorem dX7_init_200 : decode cX7_init 200 = .ok (.putfield 83, 3) := by decide +kernel
theorem dX7_init_203 : decode cX7_init 203 = .ok (.aload_n 0, 1) := by decide +kernel
theorem dX7_init_204 : decode cX7_init 204 = .ok (.bipush 41, 2) := by decide +kernel
theorem dX7_init_206 : decode cX7_init 206 = .ok (.newarray .int, 2) := by decide +kernel
theorem dX7_init_208 : decode cX7_init 208 = .ok (.putfield 86, 3) := by decide +kernel
theorem dX7_init_211 : decode cX7_init 211 = .ok (.aload_n 0, 1) := by decide +kernel
theorem dX7_init_212 : decode cX7_init 212 = .ok (.bipush 41, 2) := by decide +kernel
theorem dX7_init_214 : decode cX7_init 214 = .ok (.newarray .int, 2) := by decide +kernel
theorem dX7_init_216 : decode cX7_init 216 = .ok (.putfield 89, 3) := by decide +kernel
theorem dX7_init_219 : decode cX7_init 219 = .ok (.aload_n 0, 1) := by decide +kernel
theorem dX7_init_220 : decode cX7_init 220 = .ok (.bipush 41, 2) := by decide +kernel
theorem dX7_init_222 : decode cX7_init 222 = .ok (.newarray .int, 2) := by decide +kernel
theorem dX7_init_224 : decode cX7_init 224 = .ok (.putfield 92, 3) := by decide +kernel
theorem dX7_init_227 : decode cX7_init 227 = .ok (.aload_n 0, 1) := by decide +kernel
theorem dX7_init_228 : decode cX7_init 228 = .ok (.bipush 90, 2) := by decide +kernel
theorem dX7_init_230 : decode cX7_init 230 = .ok (.newarray .int, 2) := by decide +kernel
theorem dX7_init_232 : decode cX7_init 232 = .ok (.putfield 95, 3) := by decide +kernel
theorem dX7_init_235 : decode cX7_init 235 = .ok (.return_, 1) := by decide +kernel
theorem dX7_thrown_0 : decode cX7_thrown 0 = .ok (.aload_n 0, 1) := by decide +kernel
theorem dX7_thrown_1 : decode cX7_thrown 1 = .ok (.getfield 98, 3) := by decide +kernel
theorem dX7_thrown_4 : decode cX7_thrown 4 = .ok (.ireturn, 1) := by decide +kernel
theorem dX7_fails_0 : decode cX7_fails 0 = .ok (.aload_n 0, 1) := by decide +kernel
theorem dX7_fails_1 : decode cX7_fails 1 = .ok (.iload_n 1, 1) := by decide +kernel
theorem dX7_fails_2 : decode cX7_fails 2 = .ok (.putfield 98, 3) := by decide +kernel
theorem dX7_fails_5 : decode cX7_fails 5 = .ok (.iconst 0, 1) := by decide +kernel
theorem dX7_fails_6 : decode cX7_fails 6 = .ok (.ireturn, 1) := by decide +kernel
theorem dX7_in_0 : decode cX7_in 0 = .ok (.iload_n 0, 1) := by decide +kernel
theorem dX7_in_1 : decode cX7_in 1 = .ok (.iload_n 1, 1) := by decide +kernel
theorem dX7_in_2 : decode cX7_in 2 = .ok (.if_icmp .lt 12, 3) := by decide +kernel
theorem dX7_in_5 : decode cX7_in 5 = .ok (.iload_n 0, 1) := by decide +kernel
theorem dX7_in_6 : decode cX7_in 6 = .ok (.iload_n 2, 1) := by decide +kernel
theorem dX7_in_7 : decode cX7_in 7 = .ok (.if_icmp .gt 7, 3) := by decide +kernel
theorem dX7_in_10 : decode cX7_in 10 = .ok (.iconst 1, 1) := by decide +kernel
theorem dX7_in_11 : decode cX7_in 11 = .ok (.goto 4, 3) := by decide +kernel
theorem dX7_in_14 : decode cX7_in 14 = .ok (.iconst 0, 1) := by decide +kernel
theorem dX7_in_15 : decode cX7_in 15 = .ok (.ireturn, 1) := by decide +kernel
theorem dX7_isRelation_0 : decode cX7_isRelation 0 = .ok (.iload_n 1, 1) := by decide +kernel
theorem dX7_isRelation_1 : decode cX7_isRelation 1 = .ok (.iconst 0, 1) := by decide +kernel
theorem dX7_isRelation_2 : decode cX7_isRelation 2 = .ok (.aload_n 0, 1) := by decide +kernel
theorem dX7_isRelation_3 : decode cX7_isRelation 3 = .ok (.getfield 101, 3) := by decide +kernel
theorem dX7_isRelation_6 : decode cX7_isRelation 6 = .ok (.iconst 1, 1) := by decide +kernel
theorem dX7_isRelation_7 : decode cX7_isRelation 7 = .ok (.isub, 1) := by decide +kernel
theorem dX7_isRelation_8 : decode cX7_isRelation 8 = .ok (.invokestatic 104, 3) := by decide +kernel
theorem dX7_isRelation_11 : decode cX7_isRelation 11 = .ok (.ireturn, 1) := by decide +kernel
theorem dX7_add_0 : decode cX7_add 0 = .ok (.aload_n 0, 1) := by decide +kernel
theorem dX7_add_1 : decode cX7_add 1 = .ok (.getfield 68, 3) := by decide +kernel
theorem dX7_add_4 : decode cX7_add 4 = .ok (.aload_n 0, 1) := by decide +kernel
theorem dX7_add_5 : decode cX7_add 5 = .ok (.getfield 108, 3) := by decide +kernel
theorem dX7_add_8 : decode cX7_add 8 = .ok (.iload_n 2, 1) := by decide +kernel
theorem dX7_add_9 : decode cX7_add 9 = .ok (.iastore, 1) := by decide +kernel
theorem dX7_add_10 : decode cX7_add 10 = .ok (.aload_n 0, 1) := by decide +kernel
theorem dX7_add_11 : decode cX7_add 11 = .ok (.getfield 71, 3) := by decide +kernel
theorem dX7_add_14 : decode cX7_add 14 = .ok (.aload_n 0, 1) := by decide +kernel
theorem dX7_add_15 : decode cX7_add 15 = .ok (.getfield 108, 3) := by decide +kernel
theorem dX7_add_18 : decode cX7_add 18 = .ok (.iload_n 1, 1) := by decide +kernel
theorem dX7_add_19 : decode cX7_add 19 = .ok (.iastore, 1) := by decide +kernel
theorem dX7_add_20 : decode cX7_add 20 = .ok (.aload_n 0, 1) := by decide +kernel
theorem dX7_add_21 : decode cX7_add 21 = .ok (.getfield 74, 3) := by decide +kernel
theorem dX7_add_24 : decode cX7_add 24 = .ok (.aload_n 0, 1) := by decide +kernel
theorem dX7_add_25 : decode cX7_add 25 = .ok (.getfield 108, 3) := by decide +kernel
theorem dX7_add_28 : decode cX7_add 28 = .ok (.iload_n 3, 1) := by decide +kernel
theorem dX7_add_29 : decode cX7_add 29 = .ok (.iastore, 1) := by decide +kernel
theorem dX7_add_30 : decode cX7_add 30 = .ok (.aload_n 0, 1) := by decide +kernel
theorem dX7_add_31 : decode cX7_add 31 = .ok (.dup, 1) := by decide +kernel
theorem dX7_add_32 : decode cX7_add 32 = .ok (.getfield 108, 3) := by decide +kernel
theorem dX7_add_35 : decode cX7_add 35 = .ok (.iconst 1, 1) := by decide +kernel
theorem dX7_add_36 : decode cX7_add 36 = .ok (.iadd, 1) := by decide +kernel
theorem dX7_add_37 : decode cX7_add 37 = .ok (.putfield 108, 3) := by decide +kernel
theorem dX7_add_40 : decode cX7_add 40 = .ok (.return_, 1) := by decide +kernel
theorem dX7_settles_0 : decode cX7_settles 0 = .ok (.iconst 1, 1) := by decide +kernel
theorem dX7_settles_1 : decode cX7_settles 1 = .ok (.istore_n 2, 1) := by decide +kernel
theorem dX7_settles_2 : decode cX7_settles 2 = .ok (.iconst 0, 1) := by decide +kernel
theorem dX7_settles_3 : decode cX7_settles 3 = .ok (.istore_n 3, 1) := by decide +kernel
theorem dX7_settles_4 : decode cX7_settles 4 = .ok (.iload_n 3, 1) := by decide +kernel
theorem dX7_settles_5 : decode cX7_settles 5 = .ok (.iload_n 1, 1) := by decide +kernel
theorem dX7_settles_6 : decode cX7_settles 6 = .ok (.if_icmp .gt 119, 3) := by decide +kernel
theorem dX7_settles_9 : decode cX7_settles 9 = .ok (.iload_n 2, 1) := by decide +kernel
theorem dX7_settles_10 : decode cX7_settles 10 = .ok (.ifCond .eq 115, 3) := by decide +kernel
theorem dX7_settles_13 : decode cX7_settles 13 = .ok (.iconst 0, 1) := by decide +kernel
theorem dX7_settles_14 : decode cX7_settles 14 = .ok (.istore_n 2, 1) := by decide +kernel
theorem dX7_settles_15 : decode cX7_settles 15 = .ok (.iconst 0, 1) := by decide +kernel
theorem dX7_settles_16 : decode cX7_settles 16 = .ok (.istore 4, 2) := by decide +kernel
theorem dX7_settles_18 : decode cX7_settles 18 = .ok (.iload 4, 2) := by decide +kernel
theorem dX7_settles_20 : decode cX7_settles 20 = .ok (.aload_n 0, 1) := by decide +kernel
theorem dX7_settles_21 : decode cX7_settles 21 = .ok (.getfield 108, 3) := by decide +kernel
theorem dX7_settles_24 : decode cX7_settles 24 = .ok (.if_icmp .ge 95, 3) := by decide +kernel
theorem dX7_settles_27 : decode cX7_settles 27 = .ok (.aload_n 0, 1) := by decide +kernel
theorem dX7_settles_28 : decode cX7_settles 28 = .ok (.getfield 77, 3) := by decide +kernel
theorem dX7_settles_31 : decode cX7_settles 31 = .ok (.aload_n 0, 1) := by decide +kernel
theorem dX7_settles_32 : decode cX7_settles 32 = .ok (.getfield 68, 3) := by decide +kernel
theorem dX7_settles_35 : decode cX7_settles 35 = .ok (.iload 4, 2) := by decide +kernel
theorem dX7_settles_37 : decode cX7_settles 37 = .ok (.iaload, 1) := by decide +kernel
theorem dX7_settles_38 : decode cX7_settles 38 = .ok (.iaload, 1) := by decide +kernel
theorem dX7_settles_39 : decode cX7_settles 39 = .ok (.ldc 111, 2) := by decide +kernel
theorem dX7_settles_41 : decode cX7_settles 41 = .ok (.if_icmp .ge 72, 3) := by decide +kernel
theorem dX7_settles_44 : decode cX7_settles 44 = .ok (.aload_n 0, 1) := by decide +kernel
theorem dX7_settles_45 : decode cX7_settles 45 = .ok (.getfield 77, 3) := by decide +kernel
theorem dX7_settles_48 : decode cX7_settles 48 = .ok (.aload_n 0, 1) := by decide +kernel
theorem dX7_settles_49 : decode cX7_settles 49 = .ok (.getfield 68, 3) := by decide +kernel
theorem dX7_settles_52 : decode cX7_settles 52 = .ok (.iload 4, 2) := by decide +kernel
theorem dX7_settles_54 : decode cX7_settles 54 = .ok (.iaload, 1) := by decide +kernel
theorem dX7_settles_55 : decode cX7_settles 55 = .ok (.iaload, 1) := by decide +kernel
theorem dX7_settles_56 : decode cX7_settles 56 = .ok (.aload_n 0, 1) := by decide +kernel
theorem dX7_settles_57 : decode cX7_settles 57 = .ok (.getfield 74, 3) := by decide +kernel
theorem dX7_settles_60 : decode cX7_settles 60 = .ok (.iload 4, 2) := by decide +kernel
theorem dX7_settles_62 : decode cX7_settles 62 = .ok (.iaload, 1) := by decide +kernel
theorem dX7_settles_63 : decode cX7_settles 63 = .ok (.iadd, 1) := by decide +kernel
theorem dX7_settles_64 : decode cX7_settles 64 = .ok (.aload_n 0, 1) := by decide +kernel
theorem dX7_settles_65 : decode cX7_settles 65 = .ok (.getfield 77, 3) := by decide +kernel
theorem dX7_settles_68 : decode cX7_settles 68 = .ok (.aload_n 0, 1) := by decide +kernel
theorem dX7_settles_69 : decode cX7_settles 69 = .ok (.getfield 71, 3) := by decide +kernel
theorem dX7_settles_72 : decode cX7_settles 72 = .ok (.iload 4, 2) := by decide +kernel
theorem dX7_settles_74 : decode cX7_settles 74 = .ok (.iaload, 1) := by decide +kernel
theorem dX7_settles_75 : decode cX7_settles 75 = .ok (.iaload, 1) := by decide +kernel
theorem dX7_settles_76 : decode cX7_settles 76 = .ok (.if_icmp .ge 37, 3) := by decide +kernel
theorem dX7_settles_79 : decode cX7_settles 79 = .ok (.aload_n 0, 1) := by decide +kernel
theorem dX7_settles_80 : decode cX7_settles 80 = .ok (.getfield 77, 3) := by decide +kernel
theorem dX7_settles_83 : decode cX7_settles 83 = .ok (.aload_n 0, 1) := by decide +kernel
theorem dX7_settles_84 : decode cX7_settles 84 = .ok (.getfield 71, 3) := by decide +kernel
theorem dX7_settles_87 : decode cX7_settles 87 = .ok (.iload 4, 2) := by decide +kernel
theorem dX7_settles_89 : decode cX7_settles 89 = .ok (.iaload, 1) := by decide +kernel
theorem dX7_settles_90 : decode cX7_settles 90 = .ok (.aload_n 0, 1) := by decide +kernel
theorem dX7_settles_91 : decode cX7_settles 91 = .ok (.getfield 77, 3) := by decide +kernel
theorem dX7_settles_94 : decode cX7_settles 94 = .ok (.aload_n 0, 1) := by decide +kernel
theorem dX7_settles_95 : decode cX7_settles 95 = .ok (.getfield 68, 3) := by decide +kernel
theorem dX7_settles_98 : decode cX7_settles 98 = .ok (.iload 4, 2) := by decide +kernel
theorem dX7_settles_100 : decode cX7_settles 100 = .ok (.iaload, 1) := by decide +kernel
theorem dX7_settles_101 : decode cX7_settles 101 = .ok (.iaload, 1) := by decide +kernel
theorem dX7_settles_102 : decode cX7_settles 102 = .ok (.aload_n 0, 1) := by decide +kernel
theorem dX7_settles_103 : decode cX7_settles 103 = .ok (.getfield 74, 3) := by decide +kernel
theorem dX7_settles_106 : decode cX7_settles 106 = .ok (.iload 4, 2) := by decide +kernel
theorem dX7_settles_108 : decode cX7_settles 108 = .ok (.iaload, 1) := by decide +kernel
theorem dX7_settles_109 : decode cX7_settles 109 = .ok (.iadd, 1) := by decide +kernel
theorem dX7_settles_110 : decode cX7_settles 110 = .ok (.iastore, 1) := by decide +kernel
theorem dX7_settles_111 : decode cX7_settles 111 = .ok (.iconst 1, 1) := by decide +kernel
theorem dX7_settles_112 : decode cX7_settles 112 = .ok (.istore_n 2, 1) := by decide +kernel
theorem dX7_settles_113 : decode cX7_settles 113 = .ok (.iinc 4 1, 3) := by decide +kernel
theorem dX7_settles_116 : decode cX7_settles 116 = .ok (.goto (-98), 3) := by decide +kernel
theorem dX7_settles_119 : decode cX7_settles 119 = .ok (.iinc 3 1, 3) := by decide +kernel
theorem dX7_settles_122 : decode cX7_settles 122 = .ok (.goto (-118), 3) := by decide +kernel
theorem dX7_settles_125 : decode cX7_settles 125 = .ok (.iload_n 2, 1) := by decide +kernel
theorem dX7_settles_126 : decode cX7_settles 126 = .ok (.ifCond .ne 7, 3) := by decide +kernel
theorem dX7_settles_129 : decode cX7_settles 129 = .ok (.iconst 1, 1) := by decide +kernel
theorem dX7_settles_130 : decode cX7_settles 130 = .ok (.goto 4, 3) := by decide +kernel
theorem dX7_settles_133 : decode cX7_settles 133 = .ok (.iconst 0, 1) := by decide +kernel
theorem dX7_settles_134 : decode cX7_settles 134 = .ok (.ireturn, 1) := by decide +kernel
theorem dX7_holdsTogether_0 : decode cX7_holdsTogether 0 = .ok (.iconst 0, 1) := by decide +kernel
theorem dX7_holdsTogether_1 : decode cX7_holdsTogether 1 = .ok (.istore_n 2, 1) := by decide +kernel
theorem dX7_holdsTogether_2 : decode cX7_holdsTogether 2 = .ok (.iload_n 2, 1) := by decide +kernel
theorem dX7_holdsTogether_3 : decode cX7_holdsTogether 3 = .ok (.iload_n 1, 1) := by decide +kernel
theorem dX7_holdsTogether_4 : decode cX7_holdsTogether 4 = .ok (.if_icmp .ge 16, 3) := by decide +kernel
theorem dX7_holdsTogether_7 : decode cX7_holdsTogether 7 = .ok (.aload_n 0, 1) := by decide +kernel
theorem dX7_holdsTogether_8 : decode cX7_holdsTogether 8 = .ok (.getfield 77, 3) := by decide +kernel
theorem dX7_holdsTogether_11 : decode cX7_holdsTogether 11 = .ok (.iload_n 2, 1) := by decide +kernel
theorem dX7_holdsTogether_12 : decode cX7_holdsTogether 12 = .ok (.iconst 0, 1) := by decide +kernel
theorem dX7_holdsTogether_13 : decode cX7_holdsTogether 13 = .ok (.iastore, 1) := by decide +kernel
theorem dX7_holdsTogether_14 : decode cX7_holdsTogether 14 = .ok (.iinc 2 1, 3) := by decide +kernel
theorem dX7_holdsTogether_17 : decode cX7_holdsTogether 17 = .ok (.goto (-15), 3) := by decide +kernel
theorem dX7_holdsTogether_20 : decode cX7_holdsTogether 20 = .ok (.aload_n 0, 1) := by decide +kernel
theorem dX7_holdsTogether_21 : decode cX7_holdsTogether 21 = .ok (.iload_n 1, 1) := by decide +kernel
theorem dX7_holdsTogether_22 : decode cX7_holdsTogether 22 = .ok (.invokevirtual 112, 3) := by decide +kernel
theorem dX7_holdsTogether_25 : decode cX7_holdsTogether 25 = .ok (.ireturn, 1) := by decide +kernel
theorem dX7_least_0 : decode cX7_least 0 = .ok (.iconst 0, 1) := by decide +kernel
theorem dX7_least_1 : decode cX7_least 1 = .ok (.istore 4, 2) := by decide +kernel
theorem dX7_least_3 : decode cX7_least 3 = .ok (.iload 4, 2) := by decide +kernel
theorem dX7_least_5 : decode cX7_least 5 = .ok (.iload_n 1, 1) := by decide +kernel
theorem dX7_least_6 : decode cX7_least 6 = .ok (.if_icmp .ge 18, 3) := by decide +kernel
theorem dX7_least_9 : decode cX7_least 9 = .ok (.aload_n 0, 1) := by decide +kernel
theorem dX7_least_10 : decode cX7_least 10 = .ok (.getfield 77, 3) := by decide +kernel
theorem dX7_least_13 : decode cX7_least 13 = .ok (.iload 4, 2) := by decide +kernel
theorem dX7_least_15 : decode cX7_least 15 = .ok (.ldc 111, 2) := by decide +kernel
theorem dX7_least_17 : decode cX7_least 17 = .ok (.iastore, 1) := by decide +kernel
theorem dX7_least_18 : decode cX7_least 18 = .ok (.iinc 4 1, 3) := by decide +kernel
theorem dX7_least_21 : decode cX7_least 21 = .ok (.goto (-18), 3) := by decide +kernel
theorem dX7_least_24 : decode cX7_least 24 = .ok (.aload_n 0, 1) := by decide +kernel
theorem dX7_least_25 : decode cX7_least 25 = .ok (.getfield 77, 3) := by decide +kernel
theorem dX7_least_28 : decode cX7_least 28 = .ok (.iload_n 3, 1) := by decide +kernel
theorem dX7_least_29 : decode cX7_least 29 = .ok (.iconst 0, 1) := by decide +kernel
theorem dX7_least_30 : decode cX7_least 30 = .ok (.iastore, 1) := by decide +kernel
theorem dX7_least_31 : decode cX7_least 31 = .ok (.aload_n 0, 1) := by decide +kernel
theorem dX7_least_32 : decode cX7_least 32 = .ok (.iload_n 1, 1) := by decide +kernel
theorem dX7_least_33 : decode cX7_least 33 = .ok (.invokevirtual 112, 3) := by decide +kernel
theorem dX7_least_36 : decode cX7_least 36 = .ok (.pop, 1) := by decide +kernel
theorem dX7_least_37 : decode cX7_least 37 = .ok (.aload_n 0, 1) := by decide +kernel
theorem dX7_least_38 : decode cX7_least 38 = .ok (.getfield 77, 3) := by decide +kernel
theorem dX7_least_41 : decode cX7_least 41 = .ok (.iload_n 2, 1) := by decide +kernel
theorem dX7_least_42 : decode cX7_least 42 = .ok (.iaload, 1) := by decide +kernel
theorem dX7_least_43 : decode cX7_least 43 = .ok (.ireturn, 1) := by decide +kernel
theorem dX7_addBounds_0 : decode cX7_addBounds 0 = .ok (.bipush 8, 2) := by decide +kernel
theorem dX7_addBounds_2 : decode cX7_addBounds 2 = .ok (.iload_n 1, 1) := by decide +kernel
theorem dX7_addBounds_3 : decode cX7_addBounds 3 = .ok (.imul, 1) := by decide +kernel
theorem dX7_addBounds_4 : decode cX7_addBounds 4 = .ok (.istore 4, 2) := by decide +kernel
theorem dX7_addBounds_6 : decode cX7_addBounds 6 = .ok (.iload 4, 2) := by decide +kernel
theorem dX7_addBounds_8 : decode cX7_addBounds 8 = .ok (.bipush 8, 2) := by decide +kernel
theorem dX7_addBounds_10 : decode cX7_addBounds 10 = .ok (.iload_n 1, 1) := by decide +kernel
theorem dX7_addBounds_11 : decode cX7_addBounds 11 = .ok (.imul, 1) := by decide +kernel
theorem dX7_addBounds_12 : decode cX7_addBounds 12 = .ok (.aload_n 0, 1) := by decide +kernel
theorem dX7_addBounds_13 : decode cX7_addBounds 13 = .ok (.getfield 40, 3) := by decide +kernel
theorem dX7_addBounds_16 : decode cX7_addBounds 16 = .ok (.iload_n 1, 1) := by decide +kernel
theorem dX7_addBounds_17 : decode cX7_addBounds 17 = .ok (.iaload, 1) := by decide +kernel
theorem dX7_addBounds_18 : decode cX7_addBounds 18 = .ok (.iadd, 1) := by decide +kernel
theorem dX7_addBounds_19 : decode cX7_addBounds 19 = .ok (.if_icmp .ge 76, 3) := by decide +kernel
theorem dX7_addBounds_22 : decode cX7_addBounds 22 = .ok (.aload_n 0, 1) := by decide +kernel
theorem dX7_addBounds_23 : decode cX7_addBounds 23 = .ok (.getfield 43, 3) := by decide +kernel
theorem dX7_addBounds_26 : decode cX7_addBounds 26 = .ok (.iload 4, 2) := by decide +kernel
theorem dX7_addBounds_28 : decode cX7_addBounds 28 = .ok (.iaload, 1) := by decide +kernel
theorem dX7_addBounds_29 : decode cX7_addBounds 29 = .ok (.iconst 5, 1) := by decide +kernel
theorem dX7_addBounds_30 : decode cX7_addBounds 30 = .ok (.if_icmp .ne 7, 3) := by decide +kernel
theorem dX7_addBounds_33 : decode cX7_addBounds 33 = .ok (.iload_n 3, 1) := by decide +kernel
theorem dX7_addBounds_34 : decode cX7_addBounds 34 = .ok (.goto 12, 3) := by decide +kernel
theorem dX7_addBounds_37 : decode cX7_addBounds 37 = .ok (.iload_n 2, 1) := by decide +kernel
theorem dX7_addBounds_38 : decode cX7_addBounds 38 = .ok (.aload_n 0, 1) := by decide +kernel
theorem dX7_addBounds_39 : decode cX7_addBounds 39 = .ok (.getfield 43, 3) := by decide +kernel
theorem dX7_addBounds_42 : decode cX7_addBounds 42 = .ok (.iload 4, 2) := by decide +kernel
theorem dX7_addBounds_44 : decode cX7_addBounds 44 = .ok (.iaload, 1) := by decide +kernel
theorem dX7_addBounds_45 : decode cX7_addBounds 45 = .ok (.iadd, 1) := by decide +kernel
theorem dX7_addBounds_46 : decode cX7_addBounds 46 = .ok (.istore 5, 2) := by decide +kernel
theorem dX7_addBounds_48 : decode cX7_addBounds 48 = .ok (.aload_n 0, 1) := by decide +kernel
theorem dX7_addBounds_49 : decode cX7_addBounds 49 = .ok (.getfield 46, 3) := by decide +kernel
theorem dX7_addBounds_52 : decode cX7_addBounds 52 = .ok (.iload 4, 2) := by decide +kernel
theorem dX7_addBounds_54 : decode cX7_addBounds 54 = .ok (.iaload, 1) := by decide +kernel
theorem dX7_addBounds_55 : decode cX7_addBounds 55 = .ok (.iconst 5, 1) := by decide +kernel
theorem dX7_addBounds_56 : decode cX7_addBounds 56 = .ok (.if_icmp .ne 7, 3) := by decide +kernel
theorem dX7_addBounds_59 : decode cX7_addBounds 59 = .ok (.iload_n 3, 1) := by decide +kernel
theorem dX7_addBounds_60 : decode cX7_addBounds 60 = .ok (.goto 12, 3) := by decide +kernel
theorem dX7_addBounds_63 : decode cX7_addBounds 63 = .ok (.iload_n 2, 1) := by decide +kernel
theorem dX7_addBounds_64 : decode cX7_addBounds 64 = .ok (.aload_n 0, 1) := by decide +kernel
theorem dX7_addBounds_65 : decode cX7_addBounds 65 = .ok (.getfield 46, 3) := by decide +kernel
theorem dX7_addBounds_68 : decode cX7_addBounds 68 = .ok (.iload 4, 2) := by decide +kernel
theorem dX7_addBounds_70 : decode cX7_addBounds 70 = .ok (.iaload, 1) := by decide +kernel
theorem dX7_addBounds_71 : decode cX7_addBounds 71 = .ok (.iadd, 1) := by decide +kernel
theorem dX7_addBounds_72 : decode cX7_addBounds 72 = .ok (.istore 6, 2) := by decide +kernel
theorem dX7_addBounds_74 : decode cX7_addBounds 74 = .ok (.aload_n 0, 1) := by decide +kernel
theorem dX7_addBounds_75 : decode cX7_addBounds 75 = .ok (.iload 5, 2) := by decide +kernel
theorem dX7_addBounds_77 : decode cX7_addBounds 77 = .ok (.iload 6, 2) := by decide +kernel
theorem dX7_addBounds_79 : decode cX7_addBounds 79 = .ok (.aload_n 0, 1) := by decide +kernel
theorem dX7_addBounds_80 : decode cX7_addBounds 80 = .ok (.getfield 49, 3) := by decide +kernel
theorem dX7_addBounds_83 : decode cX7_addBounds 83 = .ok (.iload 4, 2) := by decide +kernel
theorem dX7_addBounds_85 : decode cX7_addBounds 85 = .ok (.iaload, 1) := by decide +kernel
theorem dX7_addBounds_86 : decode cX7_addBounds 86 = .ok (.invokevirtual 116, 3) := by decide +kernel
theorem dX7_addBounds_89 : decode cX7_addBounds 89 = .ok (.iinc 4 1, 3) := by decide +kernel
theorem dX7_addBounds_92 : decode cX7_addBounds 92 = .ok (.goto (-86), 3) := by decide +kernel
theorem dX7_addBounds_95 : decode cX7_addBounds 95 = .ok (.return_, 1) := by decide +kernel
theorem dX7_addCube_0 : decode cX7_addCube 0 = .ok (.iconst 0, 1) := by decide +kernel
theorem dX7_addCube_1 : decode cX7_addCube 1 = .ok (.istore 6, 2) := by decide +kernel
theorem dX7_addCube_3 : decode cX7_addCube 3 = .ok (.iload 6, 2) := by decide +kernel
theorem dX7_addCube_5 : decode cX7_addCube 5 = .ok (.aload_n 0, 1) := by decide +kernel
theorem dX7_addCube_6 : decode cX7_addCube 6 = .ok (.getfield 13, 3) := by decide +kernel
theorem dX7_addCube_9 : decode cX7_addCube 9 = .ok (.iload_n 1, 1) := by decide +kernel
theorem dX7_addCube_10 : decode cX7_addCube 10 = .ok (.iaload, 1) := by decide +kernel
theorem dX7_addCube_11 : decode cX7_addCube 11 = .ok (.if_icmp .ge 131, 3) := by decide +kernel
theorem dX7_addCube_14 : decode cX7_addCube 14 = .ok (.iconst 4, 1) := by decide +kernel
theorem dX7_addCube_15 : decode cX7_addCube 15 = .ok (.iload_n 1, 1) := by decide +kernel
theorem dX7_addCube_16 : decode cX7_addCube 16 = .ok (.imul, 1) := by decide +kernel
theorem dX7_addCube_17 : decode cX7_addCube 17 = .ok (.iload 6, 2) := by decide +kernel
theorem dX7_addCube_19 : decode cX7_addCube 19 = .ok (.iadd, 1) := by decide +kernel
theorem dX7_addCube_20 : decode cX7_addCube 20 = .ok (.istore 7, 2) := by decide +kernel
theorem dX7_addCube_22 : decode cX7_addCube 22 = .ok (.aload_n 0, 1) := by decide +kernel
theorem dX7_addCube_23 : decode cX7_addCube 23 = .ok (.getfield 16, 3) := by decide +kernel
theorem dX7_addCube_26 : decode cX7_addCube 26 = .ok (.iload 7, 2) := by decide +kernel
theorem dX7_addCube_28 : decode cX7_addCube 28 = .ok (.iaload, 1) := by decide +kernel
theorem dX7_addCube_29 : decode cX7_addCube 29 = .ok (.ifCond .ne 7, 3) := by decide +kernel
theorem dX7_addCube_32 : decode cX7_addCube 32 = .ok (.iload_n 3, 1) := by decide +kernel
theorem dX7_addCube_33 : decode cX7_addCube 33 = .ok (.goto 21, 3) := by decide +kernel
theorem dX7_addCube_36 : decode cX7_addCube 36 = .ok (.aload_n 0, 1) := by decide +kernel
theorem dX7_addCube_37 : decode cX7_addCube 37 = .ok (.getfield 16, 3) := by decide +kernel
theorem dX7_addCube_40 : decode cX7_addCube 40 = .ok (.iload 7, 2) := by decide +kernel
theorem dX7_addCube_42 : decode cX7_addCube 42 = .ok (.iaload, 1) := by decide +kernel
theorem dX7_addCube_43 : decode cX7_addCube 43 = .ok (.iconst 1, 1) := by decide +kernel
theorem dX7_addCube_44 : decode cX7_addCube 44 = .ok (.if_icmp .ne 8, 3) := by decide +kernel
theorem dX7_addCube_47 : decode cX7_addCube 47 = .ok (.iload 4, 2) := by decide +kernel
theorem dX7_addCube_49 : decode cX7_addCube 49 = .ok (.goto 5, 3) := by decide +kernel
theorem dX7_addCube_52 : decode cX7_addCube 52 = .ok (.iload 5, 2) := by decide +kernel
theorem dX7_addCube_54 : decode cX7_addCube 54 = .ok (.istore 8, 2) := by decide +kernel
theorem dX7_addCube_56 : decode cX7_addCube 56 = .ok (.aload_n 0, 1) := by decide +kernel
theorem dX7_addCube_57 : decode cX7_addCube 57 = .ok (.getfield 19, 3) := by decide +kernel
theorem dX7_addCube_60 : decode cX7_addCube 60 = .ok (.iload 7, 2) := by decide +kernel
theorem dX7_addCube_62 : decode cX7_addCube 62 = .ok (.iaload, 1) := by decide +kernel
theorem dX7_addCube_63 : decode cX7_addCube 63 = .ok (.ifCond .ne 7, 3) := by decide +kernel
theorem dX7_addCube_66 : decode cX7_addCube 66 = .ok (.iload_n 3, 1) := by decide +kernel
theorem dX7_addCube_67 : decode cX7_addCube 67 = .ok (.goto 21, 3) := by decide +kernel
theorem dX7_addCube_70 : decode cX7_addCube 70 = .ok (.aload_n 0, 1) := by decide +kernel
theorem dX7_addCube_71 : decode cX7_addCube 71 = .ok (.getfield 19, 3) := by decide +kernel
theorem dX7_addCube_74 : decode cX7_addCube 74 = .ok (.iload 7, 2) := by decide +kernel
theorem dX7_addCube_76 : decode cX7_addCube 76 = .ok (.iaload, 1) := by decide +kernel
theorem dX7_addCube_77 : decode cX7_addCube 77 = .ok (.iconst 1, 1) := by decide +kernel
theorem dX7_addCube_78 : decode cX7_addCube 78 = .ok (.if_icmp .ne 8, 3) := by decide +kernel
theorem dX7_addCube_81 : decode cX7_addCube 81 = .ok (.iload 4, 2) := by decide +kernel
theorem dX7_addCube_83 : decode cX7_addCube 83 = .ok (.goto 5, 3) := by decide +kernel
theorem dX7_addCube_86 : decode cX7_addCube 86 = .ok (.iload 5, 2) := by decide +kernel
theorem dX7_addCube_88 : decode cX7_addCube 88 = .ok (.istore 9, 2) := by decide +kernel
theorem dX7_addCube_90 : decode cX7_addCube 90 = .ok (.iload_n 2, 1) := by decide +kernel
theorem dX7_addCube_91 : decode cX7_addCube 91 = .ok (.iload 6, 2) := by decide +kernel
theorem dX7_addCube_93 : decode cX7_addCube 93 = .ok (.ishr, 1) := by decide +kernel
theorem dX7_addCube_94 : decode cX7_addCube 94 = .ok (.iconst 1, 1) := by decide +kernel
theorem dX7_addCube_95 : decode cX7_addCube 95 = .ok (.iand, 1) := by decide +kernel
theorem dX7_addCube_96 : decode cX7_addCube 96 = .ok (.iconst 1, 1) := by decide +kernel
theorem dX7_addCube_97 : decode cX7_addCube 97 = .ok (.if_icmp .ne 21, 3) := by decide +kernel
theorem dX7_addCube_100 : decode cX7_addCube 100 = .ok (.aload_n 0, 1) := by decide +kernel
theorem dX7_addCube_101 : decode cX7_addCube 101 = .ok (.iload 8, 2) := by decide +kernel
theorem dX7_addCube_103 : decode cX7_addCube 103 = .ok (.iload 9, 2) := by decide +kernel
theorem dX7_addCube_105 : decode cX7_addCube 105 = .ok (.aload_n 0, 1) := by decide +kernel
theorem dX7_addCube_106 : decode cX7_addCube 106 = .ok (.getfield 22, 3) := by decide +kernel
theorem dX7_addCube_109 : decode cX7_addCube 109 = .ok (.iload 7, 2) := by decide +kernel
theorem dX7_addCube_111 : decode cX7_addCube 111 = .ok (.iaload, 1) := by decide +kernel
theorem dX7_addCube_112 : decode cX7_addCube 112 = .ok (.invokevirtual 116, 3) := by decide +kernel
theorem dX7_addCube_115 : decode cX7_addCube 115 = .ok (.goto 21, 3) := by decide +kernel
theorem dX7_addCube_118 : decode cX7_addCube 118 = .ok (.aload_n 0, 1) := by decide +kernel
theorem dX7_addCube_119 : decode cX7_addCube 119 = .ok (.iload 9, 2) := by decide +kernel
theorem dX7_addCube_121 : decode cX7_addCube 121 = .ok (.iload 8, 2) := by decide +kernel
theorem dX7_addCube_123 : decode cX7_addCube 123 = .ok (.aload_n 0, 1) := by decide +kernel
theorem dX7_addCube_124 : decode cX7_addCube 124 = .ok (.getfield 22, 3) := by decide +kernel
theorem dX7_addCube_127 : decode cX7_addCube 127 = .ok (.iload 7, 2) := by decide +kernel
theorem dX7_addCube_129 : decode cX7_addCube 129 = .ok (.iaload, 1) := by decide +kernel
theorem dX7_addCube_130 : decode cX7_addCube 130 = .ok (.ineg, 1) := by decide +kernel
theorem dX7_addCube_131 : decode cX7_addCube 131 = .ok (.iconst 1, 1) := by decide +kernel
theorem dX7_addCube_132 : decode cX7_addCube 132 = .ok (.isub, 1) := by decide +kernel
theorem dX7_addCube_133 : decode cX7_addCube 133 = .ok (.invokevirtual 116, 3) := by decide +kernel
theorem dX7_addCube_136 : decode cX7_addCube 136 = .ok (.iinc 6 1, 3) := by decide +kernel
theorem dX7_addCube_139 : decode cX7_addCube 139 = .ok (.goto (-136), 3) := by decide +kernel
theorem dX7_addCube_142 : decode cX7_addCube 142 = .ok (.return_, 1) := by decide +kernel
theorem dX7_fits_0 : decode cX7_fits 0 = .ok (.aload_n 0, 1) := by decide +kernel
theorem dX7_fits_1 : decode cX7_fits 1 = .ok (.iconst 0, 1) := by decide +kernel
theorem dX7_fits_2 : decode cX7_fits 2 = .ok (.putfield 108, 3) := by decide +kernel
theorem dX7_fits_5 : decode cX7_fits 5 = .ok (.aload_n 0, 1) := by decide +kernel
theorem dX7_fits_6 : decode cX7_fits 6 = .ok (.iload_n 1, 1) := by decide +kernel
theorem dX7_fits_7 : decode cX7_fits 7 = .ok (.iconst 0, 1) := by decide +kernel
theorem dX7_fits_8 : decode cX7_fits 8 = .ok (.iconst 5, 1) := by decide +kernel
theorem dX7_fits_9 : decode cX7_fits 9 = .ok (.invokevirtual 120, 3) := by decide +kernel
theorem dX7_fits_12 : decode cX7_fits 12 = .ok (.iconst 0, 1) := by decide +kernel
theorem dX7_fits_13 : decode cX7_fits 13 = .ok (.istore 5, 2) := by decide +kernel
theorem dX7_fits_15 : decode cX7_fits 15 = .ok (.iload 5, 2) := by decide +kernel
theorem dX7_fits_17 : decode cX7_fits 17 = .ok (.aload_n 0, 1) := by decide +kernel
theorem dX7_fits_18 : decode cX7_fits 18 = .ok (.getfield 31, 3) := by decide +kernel
theorem dX7_fits_21 : decode cX7_fits 21 = .ok (.iload_n 1, 1) := by decide +kernel
theorem dX7_fits_22 : decode cX7_fits 22 = .ok (.iaload, 1) := by decide +kernel
theorem dX7_fits_23 : decode cX7_fits 23 = .ok (.if_icmp .ge 59, 3) := by decide +kernel
theorem dX7_fits_26 : decode cX7_fits 26 = .ok (.iconst 2, 1) := by decide +kernel
theorem dX7_fits_27 : decode cX7_fits 27 = .ok (.iload_n 1, 1) := by decide +kernel
theorem dX7_fits_28 : decode cX7_fits 28 = .ok (.imul, 1) := by decide +kernel
theorem dX7_fits_29 : decode cX7_fits 29 = .ok (.iload 5, 2) := by decide +kernel
theorem dX7_fits_31 : decode cX7_fits 31 = .ok (.iadd, 1) := by decide +kernel
theorem dX7_fits_32 : decode cX7_fits 32 = .ok (.istore 6, 2) := by decide +kernel
theorem dX7_fits_34 : decode cX7_fits 34 = .ok (.aload_n 0, 1) := by decide +kernel
theorem dX7_fits_35 : decode cX7_fits 35 = .ok (.aload_n 0, 1) := by decide +kernel
theorem dX7_fits_36 : decode cX7_fits 36 = .ok (.getfield 34, 3) := by decide +kernel
theorem dX7_fits_39 : decode cX7_fits 39 = .ok (.iload 6, 2) := by decide +kernel
theorem dX7_fits_41 : decode cX7_fits 41 = .ok (.iaload, 1) := by decide +kernel
theorem dX7_fits_42 : decode cX7_fits 42 = .ok (.iload 5, 2) := by decide +kernel
theorem dX7_fits_44 : decode cX7_fits 44 = .ok (.ifCond .ne 7, 3) := by decide +kernel
theorem dX7_fits_47 : decode cX7_fits 47 = .ok (.iload_n 2, 1) := by decide +kernel
theorem dX7_fits_48 : decode cX7_fits 48 = .ok (.goto 4, 3) := by decide +kernel
theorem dX7_fits_51 : decode cX7_fits 51 = .ok (.iload_n 3, 1) := by decide +kernel
theorem dX7_fits_52 : decode cX7_fits 52 = .ok (.aload_n 0, 1) := by decide +kernel
theorem dX7_fits_53 : decode cX7_fits 53 = .ok (.getfield 37, 3) := by decide +kernel
theorem dX7_fits_56 : decode cX7_fits 56 = .ok (.iconst 2, 1) := by decide +kernel
theorem dX7_fits_57 : decode cX7_fits 57 = .ok (.iload 6, 2) := by decide +kernel
theorem dX7_fits_59 : decode cX7_fits 59 = .ok (.imul, 1) := by decide +kernel
theorem dX7_fits_60 : decode cX7_fits 60 = .ok (.iaload, 1) := by decide +kernel
theorem dX7_fits_61 : decode cX7_fits 61 = .ok (.aload_n 0, 1) := by decide +kernel
theorem dX7_fits_62 : decode cX7_fits 62 = .ok (.getfield 37, 3) := by decide +kernel
theorem dX7_fits_65 : decode cX7_fits 65 = .ok (.iconst 2, 1) := by decide +kernel
theorem dX7_fits_66 : decode cX7_fits 66 = .ok (.iload 6, 2) := by decide +kernel
theorem dX7_fits_68 : decode cX7_fits 68 = .ok (.imul, 1) := by decide +kernel
theorem dX7_fits_69 : decode cX7_fits 69 = .ok (.iconst 1, 1) := by decide +kernel
theorem dX7_fits_70 : decode cX7_fits 70 = .ok (.iadd, 1) := by decide +kernel
theorem dX7_fits_71 : decode cX7_fits 71 = .ok (.iaload, 1) := by decide +kernel
theorem dX7_fits_72 : decode cX7_fits 72 = .ok (.iconst 5, 1) := by decide +kernel
theorem dX7_fits_73 : decode cX7_fits 73 = .ok (.invokevirtual 123, 3) := by decide +kernel
theorem dX7_fits_76 : decode cX7_fits 76 = .ok (.iinc 5 1, 3) := by decide +kernel
theorem dX7_fits_79 : decode cX7_fits 79 = .ok (.goto (-64), 3) := by decide +kernel
theorem dX7_fits_82 : decode cX7_fits 82 = .ok (.iload 4, 2) := by decide +kernel
theorem dX7_fits_84 : decode cX7_fits 84 = .ok (.ifCond .lt 34, 3) := by decide +kernel
theorem dX7_fits_87 : decode cX7_fits 87 = .ok (.aload_n 0, 1) := by decide +kernel
theorem dX7_fits_88 : decode cX7_fits 88 = .ok (.aload_n 0, 1) := by decide +kernel
theorem dX7_fits_89 : decode cX7_fits 89 = .ok (.getfield 25, 3) := by decide +kernel
theorem dX7_fits_92 : decode cX7_fits 92 = .ok (.iload_n 1, 1) := by decide +kernel
theorem dX7_fits_93 : decode cX7_fits 93 = .ok (.iaload, 1) := by decide +kernel
theorem dX7_fits_94 : decode cX7_fits 94 = .ok (.iload 4, 2) := by decide +kernel
theorem dX7_fits_96 : decode cX7_fits 96 = .ok (.aload_n 0, 1) := by decide +kernel
theorem dX7_fits_97 : decode cX7_fits 97 = .ok (.getfield 28, 3) := by decide +kernel
theorem dX7_fits_100 : decode cX7_fits 100 = .ok (.iconst 2, 1) := by decide +kernel
theorem dX7_fits_101 : decode cX7_fits 101 = .ok (.iload_n 1, 1) := by decide +kernel
theorem dX7_fits_102 : decode cX7_fits 102 = .ok (.imul, 1) := by decide +kernel
theorem dX7_fits_103 : decode cX7_fits 103 = .ok (.iaload, 1) := by decide +kernel
theorem dX7_fits_104 : decode cX7_fits 104 = .ok (.aload_n 0, 1) := by decide +kernel
theorem dX7_fits_105 : decode cX7_fits 105 = .ok (.getfield 28, 3) := by decide +kernel
theorem dX7_fits_108 : decode cX7_fits 108 = .ok (.iconst 2, 1) := by decide +kernel
theorem dX7_fits_109 : decode cX7_fits 109 = .ok (.iload_n 1, 1) := by decide +kernel
theorem dX7_fits_110 : decode cX7_fits 110 = .ok (.imul, 1) := by decide +kernel
theorem dX7_fits_111 : decode cX7_fits 111 = .ok (.iconst 1, 1) := by decide +kernel
theorem dX7_fits_112 : decode cX7_fits 112 = .ok (.iadd, 1) := by decide +kernel
theorem dX7_fits_113 : decode cX7_fits 113 = .ok (.iaload, 1) := by decide +kernel
theorem dX7_fits_114 : decode cX7_fits 114 = .ok (.iconst 5, 1) := by decide +kernel
theorem dX7_fits_115 : decode cX7_fits 115 = .ok (.invokevirtual 123, 3) := by decide +kernel
theorem dX7_fits_118 : decode cX7_fits 118 = .ok (.aload_n 0, 1) := by decide +kernel
theorem dX7_fits_119 : decode cX7_fits 119 = .ok (.bipush 6, 2) := by decide +kernel
theorem dX7_fits_121 : decode cX7_fits 121 = .ok (.invokevirtual 127, 3) := by decide +kernel
theorem dX7_fits_124 : decode cX7_fits 124 = .ok (.ireturn, 1) := by decide +kernel
theorem dX7_cubesOf_0 : decode cX7_cubesOf 0 = .ok (.iconst 1, 1) := by decide +kernel
theorem dX7_cubesOf_1 : decode cX7_cubesOf 1 = .ok (.aload_n 0, 1) := by decide +kernel
theorem dX7_cubesOf_2 : decode cX7_cubesOf 2 = .ok (.getfield 13, 3) := by decide +kernel
theorem dX7_cubesOf_5 : decode cX7_cubesOf 5 = .ok (.iload_n 1, 1) := by decide +kernel
theorem dX7_cubesOf_6 : decode cX7_cubesOf 6 = .ok (.iaload, 1) := by decide +kernel
theorem dX7_cubesOf_7 : decode cX7_cubesOf 7 = .ok (.ishl, 1) := by decide +kernel
theorem dX7_cubesOf_8 : decode cX7_cubesOf 8 = .ok (.ireturn, 1) := by decide +kernel
theorem dX7_isFound_0 : decode cX7_isFound 0 = .ok (.aload_n 0, 1) := by decide +kernel
theorem dX7_isFound_1 : decode cX7_isFound 1 = .ok (.getfield 31, 3) := by decide +kernel
theorem dX7_isFound_4 : decode cX7_isFound 4 = .ok (.iload_n 1, 1) := by decide +kernel
theorem dX7_isFound_5 : decode cX7_isFound 5 = .ok (.iaload, 1) := by decide +kernel
theorem dX7_isFound_6 : decode cX7_isFound 6 = .ok (.ifCond .le 18, 3) := by decide +kernel
theorem dX7_isFound_9 : decode cX7_isFound 9 = .ok (.aload_n 0, 1) := by decide +kernel
theorem dX7_isFound_10 : decode cX7_isFound 10 = .ok (.aload_n 0, 1) := by decide +kernel
theorem dX7_isFound_11 : decode cX7_isFound 11 = .ok (.getfield 34, 3) := by decide +kernel
theorem dX7_isFound_14 : decode cX7_isFound 14 = .ok (.iconst 2, 1) := by decide +kernel
theorem dX7_isFound_15 : decode cX7_isFound 15 = .ok (.iload_n 1, 1) := by decide +kernel
theorem dX7_isFound_16 : decode cX7_isFound 16 = .ok (.imul, 1) := by decide +kernel
theorem dX7_isFound_17 : decode cX7_isFound 17 = .ok (.iaload, 1) := by decide +kernel
theorem dX7_isFound_18 : decode cX7_isFound 18 = .ok (.invokevirtual 130, 3) := by decide +kernel
theorem dX7_isFound_21 : decode cX7_isFound 21 = .ok (.goto 4, 3) := by decide +kernel
theorem dX7_isFound_24 : decode cX7_isFound 24 = .ok (.iconst 1, 1) := by decide +kernel
theorem dX7_isFound_25 : decode cX7_isFound 25 = .ok (.istore_n 3, 1) := by decide +kernel
theorem dX7_isFound_26 : decode cX7_isFound 26 = .ok (.aload_n 0, 1) := by decide +kernel
theorem dX7_isFound_27 : decode cX7_isFound 27 = .ok (.getfield 31, 3) := by decide +kernel
theorem dX7_isFound_30 : decode cX7_isFound 30 = .ok (.iload_n 1, 1) := by decide +kernel
theorem dX7_isFound_31 : decode cX7_isFound 31 = .ok (.iaload, 1) := by decide +kernel
theorem dX7_isFound_32 : decode cX7_isFound 32 = .ok (.iconst 1, 1) := by decide +kernel
theorem dX7_isFound_33 : decode cX7_isFound 33 = .ok (.if_icmp .le 20, 3) := by decide +kernel
theorem dX7_isFound_36 : decode cX7_isFound 36 = .ok (.aload_n 0, 1) := by decide +kernel
theorem dX7_isFound_37 : decode cX7_isFound 37 = .ok (.aload_n 0, 1) := by decide +kernel
theorem dX7_isFound_38 : decode cX7_isFound 38 = .ok (.getfield 34, 3) := by decide +kernel
theorem dX7_isFound_41 : decode cX7_isFound 41 = .ok (.iconst 2, 1) := by decide +kernel
theorem dX7_isFound_42 : decode cX7_isFound 42 = .ok (.iload_n 1, 1) := by decide +kernel
theorem dX7_isFound_43 : decode cX7_isFound 43 = .ok (.imul, 1) := by decide +kernel
theorem dX7_isFound_44 : decode cX7_isFound 44 = .ok (.iconst 1, 1) := by decide +kernel
theorem dX7_isFound_45 : decode cX7_isFound 45 = .ok (.iadd, 1) := by decide +kernel
theorem dX7_isFound_46 : decode cX7_isFound 46 = .ok (.iaload, 1) := by decide +kernel
theorem dX7_isFound_47 : decode cX7_isFound 47 = .ok (.invokevirtual 130, 3) := by decide +kernel
theorem dX7_isFound_50 : decode cX7_isFound 50 = .ok (.goto 4, 3) := by decide +kernel
theorem dX7_isFound_53 : decode cX7_isFound 53 = .ok (.iconst 1, 1) := by decide +kernel
theorem dX7_isFound_54 : decode cX7_isFound 54 = .ok (.istore 4, 2) := by decide +kernel
theorem dX7_isFound_56 : decode cX7_isFound 56 = .ok (.iconst 0, 1) := by decide +kernel
theorem dX7_isFound_57 : decode cX7_isFound 57 = .ok (.istore 5, 2) := by decide +kernel
theorem dX7_isFound_59 : decode cX7_isFound 59 = .ok (.iload 5, 2) := by decide +kernel
theorem dX7_isFound_61 : decode cX7_isFound 61 = .ok (.iload_n 3, 1) := by decide +kernel
theorem dX7_isFound_62 : decode cX7_isFound 62 = .ok (.iload 4, 2) := by decide +kernel
theorem dX7_isFound_64 : decode cX7_isFound 64 = .ok (.imul, 1) := by decide +kernel
theorem dX7_isFound_65 : decode cX7_isFound 65 = .ok (.if_icmp .ge 157, 3) := by decide +kernel
theorem dX7_isFound_68 : decode cX7_isFound 68 = .ok (.iload 5, 2) := by decide +kernel
theorem dX7_isFound_70 : decode cX7_isFound 70 = .ok (.iload 4, 2) := by decide +kernel
theorem dX7_isFound_72 : decode cX7_isFound 72 = .ok (.idiv, 1) := by decide +kernel
theorem dX7_isFound_73 : decode cX7_isFound 73 = .ok (.istore 6, 2) := by decide +kernel
theorem dX7_isFound_75 : decode cX7_isFound 75 = .ok (.iload 5, 2) := by decide +kernel
theorem dX7_isFound_77 : decode cX7_isFound 77 = .ok (.iload 4, 2) := by decide +kernel
theorem dX7_isFound_79 : decode cX7_isFound 79 = .ok (.irem, 1) := by decide +kernel
theorem dX7_isFound_80 : decode cX7_isFound 80 = .ok (.istore 7, 2) := by decide +kernel
theorem dX7_isFound_82 : decode cX7_isFound 82 = .ok (.aload_n 0, 1) := by decide +kernel
theorem dX7_isFound_83 : decode cX7_isFound 83 = .ok (.getfield 31, 3) := by decide +kernel
theorem dX7_isFound_86 : decode cX7_isFound 86 = .ok (.iload_n 1, 1) := by decide +kernel
theorem dX7_isFound_87 : decode cX7_isFound 87 = .ok (.iaload, 1) := by decide +kernel
theorem dX7_isFound_88 : decode cX7_isFound 88 = .ok (.iconst 1, 1) := by decide +kernel
theorem dX7_isFound_89 : decode cX7_isFound 89 = .ok (.if_icmp .lt 20, 3) := by decide +kernel
theorem dX7_isFound_92 : decode cX7_isFound 92 = .ok (.aload_n 0, 1) := by decide +kernel
theorem dX7_isFound_93 : decode cX7_isFound 93 = .ok (.aload_n 0, 1) := by decide +kernel
theorem dX7_isFound_94 : decode cX7_isFound 94 = .ok (.getfield 34, 3) := by decide +kernel
theorem dX7_isFound_97 : decode cX7_isFound 97 = .ok (.iconst 2, 1) := by decide +kernel
theorem dX7_isFound_98 : decode cX7_isFound 98 = .ok (.iload_n 1, 1) := by decide +kernel
theorem dX7_isFound_99 : decode cX7_isFound 99 = .ok (.imul, 1) := by decide +kernel
theorem dX7_isFound_100 : decode cX7_isFound 100 = .ok (.iaload, 1) := by decide +kernel
theorem dX7_isFound_101 : decode cX7_isFound 101 = .ok (.iload 6, 2) := by decide +kernel
theorem dX7_isFound_103 : decode cX7_isFound 103 = .ok (.invokevirtual 134, 3) := by decide +kernel
theorem dX7_isFound_106 : decode cX7_isFound 106 = .ok (.ifCond .eq 7, 3) := by decide +kernel
theorem dX7_isFound_109 : decode cX7_isFound 109 = .ok (.iconst 1, 1) := by decide +kernel
theorem dX7_isFound_110 : decode cX7_isFound 110 = .ok (.goto 4, 3) := by decide +kernel
theorem dX7_isFound_113 : decode cX7_isFound 113 = .ok (.iconst 0, 1) := by decide +kernel
theorem dX7_isFound_114 : decode cX7_isFound 114 = .ok (.istore 8, 2) := by decide +kernel
theorem dX7_isFound_116 : decode cX7_isFound 116 = .ok (.iload 8, 2) := by decide +kernel
theorem dX7_isFound_118 : decode cX7_isFound 118 = .ok (.ifCond .eq 36, 3) := by decide +kernel
theorem dX7_isFound_121 : decode cX7_isFound 121 = .ok (.aload_n 0, 1) := by decide +kernel
theorem dX7_isFound_122 : decode cX7_isFound 122 = .ok (.getfield 31, 3) := by decide +kernel
theorem dX7_isFound_125 : decode cX7_isFound 125 = .ok (.iload_n 1, 1) := by decide +kernel
theorem dX7_isFound_126 : decode cX7_isFound 126 = .ok (.iaload, 1) := by decide +kernel
theorem dX7_isFound_127 : decode cX7_isFound 127 = .ok (.iconst 2, 1) := by decide +kernel
theorem dX7_isFound_128 : decode cX7_isFound 128 = .ok (.if_icmp .lt 22, 3) := by decide +kernel
theorem dX7_isFound_131 : decode cX7_isFound 131 = .ok (.aload_n 0, 1) := by decide +kernel
theorem dX7_isFound_132 : decode cX7_isFound 132 = .ok (.aload_n 0, 1) := by decide +kernel
theorem dX7_isFound_133 : decode cX7_isFound 133 = .ok (.getfield 34, 3) := by decide +kernel
theorem dX7_isFound_136 : decode cX7_isFound 136 = .ok (.iconst 2, 1) := by decide +kernel
theorem dX7_isFound_137 : decode cX7_isFound 137 = .ok (.iload_n 1, 1) := by decide +kernel
theorem dX7_isFound_138 : decode cX7_isFound 138 = .ok (.imul, 1) := by decide +kernel
theorem dX7_isFound_139 : decode cX7_isFound 139 = .ok (.iconst 1, 1) := by decide +kernel
theorem dX7_isFound_140 : decode cX7_isFound 140 = .ok (.iadd, 1) := by decide +kernel
theorem dX7_isFound_141 : decode cX7_isFound 141 = .ok (.iaload, 1) := by decide +kernel
theorem dX7_isFound_142 : decode cX7_isFound 142 = .ok (.iload 7, 2) := by decide +kernel
theorem dX7_isFound_144 : decode cX7_isFound 144 = .ok (.invokevirtual 134, 3) := by decide +kernel
theorem dX7_isFound_147 : decode cX7_isFound 147 = .ok (.ifCond .eq 7, 3) := by decide +kernel
theorem dX7_isFound_150 : decode cX7_isFound 150 = .ok (.iconst 1, 1) := by decide +kernel
theorem dX7_isFound_151 : decode cX7_isFound 151 = .ok (.goto 4, 3) := by decide +kernel
theorem dX7_isFound_154 : decode cX7_isFound 154 = .ok (.iconst 0, 1) := by decide +kernel
theorem dX7_isFound_155 : decode cX7_isFound 155 = .ok (.istore 8, 2) := by decide +kernel
theorem dX7_isFound_157 : decode cX7_isFound 157 = .ok (.iload 8, 2) := by decide +kernel
theorem dX7_isFound_159 : decode cX7_isFound 159 = .ok (.ifCond .eq 57, 3) := by decide +kernel
theorem dX7_isFound_162 : decode cX7_isFound 162 = .ok (.aload_n 0, 1) := by decide +kernel
theorem dX7_isFound_163 : decode cX7_isFound 163 = .ok (.iload_n 1, 1) := by decide +kernel
theorem dX7_isFound_164 : decode cX7_isFound 164 = .ok (.iload 6, 2) := by decide +kernel
theorem dX7_isFound_166 : decode cX7_isFound 166 = .ok (.iload 7, 2) := by decide +kernel
theorem dX7_isFound_168 : decode cX7_isFound 168 = .ok (.iload_n 2, 1) := by decide +kernel
theorem dX7_isFound_169 : decode cX7_isFound 169 = .ok (.invokevirtual 138, 3) := by decide +kernel
theorem dX7_isFound_172 : decode cX7_isFound 172 = .ok (.ifCond .eq 44, 3) := by decide +kernel
theorem dX7_isFound_175 : decode cX7_isFound 175 = .ok (.aload_n 0, 1) := by decide +kernel
theorem dX7_isFound_176 : decode cX7_isFound 176 = .ok (.aload_n 0, 1) := by decide +kernel
theorem dX7_isFound_177 : decode cX7_isFound 177 = .ok (.getfield 31, 3) := by decide +kernel
theorem dX7_isFound_180 : decode cX7_isFound 180 = .ok (.iload_n 1, 1) := by decide +kernel
theorem dX7_isFound_181 : decode cX7_isFound 181 = .ok (.iaload, 1) := by decide +kernel
theorem dX7_isFound_182 : decode cX7_isFound 182 = .ok (.ifCond .le 8, 3) := by decide +kernel
theorem dX7_isFound_185 : decode cX7_isFound 185 = .ok (.iload 6, 2) := by decide +kernel
theorem dX7_isFound_187 : decode cX7_isFound 187 = .ok (.goto 4, 3) := by decide +kernel
theorem dX7_isFound_190 : decode cX7_isFound 190 = .ok (.iconst (-1), 1) := by decide +kernel
theorem dX7_isFound_191 : decode cX7_isFound 191 = .ok (.putfield 142, 3) := by decide +kernel
theorem dX7_isFound_194 : decode cX7_isFound 194 = .ok (.aload_n 0, 1) := by decide +kernel
theorem dX7_isFound_195 : decode cX7_isFound 195 = .ok (.aload_n 0, 1) := by decide +kernel
theorem dX7_isFound_196 : decode cX7_isFound 196 = .ok (.getfield 31, 3) := by decide +kernel
theorem dX7_isFound_199 : decode cX7_isFound 199 = .ok (.iload_n 1, 1) := by decide +kernel
theorem dX7_isFound_200 : decode cX7_isFound 200 = .ok (.iaload, 1) := by decide +kernel
theorem dX7_isFound_201 : decode cX7_isFound 201 = .ok (.iconst 1, 1) := by decide +kernel
theorem dX7_isFound_202 : decode cX7_isFound 202 = .ok (.if_icmp .le 8, 3) := by decide +kernel
theorem dX7_isFound_205 : decode cX7_isFound 205 = .ok (.iload 7, 2) := by decide +kernel
theorem dX7_isFound_207 : decode cX7_isFound 207 = .ok (.goto 4, 3) := by decide +kernel
theorem dX7_isFound_210 : decode cX7_isFound 210 = .ok (.iconst (-1), 1) := by decide +kernel
theorem dX7_isFound_211 : decode cX7_isFound 211 = .ok (.putfield 145, 3) := by decide +kernel
theorem dX7_isFound_214 : decode cX7_isFound 214 = .ok (.iconst 1, 1) := by decide +kernel
theorem dX7_isFound_215 : decode cX7_isFound 215 = .ok (.ireturn, 1) := by decide +kernel
theorem dX7_isFound_216 : decode cX7_isFound 216 = .ok (.iinc 5 1, 3) := by decide +kernel
theorem dX7_isFound_219 : decode cX7_isFound 219 = .ok (.goto (-160), 3) := by decide +kernel
theorem dX7_isFound_222 : decode cX7_isFound 222 = .ok (.iconst 0, 1) := by decide +kernel
theorem dX7_isFound_223 : decode cX7_isFound 223 = .ok (.ireturn, 1) := by decide +kernel
theorem dX7_isBefore_0 : decode cX7_isBefore 0 = .ok (.aload_n 0, 1) := by decide +kernel
theorem dX7_isBefore_1 : decode cX7_isBefore 1 = .ok (.getfield 52, 3) := by decide +kernel
theorem dX7_isBefore_4 : decode cX7_isBefore 4 = .ok (.bipush 16, 2) := by decide +kernel
theorem dX7_isBefore_6 : decode cX7_isBefore 6 = .ok (.iload_n 1, 1) := by decide +kernel
theorem dX7_isBefore_7 : decode cX7_isBefore 7 = .ok (.imul, 1) := by decide +kernel
theorem dX7_isBefore_8 : decode cX7_isBefore 8 = .ok (.iload_n 2, 1) := by decide +kernel
theorem dX7_isBefore_9 : decode cX7_isBefore 9 = .ok (.iadd, 1) := by decide +kernel
theorem dX7_isBefore_10 : decode cX7_isBefore 10 = .ok (.iaload, 1) := by decide +kernel
theorem dX7_isBefore_11 : decode cX7_isBefore 11 = .ok (.istore_n 3, 1) := by decide +kernel
theorem dX7_isBefore_12 : decode cX7_isBefore 12 = .ok (.iload_n 3, 1) := by decide +kernel
theorem dX7_isBefore_13 : decode cX7_isBefore 13 = .ok (.ifCond .le 15, 3) := by decide +kernel
theorem dX7_isBefore_16 : decode cX7_isBefore 16 = .ok (.iload_n 3, 1) := by decide +kernel
theorem dX7_isBefore_17 : decode cX7_isBefore 17 = .ok (.aload_n 0, 1) := by decide +kernel
theorem dX7_isBefore_18 : decode cX7_isBefore 18 = .ok (.getfield 148, 3) := by decide +kernel
theorem dX7_isBefore_21 : decode cX7_isBefore 21 = .ok (.if_icmp .ge 7, 3) := by decide +kernel
theorem dX7_isBefore_24 : decode cX7_isBefore 24 = .ok (.iconst 1, 1) := by decide +kernel
theorem dX7_isBefore_25 : decode cX7_isBefore 25 = .ok (.goto 4, 3) := by decide +kernel
theorem dX7_isBefore_28 : decode cX7_isBefore 28 = .ok (.iconst 0, 1) := by decide +kernel
theorem dX7_isBefore_29 : decode cX7_isBefore 29 = .ok (.ireturn, 1) := by decide +kernel
theorem dX7_freshStart_0 : decode cX7_freshStart 0 = .ok (.iconst 0, 1) := by decide +kernel
theorem dX7_freshStart_1 : decode cX7_freshStart 1 = .ok (.istore_n 1, 1) := by decide +kernel
theorem dX7_freshStart_2 : decode cX7_freshStart 2 = .ok (.iload_n 1, 1) := by decide +kernel
theorem dX7_freshStart_3 : decode cX7_freshStart 3 = .ok (.bipush 64, 2) := by decide +kernel
theorem dX7_freshStart_5 : decode cX7_freshStart 5 = .ok (.if_icmp .ge 43, 3) := by decide +kernel
theorem dX7_freshStart_8 : decode cX7_freshStart 8 = .ok (.aload_n 0, 1) := by decide +kernel
theorem dX7_freshStart_9 : decode cX7_freshStart 9 = .ok (.getfield 52, 3) := by decide +kernel
theorem dX7_freshStart_12 : decode cX7_freshStart 12 = .ok (.iload_n 1, 1) := by decide +kernel
theorem dX7_freshStart_13 : decode cX7_freshStart 13 = .ok (.iconst 0, 1) := by decide +kernel
theorem dX7_freshStart_14 : decode cX7_freshStart 14 = .ok (.iastore, 1) := by decide +kernel
theorem dX7_freshStart_15 : decode cX7_freshStart 15 = .ok (.aload_n 0, 1) := by decide +kernel
theorem dX7_freshStart_16 : decode cX7_freshStart 16 = .ok (.getfield 55, 3) := by decide +kernel
theorem dX7_freshStart_19 : decode cX7_freshStart 19 = .ok (.iload_n 1, 1) := by decide +kernel
theorem dX7_freshStart_20 : decode cX7_freshStart 20 = .ok (.iconst (-1), 1) := by decide +kernel
theorem dX7_freshStart_21 : decode cX7_freshStart 21 = .ok (.iastore, 1) := by decide +kernel
theorem dX7_freshStart_22 : decode cX7_freshStart 22 = .ok (.aload_n 0, 1) := by decide +kernel
theorem dX7_freshStart_23 : decode cX7_freshStart 23 = .ok (.getfield 58, 3) := by decide +kernel
theorem dX7_freshStart_26 : decode cX7_freshStart 26 = .ok (.iconst 2, 1) := by decide +kernel
theorem dX7_freshStart_27 : decode cX7_freshStart 27 = .ok (.iload_n 1, 1) := by decide +kernel
theorem dX7_freshStart_28 : decode cX7_freshStart 28 = .ok (.imul, 1) := by decide +kernel
theorem dX7_freshStart_29 : decode cX7_freshStart 29 = .ok (.iconst (-1), 1) := by decide +kernel
theorem dX7_freshStart_30 : decode cX7_freshStart 30 = .ok (.iastore, 1) := by decide +kernel
theorem dX7_freshStart_31 : decode cX7_freshStart 31 = .ok (.aload_n 0, 1) := by decide +kernel
theorem dX7_freshStart_32 : decode cX7_freshStart 32 = .ok (.getfield 58, 3) := by decide +kernel
theorem dX7_freshStart_35 : decode cX7_freshStart 35 = .ok (.iconst 2, 1) := by decide +kernel
theorem dX7_freshStart_36 : decode cX7_freshStart 36 = .ok (.iload_n 1, 1) := by decide +kernel
theorem dX7_freshStart_37 : decode cX7_freshStart 37 = .ok (.imul, 1) := by decide +kernel
theorem dX7_freshStart_38 : decode cX7_freshStart 38 = .ok (.iconst 1, 1) := by decide +kernel
theorem dX7_freshStart_39 : decode cX7_freshStart 39 = .ok (.iadd, 1) := by decide +kernel
theorem dX7_freshStart_40 : decode cX7_freshStart 40 = .ok (.iconst (-1), 1) := by decide +kernel
theorem dX7_freshStart_41 : decode cX7_freshStart 41 = .ok (.iastore, 1) := by decide +kernel
theorem dX7_freshStart_42 : decode cX7_freshStart 42 = .ok (.iinc 1 1, 3) := by decide +kernel
theorem dX7_freshStart_45 : decode cX7_freshStart 45 = .ok (.goto (-43), 3) := by decide +kernel
theorem dX7_freshStart_48 : decode cX7_freshStart 48 = .ok (.aload_n 0, 1) := by decide +kernel
theorem dX7_freshStart_49 : decode cX7_freshStart 49 = .ok (.iconst 0, 1) := by decide +kernel
theorem dX7_freshStart_50 : decode cX7_freshStart 50 = .ok (.putfield 148, 3) := by decide +kernel
theorem dX7_freshStart_53 : decode cX7_freshStart 53 = .ok (.aload_n 0, 1) := by decide +kernel
theorem dX7_freshStart_54 : decode cX7_freshStart 54 = .ok (.iconst (-1), 1) := by decide +kernel
theorem dX7_freshStart_55 : decode cX7_freshStart 55 = .ok (.putfield 61, 3) := by decide +kernel
theorem dX7_freshStart_58 : decode cX7_freshStart 58 = .ok (.aload_n 0, 1) := by decide +kernel
theorem dX7_freshStart_59 : decode cX7_freshStart 59 = .ok (.iconst 0, 1) := by decide +kernel
theorem dX7_freshStart_60 : decode cX7_freshStart 60 = .ok (.putfield 151, 3) := by decide +kernel
theorem dX7_freshStart_63 : decode cX7_freshStart 63 = .ok (.return_, 1) := by decide +kernel
theorem dX7_made_0 : decode cX7_made 0 = .ok (.aload_n 0, 1) := by decide +kernel
theorem dX7_made_1 : decode cX7_made 1 = .ok (.invokevirtual 154, 3) := by decide +kernel
theorem dX7_made_4 : decode cX7_made 4 = .ok (.aload_n 0, 1) := by decide +kernel
theorem dX7_made_5 : decode cX7_made 5 = .ok (.iconst 0, 1) := by decide +kernel
theorem dX7_made_6 : decode cX7_made 6 = .ok (.putfield 157, 3) := by decide +kernel
theorem dX7_made_9 : decode cX7_made 9 = .ok (.iload_n 1, 1) := by decide +kernel
theorem dX7_made_10 : decode cX7_made 10 = .ok (.ireturn, 1) := by decide +kernel
theorem dX7_relation_0 : decode cX7_relation 0 = .ok (.aload_n 0, 1) := by decide +kernel
theorem dX7_relation_1 : decode cX7_relation 1 = .ok (.iload_n 1, 1) := by decide +kernel
theorem dX7_relation_2 : decode cX7_relation 2 = .ok (.iconst 1, 1) := by decide +kernel
theorem dX7_relation_3 : decode cX7_relation 3 = .ok (.iconst 2, 1) := by decide +kernel
theorem dX7_relation_4 : decode cX7_relation 4 = .ok (.invokestatic 104, 3) := by decide +kernel
theorem dX7_relation_7 : decode cX7_relation 7 = .ok (.ifCond .ne 7, 3) := by decide +kernel
theorem dX7_relation_10 : decode cX7_relation 10 = .ok (.iconst 1, 1) := by decide +kernel
theorem dX7_relation_11 : decode cX7_relation 11 = .ok (.goto 16, 3) := by decide +kernel
theorem dX7_relation_14 : decode cX7_relation 14 = .ok (.aload_n 0, 1) := by decide +kernel
theorem dX7_relation_15 : decode cX7_relation 15 = .ok (.getfield 101, 3) := by decide +kernel
theorem dX7_relation_18 : decode cX7_relation 18 = .ok (.iconst 4, 1) := by decide +kernel
theorem dX7_relation_19 : decode cX7_relation 19 = .ok (.if_icmp .ne 7, 3) := by decide +kernel
theorem dX7_relation_22 : decode cX7_relation 22 = .ok (.iconst 2, 1) := by decide +kernel
theorem dX7_relation_23 : decode cX7_relation 23 = .ok (.goto 4, 3) := by decide +kernel
theorem dX7_relation_26 : decode cX7_relation 26 = .ok (.iconst 0, 1) := by decide +kernel
theorem dX7_relation_27 : decode cX7_relation 27 = .ok (.putfield 98, 3) := by decide +kernel
theorem dX7_relation_30 : decode cX7_relation 30 = .ok (.aload_n 0, 1) := by decide +kernel
theorem dX7_relation_31 : decode cX7_relation 31 = .ok (.getfield 98, 3) := by decide +kernel
theorem dX7_relation_34 : decode cX7_relation 34 = .ok (.ifCond .le 5, 3) := by decide +kernel
theorem dX7_relation_37 : decode cX7_relation 37 = .ok (.iconst 0, 1) := by decide +kernel
theorem dX7_relation_38 : decode cX7_relation 38 = .ok (.ireturn, 1) := by decide +kernel
theorem dX7_relation_39 : decode cX7_relation 39 = .ok (.aload_n 0, 1) := by decide +kernel
theorem dX7_relation_40 : decode cX7_relation 40 = .ok (.getfield 7, 3) := by decide +kernel
theorem dX7_relation_43 : decode cX7_relation 43 = .ok (.aload_n 0, 1) := by decide +kernel
theorem dX7_relation_44 : decode cX7_relation 44 = .ok (.getfield 101, 3) := by decide +kernel
theorem dX7_relation_47 : decode cX7_relation 47 = .ok (.iload_n 1, 1) := by decide +kernel
theorem dX7_relation_48 : decode cX7_relation 48 = .ok (.iastore, 1) := by decide +kernel
theorem dX7_relation_49 : decode cX7_relation 49 = .ok (.aload_n 0, 1) := by decide +kernel
theorem dX7_relation_50 : decode cX7_relation 50 = .ok (.dup, 1) := by decide +kernel
theorem dX7_relation_51 : decode cX7_relation 51 = .ok (.getfield 101, 3) := by decide +kernel
theorem dX7_relation_54 : decode cX7_relation 54 = .ok (.iconst 1, 1) := by decide +kernel
theorem dX7_relation_55 : decode cX7_relation 55 = .ok (.iadd, 1) := by decide +kernel
theorem dX7_relation_56 : decode cX7_relation 56 = .ok (.putfield 101, 3) := by decide +kernel
theorem dX7_relation_59 : decode cX7_relation 59 = .ok (.aload_n 0, 1) := by decide +kernel
theorem dX7_relation_60 : decode cX7_relation 60 = .ok (.aload_n 0, 1) := by decide +kernel
theorem dX7_relation_61 : decode cX7_relation 61 = .ok (.getfield 101, 3) := by decide +kernel
theorem dX7_relation_64 : decode cX7_relation 64 = .ok (.iconst 1, 1) := by decide +kernel
theorem dX7_relation_65 : decode cX7_relation 65 = .ok (.isub, 1) := by decide +kernel
theorem dX7_relation_66 : decode cX7_relation 66 = .ok (.invokevirtual 160, 3) := by decide +kernel
theorem dX7_relation_69 : decode cX7_relation 69 = .ok (.ireturn, 1) := by decide +kernel
theorem dX7_isPlace_0 : decode cX7_isPlace 0 = .ok (.iload_n 2, 1) := by decide +kernel
theorem dX7_isPlace_1 : decode cX7_isPlace 1 = .ok (.iconst 2, 1) := by decide +kernel
theorem dX7_isPlace_2 : decode cX7_isPlace 2 = .ok (.if_icmp .eq 19, 3) := by decide +kernel
theorem dX7_isPlace_5 : decode cX7_isPlace 5 = .ok (.iload_n 2, 1) := by decide +kernel
theorem dX7_isPlace_6 : decode cX7_isPlace 6 = .ok (.iconst 0, 1) := by decide +kernel
