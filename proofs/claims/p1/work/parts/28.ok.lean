theorem dX12_readTest_0 : decode cX12_readTest 0 = .ok (.aload_n 0, 1) := by decide +kernel
theorem dX12_readTest_1 : decode cX12_readTest 1 = .ok (.invokevirtual 296, 3) := by decide +kernel
theorem dX12_readTest_4 : decode cX12_readTest 4 = .ok (.aload_n 0, 1) := by decide +kernel
theorem dX12_readTest_5 : decode cX12_readTest 5 = .ok (.ldc 227, 2) := by decide +kernel
theorem dX12_readTest_7 : decode cX12_readTest 7 = .ok (.invokevirtual 293, 3) := by decide +kernel
theorem dX12_readTest_10 : decode cX12_readTest 10 = .ok (.ifCond .eq 17, 3) := by decide +kernel
theorem dX12_readTest_13 : decode cX12_readTest 13 = .ok (.aload_n 0, 1) := by decide +kernel
theorem dX12_readTest_14 : decode cX12_readTest 14 = .ok (.invokevirtual 296, 3) := by decide +kernel
theorem dX12_readTest_17 : decode cX12_readTest 17 = .ok (.aload_n 0, 1) := by decide +kernel
theorem dX12_readTest_18 : decode cX12_readTest 18 = .ok (.bipush 12, 2) := by decide +kernel
theorem dX12_readTest_20 : decode cX12_readTest 20 = .ok (.iconst 0, 1) := by decide +kernel
theorem dX12_readTest_21 : decode cX12_readTest 21 = .ok (.invokevirtual 274, 3) := by decide +kernel
theorem dX12_readTest_24 : decode cX12_readTest 24 = .ok (.goto (-20), 3) := by decide +kernel
theorem dX12_readTest_27 : decode cX12_readTest 27 = .ok (.return_, 1) := by decide +kernel
theorem dX12_readBoth_0 : decode cX12_readBoth 0 = .ok (.aload_n 0, 1) := by decide +kernel
theorem dX12_readBoth_1 : decode cX12_readBoth 1 = .ok (.invokevirtual 287, 3) := by decide +kernel
theorem dX12_readBoth_4 : decode cX12_readBoth 4 = .ok (.aload_n 0, 1) := by decide +kernel
theorem dX12_readBoth_5 : decode cX12_readBoth 5 = .ok (.ldc 229, 2) := by decide +kernel
theorem dX12_readBoth_7 : decode cX12_readBoth 7 = .ok (.invokevirtual 293, 3) := by decide +kernel
theorem dX12_readBoth_10 : decode cX12_readBoth 10 = .ok (.ifCond .eq 17, 3) := by decide +kernel
theorem dX12_readBoth_13 : decode cX12_readBoth 13 = .ok (.aload_n 0, 1) := by decide +kernel
theorem dX12_readBoth_14 : decode cX12_readBoth 14 = .ok (.invokevirtual 287, 3) := by decide +kernel
theorem dX12_readBoth_17 : decode cX12_readBoth 17 = .ok (.aload_n 0, 1) := by decide +kernel
theorem dX12_readBoth_18 : decode cX12_readBoth 18 = .ok (.bipush 11, 2) := by decide +kernel
theorem dX12_readBoth_20 : decode cX12_readBoth 20 = .ok (.iconst 0, 1) := by decide +kernel
theorem dX12_readBoth_21 : decode cX12_readBoth 21 = .ok (.invokevirtual 274, 3) := by decide +kernel
theorem dX12_readBoth_24 : decode cX12_readBoth 24 = .ok (.goto (-20), 3) := by decide +kernel
theorem dX12_readBoth_27 : decode cX12_readBoth 27 = .ok (.return_, 1) := by decide +kernel
theorem dX12_readFact_0 : decode cX12_readFact 0 = .ok (.aload_n 0, 1) := by decide +kernel
theorem dX12_readFact_1 : decode cX12_readFact 1 = .ok (.getfield 130, 3) := by decide +kernel
theorem dX12_readFact_4 : decode cX12_readFact 4 = .ok (.ifCond .le 4, 3) := by decide +kernel
theorem dX12_readFact_7 : decode cX12_readFact 7 = .ok (.return_, 1) := by decide +kernel
theorem dX12_readFact_8 : decode cX12_readFact 8 = .ok (.aload_n 0, 1) := by decide +kernel
theorem dX12_readFact_9 : decode cX12_readFact 9 = .ok (.ldc 231, 2) := by decide +kernel
theorem dX12_readFact_11 : decode cX12_readFact 11 = .ok (.invokevirtual 190, 3) := by decide +kernel
theorem dX12_readFact_14 : decode cX12_readFact 14 = .ok (.ifCond .eq 33, 3) := by decide +kernel
theorem dX12_readFact_17 : decode cX12_readFact 17 = .ok (.aload_n 0, 1) := by decide +kernel
theorem dX12_readFact_18 : decode cX12_readFact 18 = .ok (.invokevirtual 265, 3) := by decide +kernel
theorem dX12_readFact_21 : decode cX12_readFact 21 = .ok (.aload_n 0, 1) := by decide +kernel
theorem dX12_readFact_22 : decode cX12_readFact 22 = .ok (.invokevirtual 198, 3) := by decide +kernel
theorem dX12_readFact_25 : decode cX12_readFact 25 = .ok (.aload_n 0, 1) := by decide +kernel
theorem dX12_readFact_26 : decode cX12_readFact 26 = .ok (.invokevirtual 287, 3) := by decide +kernel
theorem dX12_readFact_29 : decode cX12_readFact 29 = .ok (.aload_n 0, 1) := by decide +kernel
theorem dX12_readFact_30 : decode cX12_readFact 30 = .ok (.bipush 10, 2) := by decide +kernel
theorem dX12_readFact_32 : decode cX12_readFact 32 = .ok (.iconst 0, 1) := by decide +kernel
theorem dX12_readFact_33 : decode cX12_readFact 33 = .ok (.invokevirtual 274, 3) := by decide +kernel
theorem dX12_readFact_36 : decode cX12_readFact 36 = .ok (.aload_n 0, 1) := by decide +kernel
theorem dX12_readFact_37 : decode cX12_readFact 37 = .ok (.dup, 1) := by decide +kernel
theorem dX12_readFact_38 : decode cX12_readFact 38 = .ok (.getfield 242, 3) := by decide +kernel
theorem dX12_readFact_41 : decode cX12_readFact 41 = .ok (.iconst 1, 1) := by decide +kernel
theorem dX12_readFact_42 : decode cX12_readFact 42 = .ok (.isub, 1) := by decide +kernel
theorem dX12_readFact_43 : decode cX12_readFact 43 = .ok (.putfield 242, 3) := by decide +kernel
theorem dX12_readFact_46 : decode cX12_readFact 46 = .ok (.return_, 1) := by decide +kernel
theorem dX12_readFact_47 : decode cX12_readFact 47 = .ok (.aload_n 0, 1) := by decide +kernel
theorem dX12_readFact_48 : decode cX12_readFact 48 = .ok (.bipush 40, 2) := by decide +kernel
theorem dX12_readFact_50 : decode cX12_readFact 50 = .ok (.invokevirtual 201, 3) := by decide +kernel
theorem dX12_readFact_53 : decode cX12_readFact 53 = .ok (.ifCond .eq 32, 3) := by decide +kernel
theorem dX12_readFact_56 : decode cX12_readFact 56 = .ok (.aload_n 0, 1) := by decide +kernel
theorem dX12_readFact_57 : decode cX12_readFact 57 = .ok (.invokevirtual 265, 3) := by decide +kernel
theorem dX12_readFact_60 : decode cX12_readFact 60 = .ok (.aload_n 0, 1) := by decide +kernel
theorem dX12_readFact_61 : decode cX12_readFact 61 = .ok (.invokevirtual 198, 3) := by decide +kernel
theorem dX12_readFact_64 : decode cX12_readFact 64 = .ok (.aload_n 0, 1) := by decide +kernel
theorem dX12_readFact_65 : decode cX12_readFact 65 = .ok (.invokevirtual 290, 3) := by decide +kernel
theorem dX12_readFact_68 : decode cX12_readFact 68 = .ok (.aload_n 0, 1) := by decide +kernel
theorem dX12_readFact_69 : decode cX12_readFact 69 = .ok (.bipush 41, 2) := by decide +kernel
theorem dX12_readFact_71 : decode cX12_readFact 71 = .ok (.invokevirtual 271, 3) := by decide +kernel
theorem dX12_readFact_74 : decode cX12_readFact 74 = .ok (.aload_n 0, 1) := by decide +kernel
theorem dX12_readFact_75 : decode cX12_readFact 75 = .ok (.dup, 1) := by decide +kernel
theorem dX12_readFact_76 : decode cX12_readFact 76 = .ok (.getfield 242, 3) := by decide +kernel
theorem dX12_readFact_79 : decode cX12_readFact 79 = .ok (.iconst 1, 1) := by decide +kernel
theorem dX12_readFact_80 : decode cX12_readFact 80 = .ok (.isub, 1) := by decide +kernel
theorem dX12_readFact_81 : decode cX12_readFact 81 = .ok (.putfield 242, 3) := by decide +kernel
theorem dX12_readFact_84 : decode cX12_readFact 84 = .ok (.return_, 1) := by decide +kernel
theorem dX12_readFact_85 : decode cX12_readFact 85 = .ok (.aload_n 0, 1) := by decide +kernel
theorem dX12_readFact_86 : decode cX12_readFact 86 = .ok (.invokevirtual 268, 3) := by decide +kernel
theorem dX12_readFact_89 : decode cX12_readFact 89 = .ok (.aload_n 0, 1) := by decide +kernel
theorem dX12_readFact_90 : decode cX12_readFact 90 = .ok (.bipush 60, 2) := by decide +kernel
theorem dX12_readFact_92 : decode cX12_readFact 92 = .ok (.invokevirtual 201, 3) := by decide +kernel
theorem dX12_readFact_95 : decode cX12_readFact 95 = .ok (.ifCond .eq 8, 3) := by decide +kernel
theorem dX12_readFact_98 : decode cX12_readFact 98 = .ok (.bipush 7, 2) := by decide +kernel
theorem dX12_readFact_100 : decode cX12_readFact 100 = .ok (.goto 19, 3) := by decide +kernel
theorem dX12_readFact_103 : decode cX12_readFact 103 = .ok (.aload_n 0, 1) := by decide +kernel
theorem dX12_readFact_104 : decode cX12_readFact 104 = .ok (.bipush 62, 2) := by decide +kernel
theorem dX12_readFact_106 : decode cX12_readFact 106 = .ok (.invokevirtual 201, 3) := by decide +kernel
theorem dX12_readFact_109 : decode cX12_readFact 109 = .ok (.ifCond .eq 8, 3) := by decide +kernel
theorem dX12_readFact_112 : decode cX12_readFact 112 = .ok (.bipush 8, 2) := by decide +kernel
theorem dX12_readFact_114 : decode cX12_readFact 114 = .ok (.goto 5, 3) := by decide +kernel
theorem dX12_readFact_117 : decode cX12_readFact 117 = .ok (.bipush 9, 2) := by decide +kernel
theorem dX12_readFact_119 : decode cX12_readFact 119 = .ok (.istore_n 1, 1) := by decide +kernel
theorem dX12_readFact_120 : decode cX12_readFact 120 = .ok (.iload_n 1, 1) := by decide +kernel
theorem dX12_readFact_121 : decode cX12_readFact 121 = .ok (.bipush 9, 2) := by decide +kernel
theorem dX12_readFact_123 : decode cX12_readFact 123 = .ok (.if_icmp .ne 17, 3) := by decide +kernel
theorem dX12_readFact_126 : decode cX12_readFact 126 = .ok (.aload_n 0, 1) := by decide +kernel
theorem dX12_readFact_127 : decode cX12_readFact 127 = .ok (.bipush 61, 2) := by decide +kernel
theorem dX12_readFact_129 : decode cX12_readFact 129 = .ok (.invokevirtual 201, 3) := by decide +kernel
theorem dX12_readFact_132 : decode cX12_readFact 132 = .ok (.ifCond .ne 8, 3) := by decide +kernel
theorem dX12_readFact_135 : decode cX12_readFact 135 = .ok (.aload_n 0, 1) := by decide +kernel
theorem dX12_readFact_136 : decode cX12_readFact 136 = .ok (.iconst 1, 1) := by decide +kernel
theorem dX12_readFact_137 : decode cX12_readFact 137 = .ok (.invokevirtual 194, 3) := by decide +kernel
theorem dX12_readFact_140 : decode cX12_readFact 140 = .ok (.aload_n 0, 1) := by decide +kernel
theorem dX12_readFact_141 : decode cX12_readFact 141 = .ok (.invokevirtual 198, 3) := by decide +kernel
theorem dX12_readFact_144 : decode cX12_readFact 144 = .ok (.aload_n 0, 1) := by decide +kernel
theorem dX12_readFact_145 : decode cX12_readFact 145 = .ok (.invokevirtual 268, 3) := by decide +kernel
theorem dX12_readFact_148 : decode cX12_readFact 148 = .ok (.aload_n 0, 1) := by decide +kernel
theorem dX12_readFact_149 : decode cX12_readFact 149 = .ok (.iload_n 1, 1) := by decide +kernel
theorem dX12_readFact_150 : decode cX12_readFact 150 = .ok (.iconst 0, 1) := by decide +kernel
theorem dX12_readFact_151 : decode cX12_readFact 151 = .ok (.invokevirtual 274, 3) := by decide +kernel
theorem dX12_readFact_154 : decode cX12_readFact 154 = .ok (.return_, 1) := by decide +kernel
theorem dX12_readSum_0 : decode cX12_readSum 0 = .ok (.aload_n 0, 1) := by decide +kernel
theorem dX12_readSum_1 : decode cX12_readSum 1 = .ok (.invokevirtual 284, 3) := by decide +kernel
theorem dX12_readSum_4 : decode cX12_readSum 4 = .ok (.aload_n 0, 1) := by decide +kernel
theorem dX12_readSum_5 : decode cX12_readSum 5 = .ok (.bipush 43, 2) := by decide +kernel
theorem dX12_readSum_7 : decode cX12_readSum 7 = .ok (.invokevirtual 201, 3) := by decide +kernel
theorem dX12_readSum_10 : decode cX12_readSum 10 = .ok (.ifCond .ne 12, 3) := by decide +kernel
theorem dX12_readSum_13 : decode cX12_readSum 13 = .ok (.aload_n 0, 1) := by decide +kernel
theorem dX12_readSum_14 : decode cX12_readSum 14 = .ok (.bipush 45, 2) := by decide +kernel
theorem dX12_readSum_16 : decode cX12_readSum 16 = .ok (.invokevirtual 201, 3) := by decide +kernel
theorem dX12_readSum_19 : decode cX12_readSum 19 = .ok (.ifCond .eq 35, 3) := by decide +kernel
theorem dX12_readSum_22 : decode cX12_readSum 22 = .ok (.aload_n 0, 1) := by decide +kernel
theorem dX12_readSum_23 : decode cX12_readSum 23 = .ok (.getfield 170, 3) := by decide +kernel
theorem dX12_readSum_26 : decode cX12_readSum 26 = .ok (.bipush 43, 2) := by decide +kernel
theorem dX12_readSum_28 : decode cX12_readSum 28 = .ok (.if_icmp .ne 7, 3) := by decide +kernel
theorem dX12_readSum_31 : decode cX12_readSum 31 = .ok (.iconst 4, 1) := by decide +kernel
theorem dX12_readSum_32 : decode cX12_readSum 32 = .ok (.goto 4, 3) := by decide +kernel
theorem dX12_readSum_35 : decode cX12_readSum 35 = .ok (.iconst 5, 1) := by decide +kernel
theorem dX12_readSum_36 : decode cX12_readSum 36 = .ok (.istore_n 1, 1) := by decide +kernel
theorem dX12_readSum_37 : decode cX12_readSum 37 = .ok (.aload_n 0, 1) := by decide +kernel
theorem dX12_readSum_38 : decode cX12_readSum 38 = .ok (.invokevirtual 198, 3) := by decide +kernel
theorem dX12_readSum_41 : decode cX12_readSum 41 = .ok (.aload_n 0, 1) := by decide +kernel
theorem dX12_readSum_42 : decode cX12_readSum 42 = .ok (.invokevirtual 284, 3) := by decide +kernel
theorem dX12_readSum_45 : decode cX12_readSum 45 = .ok (.aload_n 0, 1) := by decide +kernel
theorem dX12_readSum_46 : decode cX12_readSum 46 = .ok (.iload_n 1, 1) := by decide +kernel
theorem dX12_readSum_47 : decode cX12_readSum 47 = .ok (.iconst 0, 1) := by decide +kernel
theorem dX12_readSum_48 : decode cX12_readSum 48 = .ok (.invokevirtual 274, 3) := by decide +kernel
theorem dX12_readSum_51 : decode cX12_readSum 51 = .ok (.goto (-47), 3) := by decide +kernel
theorem dX12_readSum_54 : decode cX12_readSum 54 = .ok (.return_, 1) := by decide +kernel
theorem dX12_readTerm_0 : decode cX12_readTerm 0 = .ok (.aload_n 0, 1) := by decide +kernel
theorem dX12_readTerm_1 : decode cX12_readTerm 1 = .ok (.invokevirtual 278, 3) := by decide +kernel
theorem dX12_readTerm_4 : decode cX12_readTerm 4 = .ok (.aload_n 0, 1) := by decide +kernel
theorem dX12_readTerm_5 : decode cX12_readTerm 5 = .ok (.bipush 42, 2) := by decide +kernel
theorem dX12_readTerm_7 : decode cX12_readTerm 7 = .ok (.invokevirtual 281, 3) := by decide +kernel
theorem dX12_readTerm_10 : decode cX12_readTerm 10 = .ok (.ifCond .eq 17, 3) := by decide +kernel
theorem dX12_readTerm_13 : decode cX12_readTerm 13 = .ok (.aload_n 0, 1) := by decide +kernel
theorem dX12_readTerm_14 : decode cX12_readTerm 14 = .ok (.invokevirtual 278, 3) := by decide +kernel
theorem dX12_readTerm_17 : decode cX12_readTerm 17 = .ok (.aload_n 0, 1) := by decide +kernel
theorem dX12_readTerm_18 : decode cX12_readTerm 18 = .ok (.bipush 6, 2) := by decide +kernel
theorem dX12_readTerm_20 : decode cX12_readTerm 20 = .ok (.iconst 0, 1) := by decide +kernel
theorem dX12_readTerm_21 : decode cX12_readTerm 21 = .ok (.invokevirtual 274, 3) := by decide +kernel
theorem dX12_readTerm_24 : decode cX12_readTerm 24 = .ok (.goto (-20), 3) := by decide +kernel
theorem dX12_readTerm_27 : decode cX12_readTerm 27 = .ok (.return_, 1) := by decide +kernel
theorem dX12_readAtom_0 : decode cX12_readAtom 0 = .ok (.aload_n 0, 1) := by decide +kernel
theorem dX12_readAtom_1 : decode cX12_readAtom 1 = .ok (.getfield 130, 3) := by decide +kernel
theorem dX12_readAtom_4 : decode cX12_readAtom 4 = .ok (.ifCond .le 4, 3) := by decide +kernel
theorem dX12_readAtom_7 : decode cX12_readAtom 7 = .ok (.return_, 1) := by decide +kernel
theorem dX12_readAtom_8 : decode cX12_readAtom 8 = .ok (.aload_n 0, 1) := by decide +kernel
theorem dX12_readAtom_9 : decode cX12_readAtom 9 = .ok (.getfield 149, 3) := by decide +kernel
theorem dX12_readAtom_12 : decode cX12_readAtom 12 = .ok (.iconst 3, 1) := by decide +kernel
theorem dX12_readAtom_13 : decode cX12_readAtom 13 = .ok (.if_icmp .eq 35, 3) := by decide +kernel
theorem dX12_readAtom_16 : decode cX12_readAtom 16 = .ok (.aload_n 0, 1) := by decide +kernel
theorem dX12_readAtom_17 : decode cX12_readAtom 17 = .ok (.invokevirtual 245, 3) := by decide +kernel
theorem dX12_readAtom_20 : decode cX12_readAtom 20 = .ok (.ifCond .ne 28, 3) := by decide +kernel
theorem dX12_readAtom_23 : decode cX12_readAtom 23 = .ok (.aload_n 0, 1) := by decide +kernel
theorem dX12_readAtom_24 : decode cX12_readAtom 24 = .ok (.ldc 233, 2) := by decide +kernel
theorem dX12_readAtom_26 : decode cX12_readAtom 26 = .ok (.invokevirtual 190, 3) := by decide +kernel
theorem dX12_readAtom_29 : decode cX12_readAtom 29 = .ok (.ifCond .eq 10, 3) := by decide +kernel
theorem dX12_readAtom_32 : decode cX12_readAtom 32 = .ok (.aload_n 0, 1) := by decide +kernel
theorem dX12_readAtom_33 : decode cX12_readAtom 33 = .ok (.getfield 248, 3) := by decide +kernel
theorem dX12_readAtom_36 : decode cX12_readAtom 36 = .ok (.ifCond .ne 12, 3) := by decide +kernel
theorem dX12_readAtom_39 : decode cX12_readAtom 39 = .ok (.aload_n 0, 1) := by decide +kernel
theorem dX12_readAtom_40 : decode cX12_readAtom 40 = .ok (.bipush 91, 2) := by decide +kernel
theorem dX12_readAtom_42 : decode cX12_readAtom 42 = .ok (.invokevirtual 201, 3) := by decide +kernel
theorem dX12_readAtom_45 : decode cX12_readAtom 45 = .ok (.ifCond .eq 7, 3) := by decide +kernel
theorem dX12_readAtom_48 : decode cX12_readAtom 48 = .ok (.iconst 1, 1) := by decide +kernel
theorem dX12_readAtom_49 : decode cX12_readAtom 49 = .ok (.goto 4, 3) := by decide +kernel
theorem dX12_readAtom_52 : decode cX12_readAtom 52 = .ok (.iconst 0, 1) := by decide +kernel
theorem dX12_readAtom_53 : decode cX12_readAtom 53 = .ok (.istore_n 1, 1) := by decide +kernel
theorem dX12_readAtom_54 : decode cX12_readAtom 54 = .ok (.iload_n 1, 1) := by decide +kernel
theorem dX12_readAtom_55 : decode cX12_readAtom 55 = .ok (.ifCond .ne 8, 3) := by decide +kernel
theorem dX12_readAtom_58 : decode cX12_readAtom 58 = .ok (.aload_n 0, 1) := by decide +kernel
theorem dX12_readAtom_59 : decode cX12_readAtom 59 = .ok (.iconst 1, 1) := by decide +kernel
theorem dX12_readAtom_60 : decode cX12_readAtom 60 = .ok (.invokevirtual 194, 3) := by decide +kernel
theorem dX12_readAtom_63 : decode cX12_readAtom 63 = .ok (.iconst 3, 1) := by decide +kernel
theorem dX12_readAtom_64 : decode cX12_readAtom 64 = .ok (.aload_n 0, 1) := by decide +kernel
theorem dX12_readAtom_65 : decode cX12_readAtom 65 = .ok (.getfield 252, 3) := by decide +kernel
theorem dX12_readAtom_68 : decode cX12_readAtom 68 = .ok (.iadd, 1) := by decide +kernel
theorem dX12_readAtom_69 : decode cX12_readAtom 69 = .ok (.iconst 1, 1) := by decide +kernel
theorem dX12_readAtom_70 : decode cX12_readAtom 70 = .ok (.isub, 1) := by decide +kernel
theorem dX12_readAtom_71 : decode cX12_readAtom 71 = .ok (.istore_n 2, 1) := by decide +kernel
theorem dX12_readAtom_72 : decode cX12_readAtom 72 = .ok (.aload_n 0, 1) := by decide +kernel
theorem dX12_readAtom_73 : decode cX12_readAtom 73 = .ok (.invokevirtual 245, 3) := by decide +kernel
theorem dX12_readAtom_76 : decode cX12_readAtom 76 = .ok (.ifCond .eq 15, 3) := by decide +kernel
theorem dX12_readAtom_79 : decode cX12_readAtom 79 = .ok (.aload_n 0, 1) := by decide +kernel
theorem dX12_readAtom_80 : decode cX12_readAtom 80 = .ok (.iload_n 2, 1) := by decide +kernel
theorem dX12_readAtom_81 : decode cX12_readAtom 81 = .ok (.aload_n 0, 1) := by decide +kernel
theorem dX12_readAtom_82 : decode cX12_readAtom 82 = .ok (.getfield 156, 3) := by decide +kernel
theorem dX12_readAtom_85 : decode cX12_readAtom 85 = .ok (.invokevirtual 255, 3) := by decide +kernel
theorem dX12_readAtom_88 : decode cX12_readAtom 88 = .ok (.goto 4, 3) := by decide +kernel
theorem dX12_readAtom_91 : decode cX12_readAtom 91 = .ok (.iconst (-1), 1) := by decide +kernel
theorem dX12_readAtom_92 : decode cX12_readAtom 92 = .ok (.istore_n 3, 1) := by decide +kernel
theorem dX12_readAtom_93 : decode cX12_readAtom 93 = .ok (.aload_n 0, 1) := by decide +kernel
theorem dX12_readAtom_94 : decode cX12_readAtom 94 = .ok (.invokevirtual 245, 3) := by decide +kernel
theorem dX12_readAtom_97 : decode cX12_readAtom 97 = .ok (.ifCond .eq 32, 3) := by decide +kernel
theorem dX12_readAtom_100 : decode cX12_readAtom 100 = .ok (.aload_n 0, 1) := by decide +kernel
theorem dX12_readAtom_101 : decode cX12_readAtom 101 = .ok (.getfield 259, 3) := by decide +kernel
theorem dX12_readAtom_104 : decode cX12_readAtom 104 = .ok (.ifCond .eq 25, 3) := by decide +kernel
theorem dX12_readAtom_107 : decode cX12_readAtom 107 = .ok (.aload_n 0, 1) := by decide +kernel
theorem dX12_readAtom_108 : decode cX12_readAtom 108 = .ok (.getfield 252, 3) := by decide +kernel
theorem dX12_readAtom_111 : decode cX12_readAtom 111 = .ok (.iconst 1, 1) := by decide +kernel
theorem dX12_readAtom_112 : decode cX12_readAtom 112 = .ok (.if_icmp .le 17, 3) := by decide +kernel
theorem dX12_readAtom_115 : decode cX12_readAtom 115 = .ok (.aload_n 0, 1) := by decide +kernel
theorem dX12_readAtom_116 : decode cX12_readAtom 116 = .ok (.iload_n 2, 1) := by decide +kernel
theorem dX12_readAtom_117 : decode cX12_readAtom 117 = .ok (.iconst 1, 1) := by decide +kernel
theorem dX12_readAtom_118 : decode cX12_readAtom 118 = .ok (.isub, 1) := by decide +kernel
theorem dX12_readAtom_119 : decode cX12_readAtom 119 = .ok (.aload_n 0, 1) := by decide +kernel
theorem dX12_readAtom_120 : decode cX12_readAtom 120 = .ok (.getfield 156, 3) := by decide +kernel
theorem dX12_readAtom_123 : decode cX12_readAtom 123 = .ok (.invokevirtual 255, 3) := by decide +kernel
theorem dX12_readAtom_126 : decode cX12_readAtom 126 = .ok (.goto 4, 3) := by decide +kernel
theorem dX12_readAtom_129 : decode cX12_readAtom 129 = .ok (.iconst (-1), 1) := by decide +kernel
theorem dX12_readAtom_130 : decode cX12_readAtom 130 = .ok (.istore 4, 2) := by decide +kernel
theorem dX12_readAtom_132 : decode cX12_readAtom 132 = .ok (.aload_n 0, 1) := by decide +kernel
theorem dX12_readAtom_133 : decode cX12_readAtom 133 = .ok (.invokevirtual 245, 3) := by decide +kernel
theorem dX12_readAtom_136 : decode cX12_readAtom 136 = .ok (.ifCond .eq 19, 3) := by decide +kernel
theorem dX12_readAtom_139 : decode cX12_readAtom 139 = .ok (.iload_n 3, 1) := by decide +kernel
theorem dX12_readAtom_140 : decode cX12_readAtom 140 = .ok (.iconst (-1), 1) := by decide +kernel
theorem dX12_readAtom_141 : decode cX12_readAtom 141 = .ok (.if_icmp .ne 14, 3) := by decide +kernel
theorem dX12_readAtom_144 : decode cX12_readAtom 144 = .ok (.iload 4, 2) := by decide +kernel
theorem dX12_readAtom_146 : decode cX12_readAtom 146 = .ok (.iconst (-1), 1) := by decide +kernel
theorem dX12_readAtom_147 : decode cX12_readAtom 147 = .ok (.if_icmp .ne 8, 3) := by decide +kernel
theorem dX12_readAtom_150 : decode cX12_readAtom 150 = .ok (.aload_n 0, 1) := by decide +kernel
theorem dX12_readAtom_151 : decode cX12_readAtom 151 = .ok (.iconst 3, 1) := by decide +kernel
theorem dX12_readAtom_152 : decode cX12_readAtom 152 = .ok (.invokevirtual 194, 3) := by decide +kernel
theorem dX12_readAtom_155 : decode cX12_readAtom 155 = .ok (.aload_n 0, 1) := by decide +kernel
theorem dX12_readAtom_156 : decode cX12_readAtom 156 = .ok (.getfield 262, 3) := by decide +kernel
theorem dX12_readAtom_159 : decode cX12_readAtom 159 = .ok (.bipush 30, 2) := by decide +kernel
theorem dX12_readAtom_161 : decode cX12_readAtom 161 = .ok (.if_icmp .ne 8, 3) := by decide +kernel
theorem dX12_readAtom_164 : decode cX12_readAtom 164 = .ok (.aload_n 0, 1) := by decide +kernel
theorem dX12_readAtom_165 : decode cX12_readAtom 165 = .ok (.iconst 4, 1) := by decide +kernel
theorem dX12_readAtom_166 : decode cX12_readAtom 166 = .ok (.invokevirtual 194, 3) := by decide +kernel
theorem dX12_readAtom_169 : decode cX12_readAtom 169 = .ok (.aload_n 0, 1) := by decide +kernel
theorem dX12_readAtom_170 : decode cX12_readAtom 170 = .ok (.dup, 1) := by decide +kernel
theorem dX12_readAtom_171 : decode cX12_readAtom 171 = .ok (.getfield 262, 3) := by decide +kernel
theorem dX12_readAtom_174 : decode cX12_readAtom 174 = .ok (.iconst 1, 1) := by decide +kernel
theorem dX12_readAtom_175 : decode cX12_readAtom 175 = .ok (.iadd, 1) := by decide +kernel
theorem dX12_readAtom_176 : decode cX12_readAtom 176 = .ok (.putfield 262, 3) := by decide +kernel
theorem dX12_readAtom_179 : decode cX12_readAtom 179 = .ok (.aload_n 0, 1) := by decide +kernel
theorem dX12_readAtom_180 : decode cX12_readAtom 180 = .ok (.bipush 91, 2) := by decide +kernel
theorem dX12_readAtom_182 : decode cX12_readAtom 182 = .ok (.invokevirtual 201, 3) := by decide +kernel
theorem dX12_readAtom_185 : decode cX12_readAtom 185 = .ok (.ifCond .eq 32, 3) := by decide +kernel
theorem dX12_readAtom_188 : decode cX12_readAtom 188 = .ok (.aload_n 0, 1) := by decide +kernel
theorem dX12_readAtom_189 : decode cX12_readAtom 189 = .ok (.invokevirtual 265, 3) := by decide +kernel
theorem dX12_readAtom_192 : decode cX12_readAtom 192 = .ok (.aload_n 0, 1) := by decide +kernel
theorem dX12_readAtom_193 : decode cX12_readAtom 193 = .ok (.invokevirtual 198, 3) := by decide +kernel
theorem dX12_readAtom_196 : decode cX12_readAtom 196 = .ok (.aload_n 0, 1) := by decide +kernel
theorem dX12_readAtom_197 : decode cX12_readAtom 197 = .ok (.invokevirtual 268, 3) := by decide +kernel
theorem dX12_readAtom_200 : decode cX12_readAtom 200 = .ok (.aload_n 0, 1) := by decide +kernel
theorem dX12_readAtom_201 : decode cX12_readAtom 201 = .ok (.bipush 93, 2) := by decide +kernel
theorem dX12_readAtom_203 : decode cX12_readAtom 203 = .ok (.invokevirtual 271, 3) := by decide +kernel
theorem dX12_readAtom_206 : decode cX12_readAtom 206 = .ok (.aload_n 0, 1) := by decide +kernel
theorem dX12_readAtom_207 : decode cX12_readAtom 207 = .ok (.dup, 1) := by decide +kernel
theorem dX12_readAtom_208 : decode cX12_readAtom 208 = .ok (.getfield 242, 3) := by decide +kernel
theorem dX12_readAtom_211 : decode cX12_readAtom 211 = .ok (.iconst 1, 1) := by decide +kernel
theorem dX12_readAtom_212 : decode cX12_readAtom 212 = .ok (.isub, 1) := by decide +kernel
theorem dX12_readAtom_213 : decode cX12_readAtom 213 = .ok (.putfield 242, 3) := by decide +kernel
theorem dX12_readAtom_216 : decode cX12_readAtom 216 = .ok (.return_, 1) := by decide +kernel
theorem dX12_readAtom_217 : decode cX12_readAtom 217 = .ok (.aload_n 0, 1) := by decide +kernel
theorem dX12_readAtom_218 : decode cX12_readAtom 218 = .ok (.getfield 149, 3) := by decide +kernel
theorem dX12_readAtom_221 : decode cX12_readAtom 221 = .ok (.iconst 3, 1) := by decide +kernel
theorem dX12_readAtom_222 : decode cX12_readAtom 222 = .ok (.if_icmp .ne 15, 3) := by decide +kernel
theorem dX12_readAtom_225 : decode cX12_readAtom 225 = .ok (.aload_n 0, 1) := by decide +kernel
theorem dX12_readAtom_226 : decode cX12_readAtom 226 = .ok (.iconst 0, 1) := by decide +kernel
theorem dX12_readAtom_227 : decode cX12_readAtom 227 = .ok (.aload_n 0, 1) := by decide +kernel
theorem dX12_readAtom_228 : decode cX12_readAtom 228 = .ok (.getfield 167, 3) := by decide +kernel
theorem dX12_readAtom_231 : decode cX12_readAtom 231 = .ok (.invokevirtual 274, 3) := by decide +kernel
theorem dX12_readAtom_234 : decode cX12_readAtom 234 = .ok (.goto 53, 3) := by decide +kernel
theorem dX12_readAtom_237 : decode cX12_readAtom 237 = .ok (.aload_n 0, 1) := by decide +kernel
theorem dX12_readAtom_238 : decode cX12_readAtom 238 = .ok (.ldc 233, 2) := by decide +kernel
theorem dX12_readAtom_240 : decode cX12_readAtom 240 = .ok (.invokevirtual 190, 3) := by decide +kernel
theorem dX12_readAtom_243 : decode cX12_readAtom 243 = .ok (.ifCond .eq 12, 3) := by decide +kernel
theorem dX12_readAtom_246 : decode cX12_readAtom 246 = .ok (.aload_n 0, 1) := by decide +kernel
theorem dX12_readAtom_247 : decode cX12_readAtom 247 = .ok (.iconst 3, 1) := by decide +kernel
theorem dX12_readAtom_248 : decode cX12_readAtom 248 = .ok (.iconst 0, 1) := by decide +kernel
theorem dX12_readAtom_249 : decode cX12_readAtom 249 = .ok (.invokevirtual 274, 3) := by decide +kernel
theorem dX12_readAtom_252 : decode cX12_readAtom 252 = .ok (.goto 35, 3) := by decide +kernel
theorem dX12_readAtom_255 : decode cX12_readAtom 255 = .ok (.aload_n 0, 1) := by decide +kernel
theorem dX12_readAtom_256 : decode cX12_readAtom 256 = .ok (.getfield 130, 3) := by decide +kernel
theorem dX12_readAtom_259 : decode cX12_readAtom 259 = .ok (.ifCond .ne 28, 3) := by decide +kernel
theorem dX12_readAtom_262 : decode cX12_readAtom 262 = .ok (.aload_n 0, 1) := by decide +kernel
theorem dX12_readAtom_263 : decode cX12_readAtom 263 = .ok (.iload_n 3, 1) := by decide +kernel
theorem dX12_readAtom_264 : decode cX12_readAtom 264 = .ok (.iconst (-1), 1) := by decide +kernel
theorem dX12_readAtom_265 : decode cX12_readAtom 265 = .ok (.if_icmp .eq 7, 3) := by decide +kernel
theorem dX12_readAtom_268 : decode cX12_readAtom 268 = .ok (.iconst 1, 1) := by decide +kernel
theorem dX12_readAtom_269 : decode cX12_readAtom 269 = .ok (.goto 4, 3) := by decide +kernel
theorem dX12_readAtom_272 : decode cX12_readAtom 272 = .ok (.iconst 2, 1) := by decide +kernel
theorem dX12_readAtom_273 : decode cX12_readAtom 273 = .ok (.iload_n 3, 1) := by decide +kernel
theorem dX12_readAtom_274 : decode cX12_readAtom 274 = .ok (.iconst (-1), 1) := by decide +kernel
theorem dX12_readAtom_275 : decode cX12_readAtom 275 = .ok (.if_icmp .eq 7, 3) := by decide +kernel
theorem dX12_readAtom_278 : decode cX12_readAtom 278 = .ok (.iload_n 3, 1) := by decide +kernel
theorem dX12_readAtom_279 : decode cX12_readAtom 279 = .ok (.goto 5, 3) := by decide +kernel
theorem dX12_readAtom_282 : decode cX12_readAtom 282 = .ok (.iload 4, 2) := by decide +kernel
theorem dX12_readAtom_284 : decode cX12_readAtom 284 = .ok (.invokevirtual 274, 3) := by decide +kernel
theorem dX12_readAtom_287 : decode cX12_readAtom 287 = .ok (.aload_n 0, 1) := by decide +kernel
theorem dX12_readAtom_288 : decode cX12_readAtom 288 = .ok (.invokevirtual 198, 3) := by decide +kernel
theorem dX12_readAtom_291 : decode cX12_readAtom 291 = .ok (.return_, 1) := by decide +kernel
def CtGX12R (E : Ev) (S : Sh) (Z : Option Nat) (d : Nat) (Gr : Nat → Hp → Nat → (Hp → Prop) → Prop) : Prop := ∀ (h : Hp) (a0 : Nat) (Q : Hp → Prop), (Gr 0 h a0 Q → Ct E yX12_readTest cX12_readTest 1 none (11 + d) (366 + 40 * d) 0 0 S Z h [vr a0] (qV S Z Q)) ∧ (Gr 1 h a0 Q → Ct E yX12_readBoth cX12_readBoth 1 none (11 + d) (366 + 40 * d) 0 0 S Z h [vr a0] (qV S Z Q)) ∧ (Gr 2 h a0 Q → Ct E yX12_readFact cX12_readFact 2 none (11 + d) (366 + 40 * d) 0 0 S Z h [vr a0] (qV S Z Q)) ∧ (Gr 3 h a0 Q → Ct E yX12_readSum cX12_readSum 2 none (11 + d) (366 + 40 * d) 0 0 S Z h [vr a0] (qV S Z Q)) ∧ (Gr 4 h a0 Q → Ct E yX12_readTerm cX12_readTerm 1 none (11 + d) (366 + 40 * d) 0 0 S Z h [vr a0] (qV S Z Q)) ∧ (Gr 5 h a0 Q → Ct E yX12_readAtom cX12_readAtom 5 none (11 + d) (366 + 40 * d) 0 0 S Z h [vr a0] (qV S Z Q))
theorem okX12_readTest_4 {E : Ev} {X : Cx} {S : Sh} {Z : Option Nat} {d : Nat} {Gr : Nat → Hp → Nat → (Hp → Prop) → Prop} {Q : Hp → Prop} {a0 : Nat} (O : Ok E X yX12_readTest cX12_readTest 1 none (11 + (d + 1)) (366 + 40 * (d + 1)) 0 0 (qV S Z Q)) (hG : CtGX12R E S Z d Gr) : ∀ (n : Nat) (h : Hp), wX12_readTest_4 S (fun i => E.2.2.2.2.1 i + 1) Gr a0 Q n h → G E X 0 0 S Z h 4 [some (vr a0)] [] := by
  intro n
  induction n with
  | zero => intro h hw; exact hw.elim
  | succ n hB4 =>
    intro h hw
    have hw : wX12_readTest_4b S (fun i => E.2.2.2.2.1 i + 1) Gr a0 Q (wX12_readTest_4 S (fun i => E.2.2.2.2.1 i + 1) Gr a0 Q n) h := hw
    unfold wX12_readTest_4b at hw
    refine g_aload_n O dX12_readTest_4 rfl ?_
    refine g_ldcS (i := 14) O dX12_readTest_5 rfl rfl rfl ?_
    obtain ⟨c7, hw⟩ := hw
    refine g_callV (As := [vr (E.2.2.2.2.1 14 + 1)]) (rest := []) O ci_12 rfl dX12_readTest_7 ml_X12_293 im_yX12_passes se_yX12_passes ini_X12 co_yX12_passes yo_yX12_passes c7 rfl rfl (Nat.le_of_ble_eq_true rfl) ⟨by omega, by omega, by omega, by omega⟩ (okX12_passes hw) (k_I fun r7 h7 hw => ?_)
    refine g_if_eq (tgt := 27) O dX12_readTest_10 rfl (fun q10 => ?_) (fun q10 => ?_)
    · have hw := hw.1 q10
      exact g_return O dX12_readTest_27 ⟨rfl, rfl, rfl, hw⟩
    · have hw := hw.2 q10
      refine g_aload_n O dX12_readTest_13 rfl ?_
      refine g_callV (As := []) (rest := []) O ci_12 rfl dX12_readTest_14 ml_X12_296 im_yX12_readBoth se_yX12_readBoth ini_X12 co_yX12_readBoth yo_yX12_readBoth c7 rfl rfl (Nat.le_of_ble_eq_true rfl) ⟨by omega, by omega, by omega, by omega⟩ ((hG _ _ _).2.1 hw) (k_V fun h14 hw => ?_)
      refine g_aload_n O dX12_readTest_17 rfl ?_
      refine g_bipush O dX12_readTest_18 kb_12 ?_
      refine g_iconst O dX12_readTest_20 kv_0 ?_
      refine g_callV (As := [vi (12 : Int32), vi (0 : Int32)]) (rest := []) O ci_12 rfl dX12_readTest_21 ml_X12_274 im_yX12_emits se_yX12_emits ini_X12 co_yX12_emits yo_yX12_emits c7 rfl rfl (Nat.le_of_ble_eq_true rfl) ⟨by omega, by omega, by omega, by omega⟩ (okX12_emits hw) (k_V fun h21 hw => ?_)
      refine g_goto (tgt := 4) O dX12_readTest_24 rfl ?_
      exact hB4 _ hw
theorem okX12_readTest_b {E : Ev} {S : Sh} {Z : Option Nat} {d : Nat} {Gr : Nat → Hp → Nat → (Hp → Prop) → Prop} {Q : Hp → Prop} {h : Hp} {a0 : Nat} (hG : CtGX12R E S Z d Gr) (hw : wX12_readTest_b S (fun i => E.2.2.2.2.1 i + 1) Gr h a0 Q) : Ct E yX12_readTest cX12_readTest 1 none (11 + (d + 1)) (366 + 40 * (d + 1)) 0 0 S Z h [vr a0] (qV S Z Q) := by
  refine Ct.of (by decide) (lc := [some (vr a0)]) (Nat.le_of_ble_eq_true rfl) rfl (fun X O => ?_)
  unfold wX12_readTest_b at hw
  refine g_aload_n O dX12_readTest_0 rfl ?_
  obtain ⟨c1, hw⟩ := hw
  refine g_callV (As := []) (rest := []) O ci_12 rfl dX12_readTest_1 ml_X12_296 im_yX12_readBoth se_yX12_readBoth ini_X12 co_yX12_readBoth yo_yX12_readBoth c1 rfl rfl (Nat.le_of_ble_eq_true rfl) ⟨by omega, by omega, by omega, by omega⟩ ((hG _ _ _).2.1 hw) (k_V fun h1 hw => ?_)
  obtain ⟨n4, hw⟩ := hw
  exact okX12_readTest_4 O hG n4 _ hw
theorem okX12_readBoth_4 {E : Ev} {X : Cx} {S : Sh} {Z : Option Nat} {d : Nat} {Gr : Nat → Hp → Nat → (Hp → Prop) → Prop} {Q : Hp → Prop} {a0 : Nat} (O : Ok E X yX12_readBoth cX12_readBoth 1 none (11 + (d + 1)) (366 + 40 * (d + 1)) 0 0 (qV S Z Q)) (hG : CtGX12R E S Z d Gr) : ∀ (n : Nat) (h : Hp), wX12_readBoth_4 S (fun i => E.2.2.2.2.1 i + 1) Gr a0 Q n h → G E X 0 0 S Z h 4 [some (vr a0)] [] := by
  intro n
  induction n with
  | zero => intro h hw; exact hw.elim
  | succ n hB4 =>
    intro h hw
    have hw : wX12_readBoth_4b S (fun i => E.2.2.2.2.1 i + 1) Gr a0 Q (wX12_readBoth_4 S (fun i => E.2.2.2.2.1 i + 1) Gr a0 Q n) h := hw
    unfold wX12_readBoth_4b at hw
    refine g_aload_n O dX12_readBoth_4 rfl ?_
    refine g_ldcS (i := 15) O dX12_readBoth_5 rfl rfl rfl ?_
    obtain ⟨c7, hw⟩ := hw
    refine g_callV (As := [vr (E.2.2.2.2.1 15 + 1)]) (rest := []) O ci_12 rfl dX12_readBoth_7 ml_X12_293 im_yX12_passes se_yX12_passes ini_X12 co_yX12_passes yo_yX12_passes c7 rfl rfl (Nat.le_of_ble_eq_true rfl) ⟨by omega, by omega, by omega, by omega⟩ (okX12_passes hw) (k_I fun r7 h7 hw => ?_)
    refine g_if_eq (tgt := 27) O dX12_readBoth_10 rfl (fun q10 => ?_) (fun q10 => ?_)
    · have hw := hw.1 q10
      exact g_return O dX12_readBoth_27 ⟨rfl, rfl, rfl, hw⟩
    · have hw := hw.2 q10
      refine g_aload_n O dX12_readBoth_13 rfl ?_
      refine g_callV (As := []) (rest := []) O ci_12 rfl dX12_readBoth_14 ml_X12_287 im_yX12_readFact se_yX12_readFact ini_X12 co_yX12_readFact yo_yX12_readFact c7 rfl rfl (Nat.le_of_ble_eq_true rfl) ⟨by omega, by omega, by omega, by omega⟩ ((hG _ _ _).2.2.1 hw) (k_V fun h14 hw => ?_)
      refine g_aload_n O dX12_readBoth_17 rfl ?_
      refine g_bipush O dX12_readBoth_18 kb_11 ?_
      refine g_iconst O dX12_readBoth_20 kv_0 ?_
      refine g_callV (As := [vi (11 : Int32), vi (0 : Int32)]) (rest := []) O ci_12 rfl dX12_readBoth_21 ml_X12_274 im_yX12_emits se_yX12_emits ini_X12 co_yX12_emits yo_yX12_emits c7 rfl rfl (Nat.le_of_ble_eq_true rfl) ⟨by omega, by omega, by omega, by omega⟩ (okX12_emits hw) (k_V fun h21 hw => ?_)
      refine g_goto (tgt := 4) O dX12_readBoth_24 rfl ?_
      exact hB4 _ hw
theorem okX12_readBoth_b {E : Ev} {S : Sh} {Z : Option Nat} {d : Nat} {Gr : Nat → Hp → Nat → (Hp → Prop) → Prop} {Q : Hp → Prop} {h : Hp} {a0 : Nat} (hG : CtGX12R E S Z d Gr) (hw : wX12_readBoth_b S (fun i => E.2.2.2.2.1 i + 1) Gr h a0 Q) : Ct E yX12_readBoth cX12_readBoth 1 none (11 + (d + 1)) (366 + 40 * (d + 1)) 0 0 S Z h [vr a0] (qV S Z Q) := by
  refine Ct.of (by decide) (lc := [some (vr a0)]) (Nat.le_of_ble_eq_true rfl) rfl (fun X O => ?_)
  unfold wX12_readBoth_b at hw
  refine g_aload_n O dX12_readBoth_0 rfl ?_
  obtain ⟨c1, hw⟩ := hw
  refine g_callV (As := []) (rest := []) O ci_12 rfl dX12_readBoth_1 ml_X12_287 im_yX12_readFact se_yX12_readFact ini_X12 co_yX12_readFact yo_yX12_readFact c1 rfl rfl (Nat.le_of_ble_eq_true rfl) ⟨by omega, by omega, by omega, by omega⟩ ((hG _ _ _).2.2.1 hw) (k_V fun h1 hw => ?_)
  obtain ⟨n4, hw⟩ := hw
  exact okX12_readBoth_4 O hG n4 _ hw
theorem okX12_readFact_j119 {E : Ev} {X : Cx} {S : Sh} {Z : Option Nat} {d : Nat} {Gr : Nat → Hp → Nat → (Hp → Prop) → Prop} {Q : Hp → Prop} {h : Hp} {a0 : Nat} {s0 : Int32} (O : Ok E X yX12_readFact cX12_readFact 2 none (11 + (d + 1)) (366 + 40 * (d + 1)) 0 0 (qV S Z Q)) (hG : CtGX12R E S Z d Gr) (hw : wX12_readFact_j119 S (fun i => E.2.2.2.2.1 i + 1) Gr h a0 s0 Q) : G E X 0 0 S Z h 119 [some (vr a0), none] [vi s0] := by
  unfold wX12_readFact_j119 at hw
  refine g_istore_n (lc' := [some (vr a0), some (vi s0)]) O dX12_readFact_119 rfl (Nat.le_of_ble_eq_true rfl) rfl ?_
  refine g_iload_n O dX12_readFact_120 rfl ?_
  refine g_bipush O dX12_readFact_121 kb_9 ?_
  refine g_icmp_ne (tgt := 140) O dX12_readFact_123 rfl (fun q123 => ?_) (fun q123 => ?_)
  · have hw := hw.1 q123
    refine g_aload_n O dX12_readFact_140 rfl ?_
    obtain ⟨c141, hw⟩ := hw
    refine g_callV (As := []) (rest := []) O ci_12 rfl dX12_readFact_141 ml_X12_198 im_yX12_goOn se_yX12_goOn ini_X12 co_yX12_goOn yo_yX12_goOn c141 rfl rfl (Nat.le_of_ble_eq_true rfl) ⟨by omega, by omega, by omega, by omega⟩ (okX12_goOn hw) (k_V fun h141 hw => ?_)
    refine g_aload_n O dX12_readFact_144 rfl ?_
    refine g_callV (As := []) (rest := []) O ci_12 rfl dX12_readFact_145 ml_X12_268 im_yX12_readSum se_yX12_readSum ini_X12 co_yX12_readSum yo_yX12_readSum c141 rfl rfl (Nat.le_of_ble_eq_true rfl) ⟨by omega, by omega, by omega, by omega⟩ ((hG _ _ _).2.2.2.1 hw) (k_V fun h145 hw => ?_)
    refine g_aload_n O dX12_readFact_148 rfl ?_
    refine g_iload_n O dX12_readFact_149 rfl ?_
    refine g_iconst O dX12_readFact_150 kv_0 ?_
    refine g_callV (As := [vi s0, vi (0 : Int32)]) (rest := []) O ci_12 rfl dX12_readFact_151 ml_X12_274 im_yX12_emits se_yX12_emits ini_X12 co_yX12_emits yo_yX12_emits c141 rfl rfl (Nat.le_of_ble_eq_true rfl) ⟨by omega, by omega, by omega, by omega⟩ (okX12_emits hw) (k_V fun h151 hw => ?_)
    exact g_return O dX12_readFact_154 ⟨rfl, rfl, rfl, hw⟩
  · have hw := hw.2 q123
    refine g_aload_n O dX12_readFact_126 rfl ?_
    refine g_bipush O dX12_readFact_127 kb_61 ?_
    obtain ⟨c129, hw⟩ := hw
    refine g_callV (As := [vi (61 : Int32)]) (rest := []) O ci_12 rfl dX12_readFact_129 ml_X12_201 im_yX12_isSign se_yX12_isSign ini_X12 co_yX12_isSign yo_yX12_isSign c129 rfl rfl (Nat.le_of_ble_eq_true rfl) ⟨by omega, by omega, by omega, by omega⟩ (okX12_isSign hw) (k_I fun r129 h129 hw => ?_)
    refine g_if_ne (tgt := 140) O dX12_readFact_132 rfl (fun q132 => ?_) (fun q132 => ?_)
    · have hw := hw.1 q132
      refine g_aload_n O dX12_readFact_140 rfl ?_
      refine g_callV (As := []) (rest := []) O ci_12 rfl dX12_readFact_141 ml_X12_198 im_yX12_goOn se_yX12_goOn ini_X12 co_yX12_goOn yo_yX12_goOn c129 rfl rfl (Nat.le_of_ble_eq_true rfl) ⟨by omega, by omega, by omega, by omega⟩ (okX12_goOn hw) (k_V fun h141 hw => ?_)
      refine g_aload_n O dX12_readFact_144 rfl ?_
      refine g_callV (As := []) (rest := []) O ci_12 rfl dX12_readFact_145 ml_X12_268 im_yX12_readSum se_yX12_readSum ini_X12 co_yX12_readSum yo_yX12_readSum c129 rfl rfl (Nat.le_of_ble_eq_true rfl) ⟨by omega, by omega, by omega, by omega⟩ ((hG _ _ _).2.2.2.1 hw) (k_V fun h145 hw => ?_)
      refine g_aload_n O dX12_readFact_148 rfl ?_
      refine g_iload_n O dX12_readFact_149 rfl ?_
      refine g_iconst O dX12_readFact_150 kv_0 ?_
      refine g_callV (As := [vi s0, vi (0 : Int32)]) (rest := []) O ci_12 rfl dX12_readFact_151 ml_X12_274 im_yX12_emits se_yX12_emits ini_X12 co_yX12_emits yo_yX12_emits c129 rfl rfl (Nat.le_of_ble_eq_true rfl) ⟨by omega, by omega, by omega, by omega⟩ (okX12_emits hw) (k_V fun h151 hw => ?_)
      exact g_return O dX12_readFact_154 ⟨rfl, rfl, rfl, hw⟩
    · have hw := hw.2 q132
      refine g_aload_n O dX12_readFact_135 rfl ?_
      refine g_iconst O dX12_readFact_136 kv_1 ?_
      refine g_callV (As := [vi (1 : Int32)]) (rest := []) O ci_12 rfl dX12_readFact_137 ml_X12_194 im_yX12_flaw se_yX12_flaw ini_X12 co_yX12_flaw yo_yX12_flaw c129 rfl rfl (Nat.le_of_ble_eq_true rfl) ⟨by omega, by omega, by omega, by omega⟩ (okX12_flaw hw) (k_V fun h137 hw => ?_)
      refine g_aload_n O dX12_readFact_140 rfl ?_
      refine g_callV (As := []) (rest := []) O ci_12 rfl dX12_readFact_141 ml_X12_198 im_yX12_goOn se_yX12_goOn ini_X12 co_yX12_goOn yo_yX12_goOn c129 rfl rfl (Nat.le_of_ble_eq_true rfl) ⟨by omega, by omega, by omega, by omega⟩ (okX12_goOn hw) (k_V fun h141 hw => ?_)
      refine g_aload_n O dX12_readFact_144 rfl ?_
      refine g_callV (As := []) (rest := []) O ci_12 rfl dX12_readFact_145 ml_X12_268 im_yX12_readSum se_yX12_readSum ini_X12 co_yX12_readSum yo_yX12_readSum c129 rfl rfl (Nat.le_of_ble_eq_true rfl) ⟨by omega, by omega, by omega, by omega⟩ ((hG _ _ _).2.2.2.1 hw) (k_V fun h145 hw => ?_)
      refine g_aload_n O dX12_readFact_148 rfl ?_
      refine g_iload_n O dX12_readFact_149 rfl ?_
      refine g_iconst O dX12_readFact_150 kv_0 ?_
      refine g_callV (As := [vi s0, vi (0 : Int32)]) (rest := []) O ci_12 rfl dX12_readFact_151 ml_X12_274 im_yX12_emits se_yX12_emits ini_X12 co_yX12_emits yo_yX12_emits c129 rfl rfl (Nat.le_of_ble_eq_true rfl) ⟨by omega, by omega, by omega, by omega⟩ (okX12_emits hw) (k_V fun h151 hw => ?_)
      exact g_return O dX12_readFact_154 ⟨rfl, rfl, rfl, hw⟩
theorem okX12_readFact_b {E : Ev} {S : Sh} {Z : Option Nat} {d : Nat} {Gr : Nat → Hp → Nat → (Hp → Prop) → Prop} {Q : Hp → Prop} {h : Hp} {a0 : Nat} (hG : CtGX12R E S Z d Gr) (hw : wX12_readFact_b S (fun i => E.2.2.2.2.1 i + 1) Gr h a0 Q) : Ct E yX12_readFact cX12_readFact 2 none (11 + (d + 1)) (366 + 40 * (d + 1)) 0 0 S Z h [vr a0] (qV S Z Q) := by
  refine Ct.of (by decide) (lc := [some (vr a0), none]) (Nat.le_of_ble_eq_true rfl) rfl (fun X O => ?_)
  unfold wX12_readFact_b at hw
  refine g_aload_n O dX12_readFact_0 rfl ?_
  obtain ⟨c1, hw⟩ := hw
  refine gf_X12_fault O dX12_readFact_1 fl_X12_130 c1 ?_
  refine g_if_le (tgt := 8) O dX12_readFact_4 rfl (fun q4 => ?_) (fun q4 => ?_)
  · have hw := hw.1 q4
    refine g_aload_n O dX12_readFact_8 rfl ?_
    refine g_ldcS (i := 16) O dX12_readFact_9 rfl rfl rfl ?_
    refine g_callV (As := [vr (E.2.2.2.2.1 16 + 1)]) (rest := []) O ci_12 rfl dX12_readFact_11 ml_X12_190 im_yX12_isWord se_yX12_isWord ini_X12 co_yX12_isWord yo_yX12_isWord c1 rfl rfl (Nat.le_of_ble_eq_true rfl) ⟨by omega, by omega, by omega, by omega⟩ (okX12_isWord hw) (k_I fun r11 h11 hw => ?_)
    refine g_if_eq (tgt := 47) O dX12_readFact_14 rfl (fun q14 => ?_) (fun q14 => ?_)
    · have hw := hw.1 q14
      refine g_aload_n O dX12_readFact_47 rfl ?_
      refine g_bipush O dX12_readFact_48 kb_40 ?_
      refine g_callV (As := [vi (40 : Int32)]) (rest := []) O ci_12 rfl dX12_readFact_50 ml_X12_201 im_yX12_isSign se_yX12_isSign ini_X12 co_yX12_isSign yo_yX12_isSign c1 rfl rfl (Nat.le_of_ble_eq_true rfl) ⟨by omega, by omega, by omega, by omega⟩ (okX12_isSign hw) (k_I fun r50 h50 hw => ?_)
      refine g_if_eq (tgt := 85) O dX12_readFact_53 rfl (fun q53 => ?_) (fun q53 => ?_)
      · have hw := hw.1 q53
        refine g_aload_n O dX12_readFact_85 rfl ?_
        refine g_callV (As := []) (rest := []) O ci_12 rfl dX12_readFact_86 ml_X12_268 im_yX12_readSum se_yX12_readSum ini_X12 co_yX12_readSum yo_yX12_readSum c1 rfl rfl (Nat.le_of_ble_eq_true rfl) ⟨by omega, by omega, by omega, by omega⟩ ((hG _ _ _).2.2.2.1 hw) (k_V fun h86 hw => ?_)
        refine g_aload_n O dX12_readFact_89 rfl ?_
        refine g_bipush O dX12_readFact_90 kb_60 ?_
        refine g_callV (As := [vi (60 : Int32)]) (rest := []) O ci_12 rfl dX12_readFact_92 ml_X12_201 im_yX12_isSign se_yX12_isSign ini_X12 co_yX12_isSign yo_yX12_isSign c1 rfl rfl (Nat.le_of_ble_eq_true rfl) ⟨by omega, by omega, by omega, by omega⟩ (okX12_isSign hw) (k_I fun r92 h92 hw => ?_)
        refine g_if_eq (tgt := 103) O dX12_readFact_95 rfl (fun q95 => ?_) (fun q95 => ?_)
        · have hw := hw.1 q95
          refine g_aload_n O dX12_readFact_103 rfl ?_
          refine g_bipush O dX12_readFact_104 kb_62 ?_
          refine g_callV (As := [vi (62 : Int32)]) (rest := []) O ci_12 rfl dX12_readFact_106 ml_X12_201 im_yX12_isSign se_yX12_isSign ini_X12 co_yX12_isSign yo_yX12_isSign c1 rfl rfl (Nat.le_of_ble_eq_true rfl) ⟨by omega, by omega, by omega, by omega⟩ (okX12_isSign hw) (k_I fun r106 h106 hw => ?_)
          refine g_if_eq (tgt := 117) O dX12_readFact_109 rfl (fun q109 => ?_) (fun q109 => ?_)
          · have hw := hw.1 q109
            refine g_bipush O dX12_readFact_117 kb_9 ?_
            exact okX12_readFact_j119 O hG hw
          · have hw := hw.2 q109
            refine g_bipush O dX12_readFact_112 kb_8 ?_
            refine g_goto (tgt := 119) O dX12_readFact_114 rfl ?_
            exact okX12_readFact_j119 O hG hw
        · have hw := hw.2 q95
          refine g_bipush O dX12_readFact_98 kb_7 ?_
          refine g_goto (tgt := 119) O dX12_readFact_100 rfl ?_
          exact okX12_readFact_j119 O hG hw
      · have hw := hw.2 q53
        refine g_aload_n O dX12_readFact_56 rfl ?_
        refine g_callV (As := []) (rest := []) O ci_12 rfl dX12_readFact_57 ml_X12_265 im_yX12_opens se_yX12_opens ini_X12 co_yX12_opens yo_yX12_opens c1 rfl rfl (Nat.le_of_ble_eq_true rfl) ⟨by omega, by omega, by omega, by omega⟩ (okX12_opens hw) (k_V fun h57 hw => ?_)
        refine g_aload_n O dX12_readFact_60 rfl ?_
        refine g_callV (As := []) (rest := []) O ci_12 rfl dX12_readFact_61 ml_X12_198 im_yX12_goOn se_yX12_goOn ini_X12 co_yX12_goOn yo_yX12_goOn c1 rfl rfl (Nat.le_of_ble_eq_true rfl) ⟨by omega, by omega, by omega, by omega⟩ (okX12_goOn hw) (k_V fun h61 hw => ?_)
        refine g_aload_n O dX12_readFact_64 rfl ?_
        refine g_callV (As := []) (rest := []) O ci_12 rfl dX12_readFact_65 ml_X12_290 im_yX12_readTest se_yX12_readTest ini_X12 co_yX12_readTest yo_yX12_readTest c1 rfl rfl (Nat.le_of_ble_eq_true rfl) ⟨by omega, by omega, by omega, by omega⟩ ((hG _ _ _).1 hw) (k_V fun h65 hw => ?_)
        refine g_aload_n O dX12_readFact_68 rfl ?_
        refine g_bipush O dX12_readFact_69 kb_41 ?_
        refine g_callV (As := [vi (41 : Int32)]) (rest := []) O ci_12 rfl dX12_readFact_71 ml_X12_271 im_yX12_needsSign se_yX12_needsSign ini_X12 co_yX12_needsSign yo_yX12_needsSign c1 rfl rfl (Nat.le_of_ble_eq_true rfl) ⟨by omega, by omega, by omega, by omega⟩ (okX12_needsSign hw) (k_V fun h71 hw => ?_)
        refine g_aload_n O dX12_readFact_74 rfl ?_
        refine g_dup O dX12_readFact_75 rfl ?_
        refine gf_X12_open O dX12_readFact_76 fl_X12_242 c1 ?_
        refine g_iconst O dX12_readFact_79 kv_1 ?_
        refine g_isub O dX12_readFact_80 ?_
        refine pf_X12_open O dX12_readFact_81 fl_X12_242 c1 ?_
        exact g_return O dX12_readFact_84 ⟨rfl, rfl, rfl, hw⟩
    · have hw := hw.2 q14
      refine g_aload_n O dX12_readFact_17 rfl ?_
      refine g_callV (As := []) (rest := []) O ci_12 rfl dX12_readFact_18 ml_X12_265 im_yX12_opens se_yX12_opens ini_X12 co_yX12_opens yo_yX12_opens c1 rfl rfl (Nat.le_of_ble_eq_true rfl) ⟨by omega, by omega, by omega, by omega⟩ (okX12_opens hw) (k_V fun h18 hw => ?_)
      refine g_aload_n O dX12_readFact_21 rfl ?_
      refine g_callV (As := []) (rest := []) O ci_12 rfl dX12_readFact_22 ml_X12_198 im_yX12_goOn se_yX12_goOn ini_X12 co_yX12_goOn yo_yX12_goOn c1 rfl rfl (Nat.le_of_ble_eq_true rfl) ⟨by omega, by omega, by omega, by omega⟩ (okX12_goOn hw) (k_V fun h22 hw => ?_)
      refine g_aload_n O dX12_readFact_25 rfl ?_
      refine g_callV (As := []) (rest := []) O ci_12 rfl dX12_readFact_26 ml_X12_287 im_yX12_readFact se_yX12_readFact ini_X12 co_yX12_readFact yo_yX12_readFact c1 rfl rfl (Nat.le_of_ble_eq_true rfl) ⟨by omega, by omega, by omega, by omega⟩ ((hG _ _ _).2.2.1 hw) (k_V fun h26 hw => ?_)
      refine g_aload_n O dX12_readFact_29 rfl ?_
      refine g_bipush O dX12_readFact_30 kb_10 ?_
      refine g_iconst O dX12_readFact_32 kv_0 ?_
      refine g_callV (As := [vi (10 : Int32), vi (0 : Int32)]) (rest := []) O ci_12 rfl dX12_readFact_33 ml_X12_274 im_yX12_emits se_yX12_emits ini_X12 co_yX12_emits yo_yX12_emits c1 rfl rfl (Nat.le_of_ble_eq_true rfl) ⟨by omega, by omega, by omega, by omega⟩ (okX12_emits hw) (k_V fun h33 hw => ?_)
      refine g_aload_n O dX12_readFact_36 rfl ?_
      refine g_dup O dX12_readFact_37 rfl ?_
      refine gf_X12_open O dX12_readFact_38 fl_X12_242 c1 ?_
      refine g_iconst O dX12_readFact_41 kv_1 ?_
      refine g_isub O dX12_readFact_42 ?_
      refine pf_X12_open O dX12_readFact_43 fl_X12_242 c1 ?_
      exact g_return O dX12_readFact_46 ⟨rfl, rfl, rfl, hw⟩
  · have hw := hw.2 q4
    exact g_return O dX12_readFact_7 ⟨rfl, rfl, rfl, hw⟩
theorem okX12_readSum_j36 {E : Ev} {X : Cx} {S : Sh} {Z : Option Nat} {d : Nat} {Gr : Nat → Hp → Nat → (Hp → Prop) → Prop} {Q : Hp → Prop} {B4 : Hp → Prop} {h : Hp} {a0 : Nat} {s0 : Int32} (O : Ok E X yX12_readSum cX12_readSum 2 none (11 + (d + 1)) (366 + 40 * (d + 1)) 0 0 (qV S Z Q)) (hG : CtGX12R E S Z d Gr) (hB4 : ∀ (h : Hp), B4 h → G E X 0 0 S Z h 4 [some (vr a0), none] []) (hw : wX12_readSum_j36 S (fun i => E.2.2.2.2.1 i + 1) Gr B4 h a0 s0 Q) : G E X 0 0 S Z h 36 [some (vr a0), none] [vi s0] := by
  unfold wX12_readSum_j36 at hw
  refine g_istore_n (lc' := [some (vr a0), some (vi s0)]) O dX12_readSum_36 rfl (Nat.le_of_ble_eq_true rfl) rfl ?_
  refine g_aload_n O dX12_readSum_37 rfl ?_
  obtain ⟨c38, hw⟩ := hw
  refine g_callV (As := []) (rest := []) O ci_12 rfl dX12_readSum_38 ml_X12_198 im_yX12_goOn se_yX12_goOn ini_X12 co_yX12_goOn yo_yX12_goOn c38 rfl rfl (Nat.le_of_ble_eq_true rfl) ⟨by omega, by omega, by omega, by omega⟩ (okX12_goOn hw) (k_V fun h38 hw => ?_)
  refine g_aload_n O dX12_readSum_41 rfl ?_
  refine g_callV (As := []) (rest := []) O ci_12 rfl dX12_readSum_42 ml_X12_284 im_yX12_readTerm se_yX12_readTerm ini_X12 co_yX12_readTerm yo_yX12_readTerm c38 rfl rfl (Nat.le_of_ble_eq_true rfl) ⟨by omega, by omega, by omega, by omega⟩ ((hG _ _ _).2.2.2.2.1 hw) (k_V fun h42 hw => ?_)
  refine g_aload_n O dX12_readSum_45 rfl ?_
  refine g_iload_n O dX12_readSum_46 rfl ?_
  refine g_iconst O dX12_readSum_47 kv_0 ?_
  refine g_callV (As := [vi s0, vi (0 : Int32)]) (rest := []) O ci_12 rfl dX12_readSum_48 ml_X12_274 im_yX12_emits se_yX12_emits ini_X12 co_yX12_emits yo_yX12_emits c38 rfl rfl (Nat.le_of_ble_eq_true rfl) ⟨by omega, by omega, by omega, by omega⟩ (okX12_emits hw) (k_V fun h48 hw => ?_)
  refine g_goto (tgt := 4) O dX12_readSum_51 rfl ?_
  refine g_mask [true, false] rfl rfl ?_
  exact hB4 _ hw
theorem okX12_readSum_j22 {E : Ev} {X : Cx} {S : Sh} {Z : Option Nat} {d : Nat} {Gr : Nat → Hp → Nat → (Hp → Prop) → Prop} {Q : Hp → Prop} {B4 : Hp → Prop} {h : Hp} {a0 : Nat} (O : Ok E X yX12_readSum cX12_readSum 2 none (11 + (d + 1)) (366 + 40 * (d + 1)) 0 0 (qV S Z Q)) (hG : CtGX12R E S Z d Gr) (hB4 : ∀ (h : Hp), B4 h → G E X 0 0 S Z h 4 [some (vr a0), none] []) (hw : wX12_readSum_j22 S (fun i => E.2.2.2.2.1 i + 1) Gr B4 h a0 Q) : G E X 0 0 S Z h 22 [some (vr a0), none] [] := by
  unfold wX12_readSum_j22 at hw
  refine g_aload_n O dX12_readSum_22 rfl ?_
  obtain ⟨c23, hw⟩ := hw
  refine gf_X12_sign O dX12_readSum_23 fl_X12_170 c23 ?_
  refine g_bipush O dX12_readSum_26 kb_43 ?_
  refine g_icmp_ne (tgt := 35) O dX12_readSum_28 rfl (fun q28 => ?_) (fun q28 => ?_)
  · have hw := hw.1 q28
    refine g_iconst O dX12_readSum_35 kv_5 ?_
    exact okX12_readSum_j36 O hG hB4 hw
  · have hw := hw.2 q28
    refine g_iconst O dX12_readSum_31 kv_4 ?_
    refine g_goto (tgt := 36) O dX12_readSum_32 rfl ?_
    exact okX12_readSum_j36 O hG hB4 hw
theorem okX12_readSum_4 {E : Ev} {X : Cx} {S : Sh} {Z : Option Nat} {d : Nat} {Gr : Nat → Hp → Nat → (Hp → Prop) → Prop} {Q : Hp → Prop} {a0 : Nat} (O : Ok E X yX12_readSum cX12_readSum 2 none (11 + (d + 1)) (366 + 40 * (d + 1)) 0 0 (qV S Z Q)) (hG : CtGX12R E S Z d Gr) : ∀ (n : Nat) (h : Hp), wX12_readSum_4 S (fun i => E.2.2.2.2.1 i + 1) Gr a0 Q n h → G E X 0 0 S Z h 4 [some (vr a0), none] [] := by
  intro n
  induction n with
  | zero => intro h hw; exact hw.elim
  | succ n hB4 =>
    intro h hw
    have hw : wX12_readSum_4b S (fun i => E.2.2.2.2.1 i + 1) Gr a0 Q (wX12_readSum_4 S (fun i => E.2.2.2.2.1 i + 1) Gr a0 Q n) h := hw
    unfold wX12_readSum_4b at hw
    refine g_aload_n O dX12_readSum_4 rfl ?_
    refine g_bipush O dX12_readSum_5 kb_43 ?_
    obtain ⟨c7, hw⟩ := hw
    refine g_callV (As := [vi (43 : Int32)]) (rest := []) O ci_12 rfl dX12_readSum_7 ml_X12_201 im_yX12_isSign se_yX12_isSign ini_X12 co_yX12_isSign yo_yX12_isSign c7 rfl rfl (Nat.le_of_ble_eq_true rfl) ⟨by omega, by omega, by omega, by omega⟩ (okX12_isSign hw) (k_I fun r7 h7 hw => ?_)
    refine g_if_ne (tgt := 22) O dX12_readSum_10 rfl (fun q10 => ?_) (fun q10 => ?_)
    · have hw := hw.1 q10
      exact okX12_readSum_j22 O hG hB4 hw
    · have hw := hw.2 q10
      refine g_aload_n O dX12_readSum_13 rfl ?_
      refine g_bipush O dX12_readSum_14 kb_45 ?_
      refine g_callV (As := [vi (45 : Int32)]) (rest := []) O ci_12 rfl dX12_readSum_16 ml_X12_201 im_yX12_isSign se_yX12_isSign ini_X12 co_yX12_isSign yo_yX12_isSign c7 rfl rfl (Nat.le_of_ble_eq_true rfl) ⟨by omega, by omega, by omega, by omega⟩ (okX12_isSign hw) (k_I fun r16 h16 hw => ?_)
      refine g_if_eq (tgt := 54) O dX12_readSum_19 rfl (fun q19 => ?_) (fun q19 => ?_)
      · have hw := hw.1 q19
        exact g_return O dX12_readSum_54 ⟨rfl, rfl, rfl, hw⟩
      · have hw := hw.2 q19
        exact okX12_readSum_j22 O hG hB4 hw
theorem okX12_readSum_b {E : Ev} {S : Sh} {Z : Option Nat} {d : Nat} {Gr : Nat → Hp → Nat → (Hp → Prop) → Prop} {Q : Hp → Prop} {h : Hp} {a0 : Nat} (hG : CtGX12R E S Z d Gr) (hw : wX12_readSum_b S (fun i => E.2.2.2.2.1 i + 1) Gr h a0 Q) : Ct E yX12_readSum cX12_readSum 2 none (11 + (d + 1)) (366 + 40 * (d + 1)) 0 0 S Z h [vr a0] (qV S Z Q) := by
  refine Ct.of (by decide) (lc := [some (vr a0), none]) (Nat.le_of_ble_eq_true rfl) rfl (fun X O => ?_)
  unfold wX12_readSum_b at hw
  refine g_aload_n O dX12_readSum_0 rfl ?_
  obtain ⟨c1, hw⟩ := hw
  refine g_callV (As := []) (rest := []) O ci_12 rfl dX12_readSum_1 ml_X12_284 im_yX12_readTerm se_yX12_readTerm ini_X12 co_yX12_readTerm yo_yX12_readTerm c1 rfl rfl (Nat.le_of_ble_eq_true rfl) ⟨by omega, by omega, by omega, by omega⟩ ((hG _ _ _).2.2.2.2.1 hw) (k_V fun h1 hw => ?_)
  obtain ⟨n4, hw⟩ := hw
  exact okX12_readSum_4 O hG n4 _ hw
theorem okX12_readTerm_4 {E : Ev} {X : Cx} {S : Sh} {Z : Option Nat} {d : Nat} {Gr : Nat → Hp → Nat → (Hp → Prop) → Prop} {Q : Hp → Prop} {a0 : Nat} (O : Ok E X yX12_readTerm cX12_readTerm 1 none (11 + (d + 1)) (366 + 40 * (d + 1)) 0 0 (qV S Z Q)) (hG : CtGX12R E S Z d Gr) : ∀ (n : Nat) (h : Hp), wX12_readTerm_4 S (fun i => E.2.2.2.2.1 i + 1) Gr a0 Q n h → G E X 0 0 S Z h 4 [some (vr a0)] [] := by
  intro n
  induction n with
  | zero => intro h hw; exact hw.elim
  | succ n hB4 =>
    intro h hw
    have hw : wX12_readTerm_4b S (fun i => E.2.2.2.2.1 i + 1) Gr a0 Q (wX12_readTerm_4 S (fun i => E.2.2.2.2.1 i + 1) Gr a0 Q n) h := hw
    unfold wX12_readTerm_4b at hw
    refine g_aload_n O dX12_readTerm_4 rfl ?_
    refine g_bipush O dX12_readTerm_5 kb_42 ?_
    obtain ⟨c7, hw⟩ := hw
    refine g_callV (As := [vi (42 : Int32)]) (rest := []) O ci_12 rfl dX12_readTerm_7 ml_X12_281 im_yX12_passesSign se_yX12_passesSign ini_X12 co_yX12_passesSign yo_yX12_passesSign c7 rfl rfl (Nat.le_of_ble_eq_true rfl) ⟨by omega, by omega, by omega, by omega⟩ (okX12_passesSign hw) (k_I fun r7 h7 hw => ?_)
    refine g_if_eq (tgt := 27) O dX12_readTerm_10 rfl (fun q10 => ?_) (fun q10 => ?_)
    · have hw := hw.1 q10
      exact g_return O dX12_readTerm_27 ⟨rfl, rfl, rfl, hw⟩
    · have hw := hw.2 q10
      refine g_aload_n O dX12_readTerm_13 rfl ?_
      refine g_callV (As := []) (rest := []) O ci_12 rfl dX12_readTerm_14 ml_X12_278 im_yX12_readAtom se_yX12_readAtom ini_X12 co_yX12_readAtom yo_yX12_readAtom c7 rfl rfl (Nat.le_of_ble_eq_true rfl) ⟨by omega, by omega, by omega, by omega⟩ ((hG _ _ _).2.2.2.2.2 hw) (k_V fun h14 hw => ?_)
      refine g_aload_n O dX12_readTerm_17 rfl ?_
      refine g_bipush O dX12_readTerm_18 kb_6 ?_
      refine g_iconst O dX12_readTerm_20 kv_0 ?_
      refine g_callV (As := [vi (6 : Int32), vi (0 : Int32)]) (rest := []) O ci_12 rfl dX12_readTerm_21 ml_X12_274 im_yX12_emits se_yX12_emits ini_X12 co_yX12_emits yo_yX12_emits c7 rfl rfl (Nat.le_of_ble_eq_true rfl) ⟨by omega, by omega, by omega, by omega⟩ (okX12_emits hw) (k_V fun h21 hw => ?_)
      refine g_goto (tgt := 4) O dX12_readTerm_24 rfl ?_
      exact hB4 _ hw
theorem okX12_readTerm_b {E : Ev} {S : Sh} {Z : Option Nat} {d : Nat} {Gr : Nat → Hp → Nat → (Hp → Prop) → Prop} {Q : Hp → Prop} {h : Hp} {a0 : Nat} (hG : CtGX12R E S Z d Gr) (hw : wX12_readTerm_b S (fun i => E.2.2.2.2.1 i + 1) Gr h a0 Q) : Ct E yX12_readTerm cX12_readTerm 1 none (11 + (d + 1)) (366 + 40 * (d + 1)) 0 0 S Z h [vr a0] (qV S Z Q) := by
  refine Ct.of (by decide) (lc := [some (vr a0)]) (Nat.le_of_ble_eq_true rfl) rfl (fun X O => ?_)
  unfold wX12_readTerm_b at hw
  refine g_aload_n O dX12_readTerm_0 rfl ?_
  obtain ⟨c1, hw⟩ := hw
  refine g_callV (As := []) (rest := []) O ci_12 rfl dX12_readTerm_1 ml_X12_278 im_yX12_readAtom se_yX12_readAtom ini_X12 co_yX12_readAtom yo_yX12_readAtom c1 rfl rfl (Nat.le_of_ble_eq_true rfl) ⟨by omega, by omega, by omega, by omega⟩ ((hG _ _ _).2.2.2.2.2 hw) (k_V fun h1 hw => ?_)
  obtain ⟨n4, hw⟩ := hw
  exact okX12_readTerm_4 O hG n4 _ hw
theorem okX12_readAtom_j273 {E : Ev} {X : Cx} {S : Sh} {Z : Option Nat} {d : Nat} {Gr : Nat → Hp → Nat → (Hp → Prop) → Prop} {Q : Hp → Prop} {h : Hp} {a0 : Nat} {x3 : Int32} {x4 : Int32} {s0 : Nat} {s1 : Int32} (O : Ok E X yX12_readAtom cX12_readAtom 5 none (11 + (d + 1)) (366 + 40 * (d + 1)) 0 0 (qV S Z Q)) (hG : CtGX12R E S Z d Gr) (hw : wX12_readAtom_j273 S (fun i => E.2.2.2.2.1 i + 1) Gr h a0 x3 x4 s0 s1 Q) : G E X 0 0 S Z h 273 [some (vr a0), none, none, some (vi x3), some (vi x4)] [vi s1, vr s0] := by
  unfold wX12_readAtom_j273 at hw
  refine g_iload_n O dX12_readAtom_273 rfl ?_
  refine g_iconst O dX12_readAtom_274 kv_m1 ?_
  refine g_icmp_eq (tgt := 282) O dX12_readAtom_275 rfl (fun q275 => ?_) (fun q275 => ?_)
  · have hw := hw.1 q275
    refine g_iload O dX12_readAtom_282 rfl ?_
    obtain ⟨c284, hw⟩ := hw
    refine g_callV (As := [vi s1, vi x4]) (rest := []) O ci_12 rfl dX12_readAtom_284 ml_X12_274 im_yX12_emits se_yX12_emits ini_X12 co_yX12_emits yo_yX12_emits c284 rfl rfl (Nat.le_of_ble_eq_true rfl) ⟨by omega, by omega, by omega, by omega⟩ (okX12_emits hw) (k_V fun h284 hw => ?_)
    refine g_aload_n O dX12_readAtom_287 rfl ?_
    obtain ⟨c288, hw⟩ := hw
    refine g_callV (As := []) (rest := []) O ci_12 rfl dX12_readAtom_288 ml_X12_198 im_yX12_goOn se_yX12_goOn ini_X12 co_yX12_goOn yo_yX12_goOn c288 rfl rfl (Nat.le_of_ble_eq_true rfl) ⟨by omega, by omega, by omega, by omega⟩ (okX12_goOn hw) (k_V fun h288 hw => ?_)
    exact g_return O dX12_readAtom_291 ⟨rfl, rfl, rfl, hw⟩
  · have hw := hw.2 q275
    refine g_iload_n O dX12_readAtom_278 rfl ?_
    refine g_goto (tgt := 284) O dX12_readAtom_279 rfl ?_
    obtain ⟨c284, hw⟩ := hw
    refine g_callV (As := [vi s1, vi x3]) (rest := []) O ci_12 rfl dX12_readAtom_284 ml_X12_274 im_yX12_emits se_yX12_emits ini_X12 co_yX12_emits yo_yX12_emits c284 rfl rfl (Nat.le_of_ble_eq_true rfl) ⟨by omega, by omega, by omega, by omega⟩ (okX12_emits hw) (k_V fun h284 hw => ?_)
    refine g_aload_n O dX12_readAtom_287 rfl ?_
    obtain ⟨c288, hw⟩ := hw
    refine g_callV (As := []) (rest := []) O ci_12 rfl dX12_readAtom_288 ml_X12_198 im_yX12_goOn se_yX12_goOn ini_X12 co_yX12_goOn yo_yX12_goOn c288 rfl rfl (Nat.le_of_ble_eq_true rfl) ⟨by omega, by omega, by omega, by omega⟩ (okX12_goOn hw) (k_V fun h288 hw => ?_)
    exact g_return O dX12_readAtom_291 ⟨rfl, rfl, rfl, hw⟩
theorem okX12_readAtom_j169 {E : Ev} {X : Cx} {S : Sh} {Z : Option Nat} {d : Nat} {Gr : Nat → Hp → Nat → (Hp → Prop) → Prop} {Q : Hp → Prop} {h : Hp} {a0 : Nat} {x3 : Int32} {x4 : Int32} (O : Ok E X yX12_readAtom cX12_readAtom 5 none (11 + (d + 1)) (366 + 40 * (d + 1)) 0 0 (qV S Z Q)) (hG : CtGX12R E S Z d Gr) (hw : wX12_readAtom_j169 S (fun i => E.2.2.2.2.1 i + 1) Gr h a0 x3 x4 Q) : G E X 0 0 S Z h 169 [some (vr a0), none, none, some (vi x3), some (vi x4)] [] := by
  unfold wX12_readAtom_j169 at hw
  refine g_aload_n O dX12_readAtom_169 rfl ?_
  refine g_dup O dX12_readAtom_170 rfl ?_
  obtain ⟨c171, hw⟩ := hw
  refine gf_X12_atoms O dX12_readAtom_171 fl_X12_262 c171 ?_
  refine g_iconst O dX12_readAtom_174 kv_1 ?_
  refine g_iadd O dX12_readAtom_175 ?_
  refine pf_X12_atoms O dX12_readAtom_176 fl_X12_262 c171 ?_
  refine g_aload_n O dX12_readAtom_179 rfl ?_
  refine g_bipush O dX12_readAtom_180 kb_91 ?_
  refine g_callV (As := [vi (91 : Int32)]) (rest := []) O ci_12 rfl dX12_readAtom_182 ml_X12_201 im_yX12_isSign se_yX12_isSign ini_X12 co_yX12_isSign yo_yX12_isSign c171 rfl rfl (Nat.le_of_ble_eq_true rfl) ⟨by omega, by omega, by omega, by omega⟩ (okX12_isSign hw) (k_I fun r182 h182 hw => ?_)
  refine g_if_eq (tgt := 217) O dX12_readAtom_185 rfl (fun q185 => ?_) (fun q185 => ?_)
  · have hw := hw.1 q185
    refine g_aload_n O dX12_readAtom_217 rfl ?_
    refine gf_X12_token O dX12_readAtom_218 fl_X12_149 c171 ?_
    refine g_iconst O dX12_readAtom_221 kv_3 ?_
    refine g_icmp_ne (tgt := 237) O dX12_readAtom_222 rfl (fun q222 => ?_) (fun q222 => ?_)
    · have hw := hw.1 q222
      refine g_aload_n O dX12_readAtom_237 rfl ?_
      refine g_ldcS (i := 17) O dX12_readAtom_238 rfl rfl rfl ?_
      refine g_callV (As := [vr (E.2.2.2.2.1 17 + 1)]) (rest := []) O ci_12 rfl dX12_readAtom_240 ml_X12_190 im_yX12_isWord se_yX12_isWord ini_X12 co_yX12_isWord yo_yX12_isWord c171 rfl rfl (Nat.le_of_ble_eq_true rfl) ⟨by omega, by omega, by omega, by omega⟩ (okX12_isWord hw) (k_I fun r240 h240 hw => ?_)
      refine g_if_eq (tgt := 255) O dX12_readAtom_243 rfl (fun q243 => ?_) (fun q243 => ?_)
      · have hw := hw.1 q243
        refine g_aload_n O dX12_readAtom_255 rfl ?_
        refine gf_X12_fault O dX12_readAtom_256 fl_X12_130 c171 ?_
        refine g_if_ne (tgt := 287) O dX12_readAtom_259 rfl (fun q259 => ?_) (fun q259 => ?_)
        · have hw := hw.1 q259
          refine g_aload_n O dX12_readAtom_287 rfl ?_
          refine g_callV (As := []) (rest := []) O ci_12 rfl dX12_readAtom_288 ml_X12_198 im_yX12_goOn se_yX12_goOn ini_X12 co_yX12_goOn yo_yX12_goOn c171 rfl rfl (Nat.le_of_ble_eq_true rfl) ⟨by omega, by omega, by omega, by omega⟩ (okX12_goOn hw) (k_V fun h288 hw => ?_)
          exact g_return O dX12_readAtom_291 ⟨rfl, rfl, rfl, hw⟩
        · have hw := hw.2 q259
          refine g_aload_n O dX12_readAtom_262 rfl ?_
          refine g_iload_n O dX12_readAtom_263 rfl ?_
          refine g_iconst O dX12_readAtom_264 kv_m1 ?_
          refine g_icmp_eq (tgt := 272) O dX12_readAtom_265 rfl (fun q265 => ?_) (fun q265 => ?_)
          · have hw := hw.1 q265
            refine g_iconst O dX12_readAtom_272 kv_2 ?_
            exact okX12_readAtom_j273 O hG hw
          · have hw := hw.2 q265
            refine g_iconst O dX12_readAtom_268 kv_1 ?_
            refine g_goto (tgt := 273) O dX12_readAtom_269 rfl ?_
            exact okX12_readAtom_j273 O hG hw
      · have hw := hw.2 q243
        refine g_aload_n O dX12_readAtom_246 rfl ?_
        refine g_iconst O dX12_readAtom_247 kv_3 ?_
        refine g_iconst O dX12_readAtom_248 kv_0 ?_
        refine g_callV (As := [vi (3 : Int32), vi (0 : Int32)]) (rest := []) O ci_12 rfl dX12_readAtom_249 ml_X12_274 im_yX12_emits se_yX12_emits ini_X12 co_yX12_emits yo_yX12_emits c171 rfl rfl (Nat.le_of_ble_eq_true rfl) ⟨by omega, by omega, by omega, by omega⟩ (okX12_emits hw) (k_V fun h249 hw => ?_)
        refine g_goto (tgt := 287) O dX12_readAtom_252 rfl ?_
        refine g_aload_n O dX12_readAtom_287 rfl ?_
        refine g_callV (As := []) (rest := []) O ci_12 rfl dX12_readAtom_288 ml_X12_198 im_yX12_goOn se_yX12_goOn ini_X12 co_yX12_goOn yo_yX12_goOn c171 rfl rfl (Nat.le_of_ble_eq_true rfl) ⟨by omega, by omega, by omega, by omega⟩ (okX12_goOn hw) (k_V fun h288 hw => ?_)
        exact g_return O dX12_readAtom_291 ⟨rfl, rfl, rfl, hw⟩
    · have hw := hw.2 q222
      refine g_aload_n O dX12_readAtom_225 rfl ?_
      refine g_iconst O dX12_readAtom_226 kv_0 ?_
      refine g_aload_n O dX12_readAtom_227 rfl ?_
      refine gf_X12_number O dX12_readAtom_228 fl_X12_167 c171 ?_
      refine g_callV (As := [vi (0 : Int32), vi (gI h182 a0 12)]) (rest := []) O ci_12 rfl dX12_readAtom_231 ml_X12_274 im_yX12_emits se_yX12_emits ini_X12 co_yX12_emits yo_yX12_emits c171 rfl rfl (Nat.le_of_ble_eq_true rfl) ⟨by omega, by omega, by omega, by omega⟩ (okX12_emits hw) (k_V fun h231 hw => ?_)
      refine g_goto (tgt := 287) O dX12_readAtom_234 rfl ?_
      refine g_aload_n O dX12_readAtom_287 rfl ?_
      refine g_callV (As := []) (rest := []) O ci_12 rfl dX12_readAtom_288 ml_X12_198 im_yX12_goOn se_yX12_goOn ini_X12 co_yX12_goOn yo_yX12_goOn c171 rfl rfl (Nat.le_of_ble_eq_true rfl) ⟨by omega, by omega, by omega, by omega⟩ (okX12_goOn hw) (k_V fun h288 hw => ?_)
      exact g_return O dX12_readAtom_291 ⟨rfl, rfl, rfl, hw⟩
  · have hw := hw.2 q185
    refine g_aload_n O dX12_readAtom_188 rfl ?_
    refine g_callV (As := []) (rest := []) O ci_12 rfl dX12_readAtom_189 ml_X12_265 im_yX12_opens se_yX12_opens ini_X12 co_yX12_opens yo_yX12_opens c171 rfl rfl (Nat.le_of_ble_eq_true rfl) ⟨by omega, by omega, by omega, by omega⟩ (okX12_opens hw) (k_V fun h189 hw => ?_)
    refine g_aload_n O dX12_readAtom_192 rfl ?_
    refine g_callV (As := []) (rest := []) O ci_12 rfl dX12_readAtom_193 ml_X12_198 im_yX12_goOn se_yX12_goOn ini_X12 co_yX12_goOn yo_yX12_goOn c171 rfl rfl (Nat.le_of_ble_eq_true rfl) ⟨by omega, by omega, by omega, by omega⟩ (okX12_goOn hw) (k_V fun h193 hw => ?_)
    refine g_aload_n O dX12_readAtom_196 rfl ?_
    refine g_callV (As := []) (rest := []) O ci_12 rfl dX12_readAtom_197 ml_X12_268 im_yX12_readSum se_yX12_readSum ini_X12 co_yX12_readSum yo_yX12_readSum c171 rfl rfl (Nat.le_of_ble_eq_true rfl) ⟨by omega, by omega, by omega, by omega⟩ ((hG _ _ _).2.2.2.1 hw) (k_V fun h197 hw => ?_)
    refine g_aload_n O dX12_readAtom_200 rfl ?_
    refine g_bipush O dX12_readAtom_201 kb_93 ?_
    refine g_callV (As := [vi (93 : Int32)]) (rest := []) O ci_12 rfl dX12_readAtom_203 ml_X12_271 im_yX12_needsSign se_yX12_needsSign ini_X12 co_yX12_needsSign yo_yX12_needsSign c171 rfl rfl (Nat.le_of_ble_eq_true rfl) ⟨by omega, by omega, by omega, by omega⟩ (okX12_needsSign hw) (k_V fun h203 hw => ?_)
    refine g_aload_n O dX12_readAtom_206 rfl ?_
    refine g_dup O dX12_readAtom_207 rfl ?_
    refine gf_X12_open O dX12_readAtom_208 fl_X12_242 c171 ?_
    refine g_iconst O dX12_readAtom_211 kv_1 ?_
    refine g_isub O dX12_readAtom_212 ?_
    refine pf_X12_open O dX12_readAtom_213 fl_X12_242 c171 ?_
    exact g_return O dX12_readAtom_216 ⟨rfl, rfl, rfl, hw⟩
theorem okX12_readAtom_j155 {E : Ev} {X : Cx} {S : Sh} {Z : Option Nat} {d : Nat} {Gr : Nat → Hp → Nat → (Hp → Prop) → Prop} {Q : Hp → Prop} {h : Hp} {a0 : Nat} {x3 : Int32} {x4 : Int32} (O : Ok E X yX12_readAtom cX12_readAtom 5 none (11 + (d + 1)) (366 + 40 * (d + 1)) 0 0 (qV S Z Q)) (hG : CtGX12R E S Z d Gr) (hw : wX12_readAtom_j155 S (fun i => E.2.2.2.2.1 i + 1) Gr h a0 x3 x4 Q) : G E X 0 0 S Z h 155 [some (vr a0), none, none, some (vi x3), some (vi x4)] [] := by
  unfold wX12_readAtom_j155 at hw
  refine g_aload_n O dX12_readAtom_155 rfl ?_
  obtain ⟨c156, hw⟩ := hw
  refine gf_X12_atoms O dX12_readAtom_156 fl_X12_262 c156 ?_
  refine g_bipush O dX12_readAtom_159 kb_30 ?_
  refine g_icmp_ne (tgt := 169) O dX12_readAtom_161 rfl (fun q161 => ?_) (fun q161 => ?_)
  · have hw := hw.1 q161
    exact okX12_readAtom_j169 O hG hw
  · have hw := hw.2 q161
    refine g_aload_n O dX12_readAtom_164 rfl ?_
    refine g_iconst O dX12_readAtom_165 kv_4 ?_
    refine g_callV (As := [vi (4 : Int32)]) (rest := []) O ci_12 rfl dX12_readAtom_166 ml_X12_194 im_yX12_flaw se_yX12_flaw ini_X12 co_yX12_flaw yo_yX12_flaw c156 rfl rfl (Nat.le_of_ble_eq_true rfl) ⟨by omega, by omega, by omega, by omega⟩ (okX12_flaw hw) (k_V fun h166 hw => ?_)
    exact okX12_readAtom_j169 O hG hw
theorem okX12_readAtom_j130 {E : Ev} {X : Cx} {S : Sh} {Z : Option Nat} {d : Nat} {Gr : Nat → Hp → Nat → (Hp → Prop) → Prop} {Q : Hp → Prop} {h : Hp} {a0 : Nat} {x3 : Int32} {s0 : Int32} (O : Ok E X yX12_readAtom cX12_readAtom 5 none (11 + (d + 1)) (366 + 40 * (d + 1)) 0 0 (qV S Z Q)) (hG : CtGX12R E S Z d Gr) (hw : wX12_readAtom_j130 S (fun i => E.2.2.2.2.1 i + 1) Gr h a0 x3 s0 Q) : G E X 0 0 S Z h 130 [some (vr a0), none, none, some (vi x3), none] [vi s0] := by
  unfold wX12_readAtom_j130 at hw
  refine g_istore (lc' := [some (vr a0), none, none, some (vi x3), some (vi s0)]) O dX12_readAtom_130 rfl (Nat.le_of_ble_eq_true rfl) rfl ?_
  refine g_aload_n O dX12_readAtom_132 rfl ?_
  obtain ⟨c133, hw⟩ := hw
  refine g_callV (As := []) (rest := []) O ci_12 rfl dX12_readAtom_133 ml_X12_245 im_yX12_isName se_yX12_isName ini_X12 co_yX12_isName yo_yX12_isName c133 rfl rfl (Nat.le_of_ble_eq_true rfl) ⟨by omega, by omega, by omega, by omega⟩ (okX12_isName hw) (k_I fun r133 h133 hw => ?_)
  refine g_if_eq (tgt := 155) O dX12_readAtom_136 rfl (fun q136 => ?_) (fun q136 => ?_)
  · have hw := hw.1 q136
    exact okX12_readAtom_j155 O hG hw
  · have hw := hw.2 q136
    refine g_iload_n O dX12_readAtom_139 rfl ?_
    refine g_iconst O dX12_readAtom_140 kv_m1 ?_
    refine g_icmp_ne (tgt := 155) O dX12_readAtom_141 rfl (fun q141 => ?_) (fun q141 => ?_)
    · have hw := hw.1 q141
      exact okX12_readAtom_j155 O hG hw
    · have hw := hw.2 q141
      refine g_iload O dX12_readAtom_144 rfl ?_
      refine g_iconst O dX12_readAtom_146 kv_m1 ?_
      refine g_icmp_ne (tgt := 155) O dX12_readAtom_147 rfl (fun q147 => ?_) (fun q147 => ?_)
      · have hw := hw.1 q147
        exact okX12_readAtom_j155 O hG hw
      · have hw := hw.2 q147
        refine g_aload_n O dX12_readAtom_150 rfl ?_
        refine g_iconst O dX12_readAtom_151 kv_3 ?_
        refine g_callV (As := [vi (3 : Int32)]) (rest := []) O ci_12 rfl dX12_readAtom_152 ml_X12_194 im_yX12_flaw se_yX12_flaw ini_X12 co_yX12_flaw yo_yX12_flaw c133 rfl rfl (Nat.le_of_ble_eq_true rfl) ⟨by omega, by omega, by omega, by omega⟩ (okX12_flaw hw) (k_V fun h152 hw => ?_)
        exact okX12_readAtom_j155 O hG hw
theorem okX12_readAtom_j129 {E : Ev} {X : Cx} {S : Sh} {Z : Option Nat} {d : Nat} {Gr : Nat → Hp → Nat → (Hp → Prop) → Prop} {Q : Hp → Prop} {h : Hp} {a0 : Nat} {x3 : Int32} (O : Ok E X yX12_readAtom cX12_readAtom 5 none (11 + (d + 1)) (366 + 40 * (d + 1)) 0 0 (qV S Z Q)) (hG : CtGX12R E S Z d Gr) (hw : wX12_readAtom_j129 S (fun i => E.2.2.2.2.1 i + 1) Gr h a0 x3 Q) : G E X 0 0 S Z h 129 [some (vr a0), none, none, some (vi x3), none] [] := by
  unfold wX12_readAtom_j129 at hw
  refine g_iconst O dX12_readAtom_129 kv_m1 ?_
  exact okX12_readAtom_j130 O hG hw
theorem okX12_readAtom_j92 {E : Ev} {X : Cx} {S : Sh} {Z : Option Nat} {d : Nat} {Gr : Nat → Hp → Nat → (Hp → Prop) → Prop} {Q : Hp → Prop} {h : Hp} {a0 : Nat} {x2 : Int32} {s0 : Int32} (O : Ok E X yX12_readAtom cX12_readAtom 5 none (11 + (d + 1)) (366 + 40 * (d + 1)) 0 0 (qV S Z Q)) (hG : CtGX12R E S Z d Gr) (hw : wX12_readAtom_j92 S (fun i => E.2.2.2.2.1 i + 1) Gr h a0 x2 s0 Q) : G E X 0 0 S Z h 92 [some (vr a0), none, some (vi x2), none, none] [vi s0] := by
  unfold wX12_readAtom_j92 at hw
  refine g_istore_n (lc' := [some (vr a0), none, some (vi x2), some (vi s0), none]) O dX12_readAtom_92 rfl (Nat.le_of_ble_eq_true rfl) rfl ?_
  refine g_aload_n O dX12_readAtom_93 rfl ?_
  obtain ⟨c94, hw⟩ := hw
  refine g_callV (As := []) (rest := []) O ci_12 rfl dX12_readAtom_94 ml_X12_245 im_yX12_isName se_yX12_isName ini_X12 co_yX12_isName yo_yX12_isName c94 rfl rfl (Nat.le_of_ble_eq_true rfl) ⟨by omega, by omega, by omega, by omega⟩ (okX12_isName hw) (k_I fun r94 h94 hw => ?_)
  refine g_if_eq (tgt := 129) O dX12_readAtom_97 rfl (fun q97 => ?_) (fun q97 => ?_)
  · have hw := hw.1 q97
    refine g_mask [true, false, false, true, false] rfl rfl ?_
    exact okX12_readAtom_j129 O hG hw
  · have hw := hw.2 q97
    refine g_aload_n O dX12_readAtom_100 rfl ?_
    refine gf_X12_mayAhead O dX12_readAtom_101 fl_X12_259 c94 ?_
    refine g_if_eq (tgt := 129) O dX12_readAtom_104 rfl (fun q104 => ?_) (fun q104 => ?_)
    · have hw := hw.1 q104
      refine g_mask [true, false, false, true, false] rfl rfl ?_
      exact okX12_readAtom_j129 O hG hw
    · have hw := hw.2 q104
      refine g_aload_n O dX12_readAtom_107 rfl ?_
      refine gf_X12_readMany O dX12_readAtom_108 fl_X12_252 c94 ?_
      refine g_iconst O dX12_readAtom_111 kv_1 ?_
      refine g_icmp_le (tgt := 129) O dX12_readAtom_112 rfl (fun q112 => ?_) (fun q112 => ?_)
      · have hw := hw.1 q112
        refine g_mask [true, false, false, true, false] rfl rfl ?_
        exact okX12_readAtom_j129 O hG hw
      · have hw := hw.2 q112
        refine g_aload_n O dX12_readAtom_115 rfl ?_
        refine g_iload_n O dX12_readAtom_116 rfl ?_
        refine g_iconst O dX12_readAtom_117 kv_1 ?_
        refine g_isub O dX12_readAtom_118 ?_
        refine g_aload_n O dX12_readAtom_119 rfl ?_
        refine gf_X12_word O dX12_readAtom_120 fl_X12_156 c94 ?_
        refine g_callV (As := [vi ((x2 - (1 : Int32))), vj (gJ h94 a0 13)]) (rest := []) O ci_12 rfl dX12_readAtom_123 ml_X12_255 im_yX12_varOf se_yX12_varOf ini_X12 co_yX12_varOf yo_yX12_varOf c94 rfl rfl (Nat.le_of_ble_eq_true rfl) ⟨by omega, by omega, by omega, by omega⟩ (okX12_varOf hw) (k_I fun r123 h123 hw => ?_)
        refine g_goto (tgt := 130) O dX12_readAtom_126 rfl ?_
        refine g_mask [true, false, false, true, false] rfl rfl ?_
        exact okX12_readAtom_j130 O hG hw
theorem okX12_readAtom_j63 {E : Ev} {X : Cx} {S : Sh} {Z : Option Nat} {d : Nat} {Gr : Nat → Hp → Nat → (Hp → Prop) → Prop} {Q : Hp → Prop} {h : Hp} {a0 : Nat} (O : Ok E X yX12_readAtom cX12_readAtom 5 none (11 + (d + 1)) (366 + 40 * (d + 1)) 0 0 (qV S Z Q)) (hG : CtGX12R E S Z d Gr) (hw : wX12_readAtom_j63 S (fun i => E.2.2.2.2.1 i + 1) Gr h a0 Q) : G E X 0 0 S Z h 63 [some (vr a0), none, none, none, none] [] := by
  unfold wX12_readAtom_j63 at hw
  refine g_iconst O dX12_readAtom_63 kv_3 ?_
  refine g_aload_n O dX12_readAtom_64 rfl ?_
  obtain ⟨c65, hw⟩ := hw
  refine gf_X12_readMany O dX12_readAtom_65 fl_X12_252 c65 ?_
  refine g_iadd O dX12_readAtom_68 ?_
  refine g_iconst O dX12_readAtom_69 kv_1 ?_
  refine g_isub O dX12_readAtom_70 ?_
  refine g_nmI (fun xv71 e71 => ?_)
  have hw := hw xv71 e71
  refine g_istore_n (lc' := [some (vr a0), none, some (vi xv71), none, none]) O dX12_readAtom_71 rfl (Nat.le_of_ble_eq_true rfl) rfl ?_
  refine g_aload_n O dX12_readAtom_72 rfl ?_
  refine g_callV (As := []) (rest := []) O ci_12 rfl dX12_readAtom_73 ml_X12_245 im_yX12_isName se_yX12_isName ini_X12 co_yX12_isName yo_yX12_isName c65 rfl rfl (Nat.le_of_ble_eq_true rfl) ⟨by omega, by omega, by omega, by omega⟩ (okX12_isName hw) (k_I fun r73 h73 hw => ?_)
  refine g_if_eq (tgt := 91) O dX12_readAtom_76 rfl (fun q76 => ?_) (fun q76 => ?_)
  · have hw := hw.1 q76
    refine g_iconst O dX12_readAtom_91 kv_m1 ?_
    exact okX12_readAtom_j92 O hG hw
  · have hw := hw.2 q76
    refine g_aload_n O dX12_readAtom_79 rfl ?_
    refine g_iload_n O dX12_readAtom_80 rfl ?_
    refine g_aload_n O dX12_readAtom_81 rfl ?_
    refine gf_X12_word O dX12_readAtom_82 fl_X12_156 c65 ?_
    refine g_callV (As := [vi xv71, vj (gJ h73 a0 13)]) (rest := []) O ci_12 rfl dX12_readAtom_85 ml_X12_255 im_yX12_varOf se_yX12_varOf ini_X12 co_yX12_varOf yo_yX12_varOf c65 rfl rfl (Nat.le_of_ble_eq_true rfl) ⟨by omega, by omega, by omega, by omega⟩ (okX12_varOf hw) (k_I fun r85 h85 hw => ?_)
    refine g_goto (tgt := 92) O dX12_readAtom_88 rfl ?_
    exact okX12_readAtom_j92 O hG hw
theorem okX12_readAtom_j53 {E : Ev} {X : Cx} {S : Sh} {Z : Option Nat} {d : Nat} {Gr : Nat → Hp → Nat → (Hp → Prop) → Prop} {Q : Hp → Prop} {h : Hp} {a0 : Nat} {s0 : Int32} (O : Ok E X yX12_readAtom cX12_readAtom 5 none (11 + (d + 1)) (366 + 40 * (d + 1)) 0 0 (qV S Z Q)) (hG : CtGX12R E S Z d Gr) (hw : wX12_readAtom_j53 S (fun i => E.2.2.2.2.1 i + 1) Gr h a0 s0 Q) : G E X 0 0 S Z h 53 [some (vr a0), none, none, none, none] [vi s0] := by
  unfold wX12_readAtom_j53 at hw
  refine g_istore_n (lc' := [some (vr a0), some (vi s0), none, none, none]) O dX12_readAtom_53 rfl (Nat.le_of_ble_eq_true rfl) rfl ?_
  refine g_iload_n O dX12_readAtom_54 rfl ?_
  refine g_if_ne (tgt := 63) O dX12_readAtom_55 rfl (fun q55 => ?_) (fun q55 => ?_)
  · have hw := hw.1 q55
    refine g_mask [true, false, false, false, false] rfl rfl ?_
    exact okX12_readAtom_j63 O hG hw
  · have hw := hw.2 q55
    refine g_aload_n O dX12_readAtom_58 rfl ?_
    refine g_iconst O dX12_readAtom_59 kv_1 ?_
    obtain ⟨c60, hw⟩ := hw
    refine g_callV (As := [vi (1 : Int32)]) (rest := []) O ci_12 rfl dX12_readAtom_60 ml_X12_194 im_yX12_flaw se_yX12_flaw ini_X12 co_yX12_flaw yo_yX12_flaw c60 rfl rfl (Nat.le_of_ble_eq_true rfl) ⟨by omega, by omega, by omega, by omega⟩ (okX12_flaw hw) (k_V fun h60 hw => ?_)
    refine g_mask [true, false, false, false, false] rfl rfl ?_
    exact okX12_readAtom_j63 O hG hw
theorem okX12_readAtom_j48 {E : Ev} {X : Cx} {S : Sh} {Z : Option Nat} {d : Nat} {Gr : Nat → Hp → Nat → (Hp → Prop) → Prop} {Q : Hp → Prop} {h : Hp} {a0 : Nat} (O : Ok E X yX12_readAtom cX12_readAtom 5 none (11 + (d + 1)) (366 + 40 * (d + 1)) 0 0 (qV S Z Q)) (hG : CtGX12R E S Z d Gr) (hw : wX12_readAtom_j48 S (fun i => E.2.2.2.2.1 i + 1) Gr h a0 Q) : G E X 0 0 S Z h 48 [some (vr a0), none, none, none, none] [] := by
  unfold wX12_readAtom_j48 at hw
  refine g_iconst O dX12_readAtom_48 kv_1 ?_
  refine g_goto (tgt := 53) O dX12_readAtom_49 rfl ?_
  exact okX12_readAtom_j53 O hG hw
theorem okX12_readAtom_j39 {E : Ev} {X : Cx} {S : Sh} {Z : Option Nat} {d : Nat} {Gr : Nat → Hp → Nat → (Hp → Prop) → Prop} {Q : Hp → Prop} {h : Hp} {a0 : Nat} (O : Ok E X yX12_readAtom cX12_readAtom 5 none (11 + (d + 1)) (366 + 40 * (d + 1)) 0 0 (qV S Z Q)) (hG : CtGX12R E S Z d Gr) (hw : wX12_readAtom_j39 S (fun i => E.2.2.2.2.1 i + 1) Gr h a0 Q) : G E X 0 0 S Z h 39 [some (vr a0), none, none, none, none] [] := by
  unfold wX12_readAtom_j39 at hw
  refine g_aload_n O dX12_readAtom_39 rfl ?_
  refine g_bipush O dX12_readAtom_40 kb_91 ?_
  obtain ⟨c42, hw⟩ := hw
  refine g_callV (As := [vi (91 : Int32)]) (rest := []) O ci_12 rfl dX12_readAtom_42 ml_X12_201 im_yX12_isSign se_yX12_isSign ini_X12 co_yX12_isSign yo_yX12_isSign c42 rfl rfl (Nat.le_of_ble_eq_true rfl) ⟨by omega, by omega, by omega, by omega⟩ (okX12_isSign hw) (k_I fun r42 h42 hw => ?_)
  refine g_if_eq (tgt := 52) O dX12_readAtom_45 rfl (fun q45 => ?_) (fun q45 => ?_)
  · have hw := hw.1 q45
    refine g_iconst O dX12_readAtom_52 kv_0 ?_
    exact okX12_readAtom_j53 O hG hw
  · have hw := hw.2 q45
    exact okX12_readAtom_j48 O hG hw
theorem okX12_readAtom_b {E : Ev} {S : Sh} {Z : Option Nat} {d : Nat} {Gr : Nat → Hp → Nat → (Hp → Prop) → Prop} {Q : Hp → Prop} {h : Hp} {a0 : Nat} (hG : CtGX12R E S Z d Gr) (hw : wX12_readAtom_b S (fun i => E.2.2.2.2.1 i + 1) Gr h a0 Q) : Ct E yX12_readAtom cX12_readAtom 5 none (11 + (d + 1)) (366 + 40 * (d + 1)) 0 0 S Z h [vr a0] (qV S Z Q) := by
  refine Ct.of (by decide) (lc := [some (vr a0), none, none, none, none]) (Nat.le_of_ble_eq_true rfl) rfl (fun X O => ?_)
  unfold wX12_readAtom_b at hw
  refine g_aload_n O dX12_readAtom_0 rfl ?_
  obtain ⟨c1, hw⟩ := hw
  refine gf_X12_fault O dX12_readAtom_1 fl_X12_130 c1 ?_
  refine g_if_le (tgt := 8) O dX12_readAtom_4 rfl (fun q4 => ?_) (fun q4 => ?_)
  · have hw := hw.1 q4
    refine g_aload_n O dX12_readAtom_8 rfl ?_
    refine gf_X12_token O dX12_readAtom_9 fl_X12_149 c1 ?_
    refine g_iconst O dX12_readAtom_12 kv_3 ?_
    refine g_icmp_eq (tgt := 48) O dX12_readAtom_13 rfl (fun q13 => ?_) (fun q13 => ?_)
    · have hw := hw.1 q13
      exact okX12_readAtom_j48 O hG hw
    · have hw := hw.2 q13
      refine g_aload_n O dX12_readAtom_16 rfl ?_
      refine g_callV (As := []) (rest := []) O ci_12 rfl dX12_readAtom_17 ml_X12_245 im_yX12_isName se_yX12_isName ini_X12 co_yX12_isName yo_yX12_isName c1 rfl rfl (Nat.le_of_ble_eq_true rfl) ⟨by omega, by omega, by omega, by omega⟩ (okX12_isName hw) (k_I fun r17 h17 hw => ?_)
      refine g_if_ne (tgt := 48) O dX12_readAtom_20 rfl (fun q20 => ?_) (fun q20 => ?_)
      · have hw := hw.1 q20
        exact okX12_readAtom_j48 O hG hw
      · have hw := hw.2 q20
        refine g_aload_n O dX12_readAtom_23 rfl ?_
        refine g_ldcS (i := 17) O dX12_readAtom_24 rfl rfl rfl ?_
        refine g_callV (As := [vr (E.2.2.2.2.1 17 + 1)]) (rest := []) O ci_12 rfl dX12_readAtom_26 ml_X12_190 im_yX12_isWord se_yX12_isWord ini_X12 co_yX12_isWord yo_yX12_isWord c1 rfl rfl (Nat.le_of_ble_eq_true rfl) ⟨by omega, by omega, by omega, by omega⟩ (okX12_isWord hw) (k_I fun r26 h26 hw => ?_)
        refine g_if_eq (tgt := 39) O dX12_readAtom_29 rfl (fun q29 => ?_) (fun q29 => ?_)
        · have hw := hw.1 q29
          exact okX12_readAtom_j39 O hG hw
        · have hw := hw.2 q29
          refine g_aload_n O dX12_readAtom_32 rfl ?_
          refine gf_X12_mayPick O dX12_readAtom_33 fl_X12_248 c1 ?_
          refine g_if_ne (tgt := 48) O dX12_readAtom_36 rfl (fun q36 => ?_) (fun q36 => ?_)
          · have hw := hw.1 q36
            exact okX12_readAtom_j48 O hG hw
          · have hw := hw.2 q36
            exact okX12_readAtom_j39 O hG hw
  · have hw := hw.2 q4
    exact g_return O dX12_readAtom_7 ⟨rfl, rfl, rfl, hw⟩
theorem okX12R {E : Ev} {S : Sh} {Z : Option Nat} : ∀ d : Nat, CtGX12R E S Z d (wX12R S (fun i => E.2.2.2.2.1 i + 1) d) := by
  intro d
  induction d with
  | zero =>
    intro h a0 Q
    exact ⟨fun hw => hw.elim, fun hw => hw.elim, fun hw => hw.elim, fun hw => hw.elim, fun hw => hw.elim, fun hw => hw.elim⟩
  | succ d ih =>
    intro h a0 Q
    exact ⟨fun hw => okX12_readTest_b ih hw, fun hw => okX12_readBoth_b ih hw, fun hw => okX12_readFact_b ih hw, fun hw => okX12_readSum_b ih hw, fun hw => okX12_readTerm_b ih hw, fun hw => okX12_readAtom_b ih hw⟩
theorem okX12_readTest {E : Ev} {S : Sh} {Z : Option Nat} {h : Hp} {a0 : Nat} {Q : Hp → Prop} (hw : wX12_readTest S (fun i => E.2.2.2.2.1 i + 1) h a0 Q) : Ct E yX12_readTest cX12_readTest 1 none 71 2766 0 0 S Z h [vr a0] (qV S Z Q) := (okX12R 60 h a0 Q).1 hw
theorem okX12_readBoth {E : Ev} {S : Sh} {Z : Option Nat} {h : Hp} {a0 : Nat} {Q : Hp → Prop} (hw : wX12_readBoth S (fun i => E.2.2.2.2.1 i + 1) h a0 Q) : Ct E yX12_readBoth cX12_readBoth 1 none 71 2766 0 0 S Z h [vr a0] (qV S Z Q) := (okX12R 60 h a0 Q).2.1 hw
theorem okX12_readFact {E : Ev} {S : Sh} {Z : Option Nat} {h : Hp} {a0 : Nat} {Q : Hp → Prop} (hw : wX12_readFact S (fun i => E.2.2.2.2.1 i + 1) h a0 Q) : Ct E yX12_readFact cX12_readFact 2 none 71 2766 0 0 S Z h [vr a0] (qV S Z Q) := (okX12R 60 h a0 Q).2.2.1 hw
theorem okX12_readSum {E : Ev} {S : Sh} {Z : Option Nat} {h : Hp} {a0 : Nat} {Q : Hp → Prop} (hw : wX12_readSum S (fun i => E.2.2.2.2.1 i + 1) h a0 Q) : Ct E yX12_readSum cX12_readSum 2 none 71 2766 0 0 S Z h [vr a0] (qV S Z Q) := (okX12R 60 h a0 Q).2.2.2.1 hw
theorem okX12_readTerm {E : Ev} {S : Sh} {Z : Option Nat} {h : Hp} {a0 : Nat} {Q : Hp → Prop} (hw : wX12_readTerm S (fun i => E.2.2.2.2.1 i + 1) h a0 Q) : Ct E yX12_readTerm cX12_readTerm 1 none 71 2766 0 0 S Z h [vr a0] (qV S Z Q) := (okX12R 60 h a0 Q).2.2.2.2.1 hw
theorem okX12_readAtom {E : Ev} {S : Sh} {Z : Option Nat} {h : Hp} {a0 : Nat} {Q : Hp → Prop} (hw : wX12_readAtom S (fun i => E.2.2.2.2.1 i + 1) h a0 Q) : Ct E yX12_readAtom cX12_readAtom 5 none 71 2766 0 0 S Z h [vr a0] (qV S Z Q) := (okX12R 60 h a0 Q).2.2.2.2.2 hw
theorem dX12_readGiven_0 : decode cX12_readGiven 0 = .ok (.aload_n 0, 1) := by decide +kernel
theorem dX12_readGiven_1 : decode cX12_readGiven 1 = .ok (.getfield 130, 3) := by decide +kernel
theorem dX12_readGiven_4 : decode cX12_readGiven 4 = .ok (.ifCond .le 4, 3) := by decide +kernel
theorem dX12_readGiven_7 : decode cX12_readGiven 7 = .ok (.return_, 1) := by decide +kernel
theorem dX12_readGiven_8 : decode cX12_readGiven 8 = .ok (.aload_n 0, 1) := by decide +kernel
theorem dX12_readGiven_9 : decode cX12_readGiven 9 = .ok (.invokevirtual 245, 3) := by decide +kernel
theorem dX12_readGiven_12 : decode cX12_readGiven 12 = .ok (.ifCond .eq 15, 3) := by decide +kernel
theorem dX12_readGiven_15 : decode cX12_readGiven 15 = .ok (.aload_n 0, 1) := by decide +kernel
theorem dX12_readGiven_16 : decode cX12_readGiven 16 = .ok (.iload_n 1, 1) := by decide +kernel
theorem dX12_readGiven_17 : decode cX12_readGiven 17 = .ok (.aload_n 0, 1) := by decide +kernel
theorem dX12_readGiven_18 : decode cX12_readGiven 18 = .ok (.getfield 156, 3) := by decide +kernel
theorem dX12_readGiven_21 : decode cX12_readGiven 21 = .ok (.invokevirtual 255, 3) := by decide +kernel
theorem dX12_readGiven_24 : decode cX12_readGiven 24 = .ok (.goto 4, 3) := by decide +kernel
theorem dX12_readGiven_27 : decode cX12_readGiven 27 = .ok (.iconst (-1), 1) := by decide +kernel
theorem dX12_readGiven_28 : decode cX12_readGiven 28 = .ok (.istore_n 3, 1) := by decide +kernel
theorem dX12_readGiven_29 : decode cX12_readGiven 29 = .ok (.aload_n 0, 1) := by decide +kernel
theorem dX12_readGiven_30 : decode cX12_readGiven 30 = .ok (.invokevirtual 245, 3) := by decide +kernel
theorem dX12_readGiven_33 : decode cX12_readGiven 33 = .ok (.ifCond .ne 11, 3) := by decide +kernel
theorem dX12_readGiven_36 : decode cX12_readGiven 36 = .ok (.aload_n 0, 1) := by decide +kernel
theorem dX12_readGiven_37 : decode cX12_readGiven 37 = .ok (.iconst 1, 1) := by decide +kernel
theorem dX12_readGiven_38 : decode cX12_readGiven 38 = .ok (.invokevirtual 194, 3) := by decide +kernel
theorem dX12_readGiven_41 : decode cX12_readGiven 41 = .ok (.goto 27, 3) := by decide +kernel
theorem dX12_readGiven_44 : decode cX12_readGiven 44 = .ok (.iload_n 3, 1) := by decide +kernel
theorem dX12_readGiven_45 : decode cX12_readGiven 45 = .ok (.iconst (-1), 1) := by decide +kernel
theorem dX12_readGiven_46 : decode cX12_readGiven 46 = .ok (.if_icmp .eq 17, 3) := by decide +kernel
theorem dX12_readGiven_49 : decode cX12_readGiven 49 = .ok (.aload_n 0, 1) := by decide +kernel
theorem dX12_readGiven_50 : decode cX12_readGiven 50 = .ok (.getfield 75, 3) := by decide +kernel
theorem dX12_readGiven_53 : decode cX12_readGiven 53 = .ok (.iload_n 2, 1) := by decide +kernel
theorem dX12_readGiven_54 : decode cX12_readGiven 54 = .ok (.iaload, 1) := by decide +kernel
theorem dX12_readGiven_55 : decode cX12_readGiven 55 = .ok (.iload_n 3, 1) := by decide +kernel
theorem dX12_readGiven_56 : decode cX12_readGiven 56 = .ok (.ishr, 1) := by decide +kernel
theorem dX12_readGiven_57 : decode cX12_readGiven 57 = .ok (.iconst 1, 1) := by decide +kernel
theorem dX12_readGiven_58 : decode cX12_readGiven 58 = .ok (.iand, 1) := by decide +kernel
theorem dX12_readGiven_59 : decode cX12_readGiven 59 = .ok (.iconst 1, 1) := by decide +kernel
theorem dX12_readGiven_60 : decode cX12_readGiven 60 = .ok (.if_icmp .ne 8, 3) := by decide +kernel
theorem dX12_readGiven_63 : decode cX12_readGiven 63 = .ok (.aload_n 0, 1) := by decide +kernel
theorem dX12_readGiven_64 : decode cX12_readGiven 64 = .ok (.iconst 3, 1) := by decide +kernel
theorem dX12_readGiven_65 : decode cX12_readGiven 65 = .ok (.invokevirtual 194, 3) := by decide +kernel
theorem dX12_readGiven_68 : decode cX12_readGiven 68 = .ok (.aload_n 0, 1) := by decide +kernel
theorem dX12_readGiven_69 : decode cX12_readGiven 69 = .ok (.invokevirtual 198, 3) := by decide +kernel
theorem dX12_readGiven_72 : decode cX12_readGiven 72 = .ok (.aload_n 0, 1) := by decide +kernel
theorem dX12_readGiven_73 : decode cX12_readGiven 73 = .ok (.bipush 61, 2) := by decide +kernel
theorem dX12_readGiven_75 : decode cX12_readGiven 75 = .ok (.invokevirtual 271, 3) := by decide +kernel
theorem dX12_readGiven_78 : decode cX12_readGiven 78 = .ok (.aload_n 0, 1) := by decide +kernel
theorem dX12_readGiven_79 : decode cX12_readGiven 79 = .ok (.iconst 0, 1) := by decide +kernel
theorem dX12_readGiven_80 : decode cX12_readGiven 80 = .ok (.iconst 1, 1) := by decide +kernel
theorem dX12_readGiven_81 : decode cX12_readGiven 81 = .ok (.invokevirtual 318, 3) := by decide +kernel
theorem dX12_readGiven_84 : decode cX12_readGiven 84 = .ok (.aload_n 0, 1) := by decide +kernel
theorem dX12_readGiven_85 : decode cX12_readGiven 85 = .ok (.getfield 239, 3) := by decide +kernel
theorem dX12_readGiven_88 : decode cX12_readGiven 88 = .ok (.istore 4, 2) := by decide +kernel
theorem dX12_readGiven_90 : decode cX12_readGiven 90 = .ok (.aload_n 0, 1) := by decide +kernel
theorem dX12_readGiven_91 : decode cX12_readGiven 91 = .ok (.invokevirtual 268, 3) := by decide +kernel
theorem dX12_readGiven_94 : decode cX12_readGiven 94 = .ok (.aload_n 0, 1) := by decide +kernel
theorem dX12_readGiven_95 : decode cX12_readGiven 95 = .ok (.getfield 130, 3) := by decide +kernel
theorem dX12_readGiven_98 : decode cX12_readGiven 98 = .ok (.ifCond .le 4, 3) := by decide +kernel
theorem dX12_readGiven_101 : decode cX12_readGiven 101 = .ok (.return_, 1) := by decide +kernel
theorem dX12_readGiven_102 : decode cX12_readGiven 102 = .ok (.aload_n 0, 1) := by decide +kernel
theorem dX12_readGiven_103 : decode cX12_readGiven 103 = .ok (.getfield 75, 3) := by decide +kernel
theorem dX12_readGiven_106 : decode cX12_readGiven 106 = .ok (.iload_n 2, 1) := by decide +kernel
theorem dX12_readGiven_107 : decode cX12_readGiven 107 = .ok (.dup2, 1) := by decide +kernel
theorem dX12_readGiven_108 : decode cX12_readGiven 108 = .ok (.iaload, 1) := by decide +kernel
theorem dX12_readGiven_109 : decode cX12_readGiven 109 = .ok (.iconst 1, 1) := by decide +kernel
theorem dX12_readGiven_110 : decode cX12_readGiven 110 = .ok (.iload_n 3, 1) := by decide +kernel
theorem dX12_readGiven_111 : decode cX12_readGiven 111 = .ok (.ishl, 1) := by decide +kernel
theorem dX12_readGiven_112 : decode cX12_readGiven 112 = .ok (.ior, 1) := by decide +kernel
theorem dX12_readGiven_113 : decode cX12_readGiven 113 = .ok (.iastore, 1) := by decide +kernel
theorem dX12_readGiven_114 : decode cX12_readGiven 114 = .ok (.aload_n 0, 1) := by decide +kernel
theorem dX12_readGiven_115 : decode cX12_readGiven 115 = .ok (.getfield 78, 3) := by decide +kernel
theorem dX12_readGiven_118 : decode cX12_readGiven 118 = .ok (.iconst 3, 1) := by decide +kernel
theorem dX12_readGiven_119 : decode cX12_readGiven 119 = .ok (.iload_n 2, 1) := by decide +kernel
theorem dX12_readGiven_120 : decode cX12_readGiven 120 = .ok (.imul, 1) := by decide +kernel
theorem dX12_readGiven_121 : decode cX12_readGiven 121 = .ok (.iload_n 3, 1) := by decide +kernel
theorem dX12_readGiven_122 : decode cX12_readGiven 122 = .ok (.iadd, 1) := by decide +kernel
theorem dX12_readGiven_123 : decode cX12_readGiven 123 = .ok (.iload 4, 2) := by decide +kernel
theorem dX12_readGiven_125 : decode cX12_readGiven 125 = .ok (.iastore, 1) := by decide +kernel
theorem dX12_readGiven_126 : decode cX12_readGiven 126 = .ok (.aload_n 0, 1) := by decide +kernel
theorem dX12_readGiven_127 : decode cX12_readGiven 127 = .ok (.getfield 81, 3) := by decide +kernel
theorem dX12_readGiven_130 : decode cX12_readGiven 130 = .ok (.iconst 3, 1) := by decide +kernel
theorem dX12_readGiven_131 : decode cX12_readGiven 131 = .ok (.iload_n 2, 1) := by decide +kernel
theorem dX12_readGiven_132 : decode cX12_readGiven 132 = .ok (.imul, 1) := by decide +kernel
theorem dX12_readGiven_133 : decode cX12_readGiven 133 = .ok (.iload_n 3, 1) := by decide +kernel
theorem dX12_readGiven_134 : decode cX12_readGiven 134 = .ok (.iadd, 1) := by decide +kernel
theorem dX12_readGiven_135 : decode cX12_readGiven 135 = .ok (.aload_n 0, 1) := by decide +kernel
theorem dX12_readGiven_136 : decode cX12_readGiven 136 = .ok (.getfield 239, 3) := by decide +kernel
theorem dX12_readGiven_139 : decode cX12_readGiven 139 = .ok (.iastore, 1) := by decide +kernel
theorem dX12_readGiven_140 : decode cX12_readGiven 140 = .ok (.return_, 1) := by decide +kernel
theorem okX12_readGiven_j68 {E : Ev} {X : Cx} {S : Sh} {Z : Option Nat} {Q : Hp → Prop} {h : Hp} {a0 : Nat} {x2 : Int32} {x3 : Int32} (O : Ok E X yX12_readGiven cX12_readGiven 5 none 72 2787 0 0 (qV S Z Q)) (hw : wX12_readGiven_j68 S (fun i => E.2.2.2.2.1 i + 1) h a0 x2 x3 Q) : G E X 0 0 S Z h 68 [some (vr a0), none, some (vi x2), some (vi x3), none] [] := by
  unfold wX12_readGiven_j68 at hw
  refine g_aload_n O dX12_readGiven_68 rfl ?_
  obtain ⟨c69, hw⟩ := hw
  refine g_callV (As := []) (rest := []) O ci_12 rfl dX12_readGiven_69 ml_X12_198 im_yX12_goOn se_yX12_goOn ini_X12 co_yX12_goOn yo_yX12_goOn c69 rfl rfl (Nat.le_of_ble_eq_true rfl) ⟨by decide, by decide, by decide, by decide⟩ (okX12_goOn hw) (k_V fun h69 hw => ?_)
  refine g_aload_n O dX12_readGiven_72 rfl ?_
  refine g_bipush O dX12_readGiven_73 kb_61 ?_
  refine g_callV (As := [vi (61 : Int32)]) (rest := []) O ci_12 rfl dX12_readGiven_75 ml_X12_271 im_yX12_needsSign se_yX12_needsSign ini_X12 co_yX12_needsSign yo_yX12_needsSign c69 rfl rfl (Nat.le_of_ble_eq_true rfl) ⟨by decide, by decide, by decide, by decide⟩ (okX12_needsSign hw) (k_V fun h75 hw => ?_)
  refine g_aload_n O dX12_readGiven_78 rfl ?_
  refine g_iconst O dX12_readGiven_79 kv_0 ?_
  refine g_iconst O dX12_readGiven_80 kv_1 ?_
  refine g_callV (As := [vi (0 : Int32), vi (1 : Int32)]) (rest := []) O ci_12 rfl dX12_readGiven_81 ml_X12_318 im_yX12_begins se_yX12_begins ini_X12 co_yX12_begins yo_yX12_begins c69 rfl rfl (Nat.le_of_ble_eq_true rfl) ⟨by decide, by decide, by decide, by decide⟩ (okX12_begins hw) (k_V fun h81 hw => ?_)
  refine g_aload_n O dX12_readGiven_84 rfl ?_
  refine gf_X12_steps O dX12_readGiven_85 fl_X12_239 c69 ?_
  refine g_istore (lc' := [some (vr a0), none, some (vi x2), some (vi x3), some (vi (gI h81 a0 41))]) O dX12_readGiven_88 rfl (Nat.le_of_ble_eq_true rfl) rfl ?_
  refine g_aload_n O dX12_readGiven_90 rfl ?_
  refine g_callV (As := []) (rest := []) O ci_12 rfl dX12_readGiven_91 ml_X12_268 im_yX12_readSum se_yX12_readSum ini_X12 co_yX12_readSum yo_yX12_readSum c69 rfl rfl (Nat.le_of_ble_eq_true rfl) ⟨by decide, by decide, by decide, by decide⟩ (okX12_readSum hw) (k_V fun h91 hw => ?_)
  refine g_aload_n O dX12_readGiven_94 rfl ?_
  refine gf_X12_fault O dX12_readGiven_95 fl_X12_130 c69 ?_
  refine g_if_le (tgt := 102) O dX12_readGiven_98 rfl (fun q98 => ?_) (fun q98 => ?_)
  · have hw := hw.1 q98
    refine g_aload_n O dX12_readGiven_102 rfl ?_
    refine gf_X12_givenBits O dX12_readGiven_103 fl_X12_75 c69 ?_
    refine g_iload_n O dX12_readGiven_106 rfl ?_
    refine g_dup2 O dX12_readGiven_107 rfl rfl ?_
    obtain ⟨c108, hw⟩ := hw
    refine g_iaload O dX12_readGiven_108 c108.1 c108.2 ?_
    refine g_iconst O dX12_readGiven_109 kv_1 ?_
    refine g_iload_n O dX12_readGiven_110 rfl ?_
    refine g_ishl O dX12_readGiven_111 ?_
    refine g_ior O dX12_readGiven_112 ?_
    refine g_iastore O dX12_readGiven_113 c108.1 c108.2 ?_
    refine g_nmH (fun h113 e113 => ?_)
    have hw := hw h113 e113
    refine g_aload_n O dX12_readGiven_114 rfl ?_
    refine gf_X12_sumFrom O dX12_readGiven_115 fl_X12_78 c69 ?_
    refine g_iconst O dX12_readGiven_118 kv_3 ?_
    refine g_iload_n O dX12_readGiven_119 rfl ?_
    refine g_imul O dX12_readGiven_120 ?_
    refine g_iload_n O dX12_readGiven_121 rfl ?_
    refine g_iadd O dX12_readGiven_122 ?_
    refine g_iload O dX12_readGiven_123 rfl ?_
    obtain ⟨c125, hw⟩ := hw
    refine g_iastore O dX12_readGiven_125 c125.1 c125.2 ?_
    refine g_nmH (fun h125 e125 => ?_)
    have hw := hw h125 e125
    refine g_aload_n O dX12_readGiven_126 rfl ?_
    refine gf_X12_sumTo O dX12_readGiven_127 fl_X12_81 c69 ?_
    refine g_iconst O dX12_readGiven_130 kv_3 ?_
    refine g_iload_n O dX12_readGiven_131 rfl ?_
    refine g_imul O dX12_readGiven_132 ?_
    refine g_iload_n O dX12_readGiven_133 rfl ?_
    refine g_iadd O dX12_readGiven_134 ?_
    refine g_aload_n O dX12_readGiven_135 rfl ?_
    refine gf_X12_steps O dX12_readGiven_136 fl_X12_239 c69 ?_
    obtain ⟨c139, hw⟩ := hw
    refine g_iastore O dX12_readGiven_139 c139.1 c139.2 ?_
    exact g_return O dX12_readGiven_140 ⟨rfl, rfl, rfl, hw⟩
  · have hw := hw.2 q98
    exact g_return O dX12_readGiven_101 ⟨rfl, rfl, rfl, hw⟩
theorem okX12_readGiven_j63 {E : Ev} {X : Cx} {S : Sh} {Z : Option Nat} {Q : Hp → Prop} {h : Hp} {a0 : Nat} {x2 : Int32} {x3 : Int32} (O : Ok E X yX12_readGiven cX12_readGiven 5 none 72 2787 0 0 (qV S Z Q)) (hw : wX12_readGiven_j63 S (fun i => E.2.2.2.2.1 i + 1) h a0 x2 x3 Q) : G E X 0 0 S Z h 63 [some (vr a0), none, some (vi x2), some (vi x3), none] [] := by
  unfold wX12_readGiven_j63 at hw
  refine g_aload_n O dX12_readGiven_63 rfl ?_
  refine g_iconst O dX12_readGiven_64 kv_3 ?_
  obtain ⟨c65, hw⟩ := hw
  refine g_callV (As := [vi (3 : Int32)]) (rest := []) O ci_12 rfl dX12_readGiven_65 ml_X12_194 im_yX12_flaw se_yX12_flaw ini_X12 co_yX12_flaw yo_yX12_flaw c65 rfl rfl (Nat.le_of_ble_eq_true rfl) ⟨by decide, by decide, by decide, by decide⟩ (okX12_flaw hw) (k_V fun h65 hw => ?_)
  exact okX12_readGiven_j68 O hw
theorem okX12_readGiven_j28 {E : Ev} {X : Cx} {S : Sh} {Z : Option Nat} {Q : Hp → Prop} {h : Hp} {a0 : Nat} {x2 : Int32} {s0 : Int32} (O : Ok E X yX12_readGiven cX12_readGiven 5 none 72 2787 0 0 (qV S Z Q)) (hw : wX12_readGiven_j28 S (fun i => E.2.2.2.2.1 i + 1) h a0 x2 s0 Q) : G E X 0 0 S Z h 28 [some (vr a0), none, some (vi x2), none, none] [vi s0] := by
  unfold wX12_readGiven_j28 at hw
  refine g_istore_n (lc' := [some (vr a0), none, some (vi x2), some (vi s0), none]) O dX12_readGiven_28 rfl (Nat.le_of_ble_eq_true rfl) rfl ?_
  refine g_aload_n O dX12_readGiven_29 rfl ?_
  obtain ⟨c30, hw⟩ := hw
  refine g_callV (As := []) (rest := []) O ci_12 rfl dX12_readGiven_30 ml_X12_245 im_yX12_isName se_yX12_isName ini_X12 co_yX12_isName yo_yX12_isName c30 rfl rfl (Nat.le_of_ble_eq_true rfl) ⟨by decide, by decide, by decide, by decide⟩ (okX12_isName hw) (k_I fun r30 h30 hw => ?_)
  refine g_if_ne (tgt := 44) O dX12_readGiven_33 rfl (fun q33 => ?_) (fun q33 => ?_)
  · have hw := hw.1 q33
    refine g_iload_n O dX12_readGiven_44 rfl ?_
    refine g_iconst O dX12_readGiven_45 kv_m1 ?_
    refine g_icmp_eq (tgt := 63) O dX12_readGiven_46 rfl (fun q46 => ?_) (fun q46 => ?_)
    · have hw := hw.1 q46
      exact okX12_readGiven_j63 O hw
    · have hw := hw.2 q46
      refine g_aload_n O dX12_readGiven_49 rfl ?_
      refine gf_X12_givenBits O dX12_readGiven_50 fl_X12_75 c30 ?_
      refine g_iload_n O dX12_readGiven_53 rfl ?_
      obtain ⟨c54, hw⟩ := hw
      refine g_iaload O dX12_readGiven_54 c54.1 c54.2 ?_
      refine g_iload_n O dX12_readGiven_55 rfl ?_
      refine g_ishr O dX12_readGiven_56 ?_
      refine g_iconst O dX12_readGiven_57 kv_1 ?_
      refine g_iand O dX12_readGiven_58 ?_
      refine g_iconst O dX12_readGiven_59 kv_1 ?_
      refine g_icmp_ne (tgt := 68) O dX12_readGiven_60 rfl (fun q60 => ?_) (fun q60 => ?_)
      · have hw := hw.1 q60
        exact okX12_readGiven_j68 O hw
      · have hw := hw.2 q60
        exact okX12_readGiven_j63 O hw
  · have hw := hw.2 q33
    refine g_aload_n O dX12_readGiven_36 rfl ?_
    refine g_iconst O dX12_readGiven_37 kv_1 ?_
    refine g_callV (As := [vi (1 : Int32)]) (rest := []) O ci_12 rfl dX12_readGiven_38 ml_X12_194 im_yX12_flaw se_yX12_flaw ini_X12 co_yX12_flaw yo_yX12_flaw c30 rfl rfl (Nat.le_of_ble_eq_true rfl) ⟨by decide, by decide, by decide, by decide⟩ (okX12_flaw hw) (k_V fun h38 hw => ?_)
    refine g_goto (tgt := 68) O dX12_readGiven_41 rfl ?_
    exact okX12_readGiven_j68 O hw
theorem okX12_readGiven {E : Ev} {S : Sh} {Z : Option Nat} {Q : Hp → Prop} {h : Hp} {a0 : Nat} {x1 : Int32} {x2 : Int32} (hw : wX12_readGiven S (fun i => E.2.2.2.2.1 i + 1) h a0 x1 x2 Q) : Ct E yX12_readGiven cX12_readGiven 5 none 72 2787 0 0 S Z h [vr a0, vi x1, vi x2] (qV S Z Q) := by
  refine Ct.of (by decide) (lc := [some (vr a0), some (vi x1), some (vi x2), none, none]) (Nat.le_of_ble_eq_true rfl) rfl (fun X O => ?_)
  unfold wX12_readGiven at hw
  refine g_aload_n O dX12_readGiven_0 rfl ?_
  obtain ⟨c1, hw⟩ := hw
  refine gf_X12_fault O dX12_readGiven_1 fl_X12_130 c1 ?_
  refine g_if_le (tgt := 8) O dX12_readGiven_4 rfl (fun q4 => ?_) (fun q4 => ?_)
  · have hw := hw.1 q4
    refine g_aload_n O dX12_readGiven_8 rfl ?_
    refine g_callV (As := []) (rest := []) O ci_12 rfl dX12_readGiven_9 ml_X12_245 im_yX12_isName se_yX12_isName ini_X12 co_yX12_isName yo_yX12_isName c1 rfl rfl (Nat.le_of_ble_eq_true rfl) ⟨by decide, by decide, by decide, by decide⟩ (okX12_isName hw) (k_I fun r9 h9 hw => ?_)
    refine g_if_eq (tgt := 27) O dX12_readGiven_12 rfl (fun q12 => ?_) (fun q12 => ?_)
    · have hw := hw.1 q12
      refine g_iconst O dX12_readGiven_27 kv_m1 ?_
      refine g_mask [true, false, true, false, false] rfl rfl ?_
      exact okX12_readGiven_j28 O hw
    · have hw := hw.2 q12
      refine g_aload_n O dX12_readGiven_15 rfl ?_
      refine g_iload_n O dX12_readGiven_16 rfl ?_
      refine g_aload_n O dX12_readGiven_17 rfl ?_
      refine gf_X12_word O dX12_readGiven_18 fl_X12_156 c1 ?_
      refine g_callV (As := [vi x1, vj (gJ h9 a0 13)]) (rest := []) O ci_12 rfl dX12_readGiven_21 ml_X12_255 im_yX12_varOf se_yX12_varOf ini_X12 co_yX12_varOf yo_yX12_varOf c1 rfl rfl (Nat.le_of_ble_eq_true rfl) ⟨by decide, by decide, by decide, by decide⟩ (okX12_varOf hw) (k_I fun r21 h21 hw => ?_)
      refine g_goto (tgt := 28) O dX12_readGiven_24 rfl ?_
      refine g_mask [true, false, true, false, false] rfl rfl ?_
      exact okX12_readGiven_j28 O hw
  · have hw := hw.2 q4
    exact g_return O dX12_readGiven_7 ⟨rfl, rfl, rfl, hw⟩
theorem dX12_readNew_0 : decode cX12_readNew 0 = .ok (.aload_n 0, 1) := by decide +kernel
theorem dX12_readNew_1 : decode cX12_readNew 1 = .ok (.invokevirtual 245, 3) := by decide +kernel
theorem dX12_readNew_4 : decode cX12_readNew 4 = .ok (.ifCond .ne 11, 3) := by decide +kernel
theorem dX12_readNew_7 : decode cX12_readNew 7 = .ok (.aload_n 0, 1) := by decide +kernel
theorem dX12_readNew_8 : decode cX12_readNew 8 = .ok (.iconst 1, 1) := by decide +kernel
theorem dX12_readNew_9 : decode cX12_readNew 9 = .ok (.invokevirtual 194, 3) := by decide +kernel
theorem dX12_readNew_12 : decode cX12_readNew 12 = .ok (.goto 19, 3) := by decide +kernel
theorem dX12_readNew_15 : decode cX12_readNew 15 = .ok (.aload_n 0, 1) := by decide +kernel
theorem dX12_readNew_16 : decode cX12_readNew 16 = .ok (.aload_n 0, 1) := by decide +kernel
theorem dX12_readNew_17 : decode cX12_readNew 17 = .ok (.getfield 156, 3) := by decide +kernel
theorem dX12_readNew_20 : decode cX12_readNew 20 = .ok (.invokevirtual 302, 3) := by decide +kernel
theorem dX12_readNew_23 : decode cX12_readNew 23 = .ok (.ifCond .eq 8, 3) := by decide +kernel
theorem dX12_readNew_26 : decode cX12_readNew 26 = .ok (.aload_n 0, 1) := by decide +kernel
theorem dX12_readNew_27 : decode cX12_readNew 27 = .ok (.iconst 3, 1) := by decide +kernel
theorem dX12_readNew_28 : decode cX12_readNew 28 = .ok (.invokevirtual 194, 3) := by decide +kernel
theorem dX12_readNew_31 : decode cX12_readNew 31 = .ok (.aload_n 0, 1) := by decide +kernel
theorem dX12_readNew_32 : decode cX12_readNew 32 = .ok (.getfield 156, 3) := by decide +kernel
theorem dX12_readNew_35 : decode cX12_readNew 35 = .ok (.lstore_n 1, 1) := by decide +kernel
theorem dX12_readNew_36 : decode cX12_readNew 36 = .ok (.aload_n 0, 1) := by decide +kernel
theorem dX12_readNew_37 : decode cX12_readNew 37 = .ok (.invokevirtual 198, 3) := by decide +kernel
theorem dX12_readNew_40 : decode cX12_readNew 40 = .ok (.lload_n 1, 1) := by decide +kernel
theorem dX12_readNew_41 : decode cX12_readNew 41 = .ok (.lreturn, 1) := by decide +kernel
theorem okX12_readNew {E : Ev} {S : Sh} {Z : Option Nat} {Q : Int64 → Hp → Prop} {h : Hp} {a0 : Nat} (hw : wX12_readNew S (fun i => E.2.2.2.2.1 i + 1) h a0 Q) : Ct E yX12_readNew cX12_readNew 3 (some .long) 11 366 0 0 S Z h [vr a0] (qJ S Z Q) := by
  refine Ct.of (by decide) (lc := [some (vr a0), none, none]) (Nat.le_of_ble_eq_true rfl) rfl (fun X O => ?_)
  unfold wX12_readNew at hw
  refine g_aload_n O dX12_readNew_0 rfl ?_
  obtain ⟨c1, hw⟩ := hw
  refine g_callV (As := []) (rest := []) O ci_12 rfl dX12_readNew_1 ml_X12_245 im_yX12_isName se_yX12_isName ini_X12 co_yX12_isName yo_yX12_isName c1 rfl rfl (Nat.le_of_ble_eq_true rfl) ⟨by decide, by decide, by decide, by decide⟩ (okX12_isName hw) (k_I fun r1 h1 hw => ?_)
  refine g_if_ne (tgt := 15) O dX12_readNew_4 rfl (fun q4 => ?_) (fun q4 => ?_)
  · have hw := hw.1 q4
    refine g_aload_n O dX12_readNew_15 rfl ?_
    refine g_aload_n O dX12_readNew_16 rfl ?_
    refine gf_X12_word O dX12_readNew_17 fl_X12_156 c1 ?_
    refine g_callV (As := [vj (gJ h1 a0 13)]) (rest := []) O ci_12 rfl dX12_readNew_20 ml_X12_302 im_yX12_isTold se_yX12_isTold ini_X12 co_yX12_isTold yo_yX12_isTold c1 rfl rfl (Nat.le_of_ble_eq_true rfl) ⟨by decide, by decide, by decide, by decide⟩ (okX12_isTold hw) (k_I fun r20 h20 hw => ?_)
    refine g_if_eq (tgt := 31) O dX12_readNew_23 rfl (fun q23 => ?_) (fun q23 => ?_)
    · have hw := hw.1 q23
      refine g_aload_n O dX12_readNew_31 rfl ?_
      refine gf_X12_word O dX12_readNew_32 fl_X12_156 c1 ?_
      refine g_lstore_n (lc' := [some (vr a0), some (vj (gJ h20 a0 13)), none]) O dX12_readNew_35 rfl (Nat.le_of_ble_eq_true rfl) rfl ?_
      refine g_aload_n O dX12_readNew_36 rfl ?_
      refine g_callV (As := []) (rest := []) O ci_12 rfl dX12_readNew_37 ml_X12_198 im_yX12_goOn se_yX12_goOn ini_X12 co_yX12_goOn yo_yX12_goOn c1 rfl rfl (Nat.le_of_ble_eq_true rfl) ⟨by decide, by decide, by decide, by decide⟩ (okX12_goOn hw) (k_V fun h37 hw => ?_)
      refine g_lload_n O dX12_readNew_40 rfl ?_
      exact g_lreturn O dX12_readNew_41 ⟨rfl, rfl, _, rfl, hw⟩
    · have hw := hw.2 q23
      refine g_aload_n O dX12_readNew_26 rfl ?_
      refine g_iconst O dX12_readNew_27 kv_3 ?_
      refine g_callV (As := [vi (3 : Int32)]) (rest := []) O ci_12 rfl dX12_readNew_28 ml_X12_194 im_yX12_flaw se_yX12_flaw ini_X12 co_yX12_flaw yo_yX12_flaw c1 rfl rfl (Nat.le_of_ble_eq_true rfl) ⟨by decide, by decide, by decide, by decide⟩ (okX12_flaw hw) (k_V fun h28 hw => ?_)
      refine g_aload_n O dX12_readNew_31 rfl ?_
      refine gf_X12_word O dX12_readNew_32 fl_X12_156 c1 ?_
      refine g_lstore_n (lc' := [some (vr a0), some (vj (gJ h28 a0 13)), none]) O dX12_readNew_35 rfl (Nat.le_of_ble_eq_true rfl) rfl ?_
      refine g_aload_n O dX12_readNew_36 rfl ?_
      refine g_callV (As := []) (rest := []) O ci_12 rfl dX12_readNew_37 ml_X12_198 im_yX12_goOn se_yX12_goOn ini_X12 co_yX12_goOn yo_yX12_goOn c1 rfl rfl (Nat.le_of_ble_eq_true rfl) ⟨by decide, by decide, by decide, by decide⟩ (okX12_goOn hw) (k_V fun h37 hw => ?_)
      refine g_lload_n O dX12_readNew_40 rfl ?_
      exact g_lreturn O dX12_readNew_41 ⟨rfl, rfl, _, rfl, hw⟩
  · have hw := hw.2 q4
    refine g_aload_n O dX12_readNew_7 rfl ?_
    refine g_iconst O dX12_readNew_8 kv_1 ?_
    refine g_callV (As := [vi (1 : Int32)]) (rest := []) O ci_12 rfl dX12_readNew_9 ml_X12_194 im_yX12_flaw se_yX12_flaw ini_X12 co_yX12_flaw yo_yX12_flaw c1 rfl rfl (Nat.le_of_ble_eq_true rfl) ⟨by decide, by decide, by decide, by decide⟩ (okX12_flaw hw) (k_V fun h9 hw => ?_)
    refine g_goto (tgt := 31) O dX12_readNew_12 rfl ?_
    refine g_aload_n O dX12_readNew_31 rfl ?_
    refine gf_X12_word O dX12_readNew_32 fl_X12_156 c1 ?_
    refine g_lstore_n (lc' := [some (vr a0), some (vj (gJ h9 a0 13)), none]) O dX12_readNew_35 rfl (Nat.le_of_ble_eq_true rfl) rfl ?_
    refine g_aload_n O dX12_readNew_36 rfl ?_
    refine g_callV (As := []) (rest := []) O ci_12 rfl dX12_readNew_37 ml_X12_198 im_yX12_goOn se_yX12_goOn ini_X12 co_yX12_goOn yo_yX12_goOn c1 rfl rfl (Nat.le_of_ble_eq_true rfl) ⟨by decide, by decide, by decide, by decide⟩ (okX12_goOn hw) (k_V fun h37 hw => ?_)
    refine g_lload_n O dX12_readNew_40 rfl ?_
    exact g_lreturn O dX12_readNew_41 ⟨rfl, rfl, _, rfl, hw⟩
theorem dX12_readOf_0 : decode cX12_readOf 0 = .ok (.iconst (-1), 1) := by decide +kernel
theorem dX12_readOf_1 : decode cX12_readOf 1 = .ok (.istore_n 2, 1) := by decide +kernel
theorem dX12_readOf_2 : decode cX12_readOf 2 = .ok (.aload_n 0, 1) := by decide +kernel
theorem dX12_readOf_3 : decode cX12_readOf 3 = .ok (.invokevirtual 245, 3) := by decide +kernel
theorem dX12_readOf_6 : decode cX12_readOf 6 = .ok (.ifCond .ne 11, 3) := by decide +kernel
theorem dX12_readOf_9 : decode cX12_readOf 9 = .ok (.aload_n 0, 1) := by decide +kernel
theorem dX12_readOf_10 : decode cX12_readOf 10 = .ok (.iconst 1, 1) := by decide +kernel
theorem dX12_readOf_11 : decode cX12_readOf 11 = .ok (.invokevirtual 194, 3) := by decide +kernel
theorem dX12_readOf_14 : decode cX12_readOf 14 = .ok (.goto 27, 3) := by decide +kernel
theorem dX12_readOf_17 : decode cX12_readOf 17 = .ok (.aload_n 0, 1) := by decide +kernel
theorem dX12_readOf_18 : decode cX12_readOf 18 = .ok (.getfield 252, 3) := by decide +kernel
theorem dX12_readOf_21 : decode cX12_readOf 21 = .ok (.iconst 1, 1) := by decide +kernel
theorem dX12_readOf_22 : decode cX12_readOf 22 = .ok (.if_icmp .le 17, 3) := by decide +kernel
theorem dX12_readOf_25 : decode cX12_readOf 25 = .ok (.aload_n 0, 1) := by decide +kernel
theorem dX12_readOf_26 : decode cX12_readOf 26 = .ok (.iload_n 1, 1) := by decide +kernel
theorem dX12_readOf_27 : decode cX12_readOf 27 = .ok (.iconst 1, 1) := by decide +kernel
theorem dX12_readOf_28 : decode cX12_readOf 28 = .ok (.isub, 1) := by decide +kernel
theorem dX12_readOf_29 : decode cX12_readOf 29 = .ok (.aload_n 0, 1) := by decide +kernel
theorem dX12_readOf_30 : decode cX12_readOf 30 = .ok (.getfield 156, 3) := by decide +kernel
theorem dX12_readOf_33 : decode cX12_readOf 33 = .ok (.invokevirtual 299, 3) := by decide +kernel
theorem dX12_readOf_36 : decode cX12_readOf 36 = .ok (.goto 4, 3) := by decide +kernel
theorem dX12_readOf_39 : decode cX12_readOf 39 = .ok (.iconst (-1), 1) := by decide +kernel
theorem dX12_readOf_40 : decode cX12_readOf 40 = .ok (.istore_n 2, 1) := by decide +kernel
theorem dX12_readOf_41 : decode cX12_readOf 41 = .ok (.aload_n 0, 1) := by decide +kernel
theorem dX12_readOf_42 : decode cX12_readOf 42 = .ok (.getfield 130, 3) := by decide +kernel
theorem dX12_readOf_45 : decode cX12_readOf 45 = .ok (.ifCond .ne 13, 3) := by decide +kernel
theorem dX12_readOf_48 : decode cX12_readOf 48 = .ok (.iload_n 2, 1) := by decide +kernel
theorem dX12_readOf_49 : decode cX12_readOf 49 = .ok (.iconst (-1), 1) := by decide +kernel
theorem dX12_readOf_50 : decode cX12_readOf 50 = .ok (.if_icmp .ne 8, 3) := by decide +kernel
theorem dX12_readOf_53 : decode cX12_readOf 53 = .ok (.aload_n 0, 1) := by decide +kernel
theorem dX12_readOf_54 : decode cX12_readOf 54 = .ok (.iconst 3, 1) := by decide +kernel
theorem dX12_readOf_55 : decode cX12_readOf 55 = .ok (.invokevirtual 194, 3) := by decide +kernel
theorem dX12_readOf_58 : decode cX12_readOf 58 = .ok (.aload_n 0, 1) := by decide +kernel
theorem dX12_readOf_59 : decode cX12_readOf 59 = .ok (.invokevirtual 198, 3) := by decide +kernel
theorem dX12_readOf_62 : decode cX12_readOf 62 = .ok (.iload_n 2, 1) := by decide +kernel
theorem dX12_readOf_63 : decode cX12_readOf 63 = .ok (.ireturn, 1) := by decide +kernel
theorem okX12_readOf_j41 {E : Ev} {X : Cx} {S : Sh} {Z : Option Nat} {Q : Int32 → Hp → Prop} {h : Hp} {a0 : Nat} {x2 : Int32} (O : Ok E X yX12_readOf cX12_readOf 3 (some .int) 11 366 0 0 (qI S Z Q)) (hw : wX12_readOf_j41 S (fun i => E.2.2.2.2.1 i + 1) h a0 x2 Q) : G E X 0 0 S Z h 41 [some (vr a0), none, some (vi x2)] [] := by
  unfold wX12_readOf_j41 at hw
  refine g_aload_n O dX12_readOf_41 rfl ?_
  obtain ⟨c42, hw⟩ := hw
  refine gf_X12_fault O dX12_readOf_42 fl_X12_130 c42 ?_
  refine g_if_ne (tgt := 58) O dX12_readOf_45 rfl (fun q45 => ?_) (fun q45 => ?_)
  · have hw := hw.1 q45
    refine g_aload_n O dX12_readOf_58 rfl ?_
    refine g_callV (As := []) (rest := []) O ci_12 rfl dX12_readOf_59 ml_X12_198 im_yX12_goOn se_yX12_goOn ini_X12 co_yX12_goOn yo_yX12_goOn c42 rfl rfl (Nat.le_of_ble_eq_true rfl) ⟨by decide, by decide, by decide, by decide⟩ (okX12_goOn hw) (k_V fun h59 hw => ?_)
    refine g_iload_n O dX12_readOf_62 rfl ?_
    exact g_ireturn O dX12_readOf_63 ⟨rfl, rfl, _, rfl, hw⟩
  · have hw := hw.2 q45
    refine g_iload_n O dX12_readOf_48 rfl ?_
    refine g_iconst O dX12_readOf_49 kv_m1 ?_
    refine g_icmp_ne (tgt := 58) O dX12_readOf_50 rfl (fun q50 => ?_) (fun q50 => ?_)
    · have hw := hw.1 q50
      refine g_aload_n O dX12_readOf_58 rfl ?_
      refine g_callV (As := []) (rest := []) O ci_12 rfl dX12_readOf_59 ml_X12_198 im_yX12_goOn se_yX12_goOn ini_X12 co_yX12_goOn yo_yX12_goOn c42 rfl rfl (Nat.le_of_ble_eq_true rfl) ⟨by decide, by decide, by decide, by decide⟩ (okX12_goOn hw) (k_V fun h59 hw => ?_)
      refine g_iload_n O dX12_readOf_62 rfl ?_
      exact g_ireturn O dX12_readOf_63 ⟨rfl, rfl, _, rfl, hw⟩
    · have hw := hw.2 q50
      refine g_aload_n O dX12_readOf_53 rfl ?_
      refine g_iconst O dX12_readOf_54 kv_3 ?_
      refine g_callV (As := [vi (3 : Int32)]) (rest := []) O ci_12 rfl dX12_readOf_55 ml_X12_194 im_yX12_flaw se_yX12_flaw ini_X12 co_yX12_flaw yo_yX12_flaw c42 rfl rfl (Nat.le_of_ble_eq_true rfl) ⟨by decide, by decide, by decide, by decide⟩ (okX12_flaw hw) (k_V fun h55 hw => ?_)
      refine g_aload_n O dX12_readOf_58 rfl ?_
      refine g_callV (As := []) (rest := []) O ci_12 rfl dX12_readOf_59 ml_X12_198 im_yX12_goOn se_yX12_goOn ini_X12 co_yX12_goOn yo_yX12_goOn c42 rfl rfl (Nat.le_of_ble_eq_true rfl) ⟨by decide, by decide, by decide, by decide⟩ (okX12_goOn hw) (k_V fun h59 hw => ?_)
      refine g_iload_n O dX12_readOf_62 rfl ?_
      exact g_ireturn O dX12_readOf_63 ⟨rfl, rfl, _, rfl, hw⟩
theorem okX12_readOf_j40 {E : Ev} {X : Cx} {S : Sh} {Z : Option Nat} {Q : Int32 → Hp → Prop} {h : Hp} {a0 : Nat} {s0 : Int32} (O : Ok E X yX12_readOf cX12_readOf 3 (some .int) 11 366 0 0 (qI S Z Q)) (hw : wX12_readOf_j40 S (fun i => E.2.2.2.2.1 i + 1) h a0 s0 Q) : G E X 0 0 S Z h 40 [some (vr a0), none, none] [vi s0] := by
  unfold wX12_readOf_j40 at hw
  refine g_istore_n (lc' := [some (vr a0), none, some (vi s0)]) O dX12_readOf_40 rfl (Nat.le_of_ble_eq_true rfl) rfl ?_
  exact okX12_readOf_j41 O hw
theorem okX12_readOf {E : Ev} {S : Sh} {Z : Option Nat} {Q : Int32 → Hp → Prop} {h : Hp} {a0 : Nat} {x1 : Int32} (hw : wX12_readOf S (fun i => E.2.2.2.2.1 i + 1) h a0 x1 Q) : Ct E yX12_readOf cX12_readOf 3 (some .int) 11 366 0 0 S Z h [vr a0, vi x1] (qI S Z Q) := by
  refine Ct.of (by decide) (lc := [some (vr a0), some (vi x1), none]) (Nat.le_of_ble_eq_true rfl) rfl (fun X O => ?_)
  unfold wX12_readOf at hw
  refine g_iconst O dX12_readOf_0 kv_m1 ?_
  refine g_istore_n (lc' := [some (vr a0), some (vi x1), some (vi (-1 : Int32))]) O dX12_readOf_1 rfl (Nat.le_of_ble_eq_true rfl) rfl ?_
  refine g_aload_n O dX12_readOf_2 rfl ?_
  obtain ⟨c3, hw⟩ := hw
  refine g_callV (As := []) (rest := []) O ci_12 rfl dX12_readOf_3 ml_X12_245 im_yX12_isName se_yX12_isName ini_X12 co_yX12_isName yo_yX12_isName c3 rfl rfl (Nat.le_of_ble_eq_true rfl) ⟨by decide, by decide, by decide, by decide⟩ (okX12_isName hw) (k_I fun r3 h3 hw => ?_)
  refine g_if_ne (tgt := 17) O dX12_readOf_6 rfl (fun q6 => ?_) (fun q6 => ?_)
  · have hw := hw.1 q6
    refine g_aload_n O dX12_readOf_17 rfl ?_
    refine gf_X12_readMany O dX12_readOf_18 fl_X12_252 c3 ?_
    refine g_iconst O dX12_readOf_21 kv_1 ?_
    refine g_icmp_le (tgt := 39) O dX12_readOf_22 rfl (fun q22 => ?_) (fun q22 => ?_)
    · have hw := hw.1 q22
      refine g_iconst O dX12_readOf_39 kv_m1 ?_
      refine g_mask [true, false, false] rfl rfl ?_
      exact okX12_readOf_j40 O hw
    · have hw := hw.2 q22
      refine g_aload_n O dX12_readOf_25 rfl ?_
      refine g_iload_n O dX12_readOf_26 rfl ?_
      refine g_iconst O dX12_readOf_27 kv_1 ?_
      refine g_isub O dX12_readOf_28 ?_
      refine g_aload_n O dX12_readOf_29 rfl ?_
      refine gf_X12_word O dX12_readOf_30 fl_X12_156 c3 ?_
      refine g_callV (As := [vi ((x1 - (1 : Int32))), vj (gJ h3 a0 13)]) (rest := []) O ci_12 rfl dX12_readOf_33 ml_X12_299 im_yX12_eventIn se_yX12_eventIn ini_X12 co_yX12_eventIn yo_yX12_eventIn c3 rfl rfl (Nat.le_of_ble_eq_true rfl) ⟨by decide, by decide, by decide, by decide⟩ (okX12_eventIn hw) (k_I fun r33 h33 hw => ?_)
      refine g_goto (tgt := 40) O dX12_readOf_36 rfl ?_
      refine g_mask [true, false, false] rfl rfl ?_
      exact okX12_readOf_j40 O hw
  · have hw := hw.2 q6
    refine g_aload_n O dX12_readOf_9 rfl ?_
    refine g_iconst O dX12_readOf_10 kv_1 ?_
    refine g_callV (As := [vi (1 : Int32)]) (rest := []) O ci_12 rfl dX12_readOf_11 ml_X12_194 im_yX12_flaw se_yX12_flaw ini_X12 co_yX12_flaw yo_yX12_flaw c3 rfl rfl (Nat.le_of_ble_eq_true rfl) ⟨by decide, by decide, by decide, by decide⟩ (okX12_flaw hw) (k_V fun h11 hw => ?_)
    refine g_goto (tgt := 41) O dX12_readOf_14 rfl ?_
    refine g_mask [true, false, true] rfl rfl ?_
    exact okX12_readOf_j41 O hw
theorem dX12_readWhole_0 : decode cX12_readWhole 0 = .ok (.aload_n 0, 1) := by decide +kernel
theorem dX12_readWhole_1 : decode cX12_readWhole 1 = .ok (.getfield 149, 3) := by decide +kernel
theorem dX12_readWhole_4 : decode cX12_readWhole 4 = .ok (.iconst 3, 1) := by decide +kernel
theorem dX12_readWhole_5 : decode cX12_readWhole 5 = .ok (.if_icmp .eq 11, 3) := by decide +kernel
theorem dX12_readWhole_8 : decode cX12_readWhole 8 = .ok (.aload_n 0, 1) := by decide +kernel
theorem dX12_readWhole_9 : decode cX12_readWhole 9 = .ok (.iconst 1, 1) := by decide +kernel
theorem dX12_readWhole_10 : decode cX12_readWhole 10 = .ok (.invokevirtual 194, 3) := by decide +kernel
theorem dX12_readWhole_13 : decode cX12_readWhole 13 = .ok (.goto 20, 3) := by decide +kernel
theorem dX12_readWhole_16 : decode cX12_readWhole 16 = .ok (.aload_n 0, 1) := by decide +kernel
theorem dX12_readWhole_17 : decode cX12_readWhole 17 = .ok (.getfield 167, 3) := by decide +kernel
theorem dX12_readWhole_20 : decode cX12_readWhole 20 = .ok (.iload_n 1, 1) := by decide +kernel
theorem dX12_readWhole_21 : decode cX12_readWhole 21 = .ok (.iload_n 2, 1) := by decide +kernel
theorem dX12_readWhole_22 : decode cX12_readWhole 22 = .ok (.invokestatic 142, 3) := by decide +kernel
theorem dX12_readWhole_25 : decode cX12_readWhole 25 = .ok (.ifCond .ne 8, 3) := by decide +kernel
theorem dX12_readWhole_28 : decode cX12_readWhole 28 = .ok (.aload_n 0, 1) := by decide +kernel
theorem dX12_readWhole_29 : decode cX12_readWhole 29 = .ok (.iconst 2, 1) := by decide +kernel
theorem dX12_readWhole_30 : decode cX12_readWhole 30 = .ok (.invokevirtual 194, 3) := by decide +kernel
theorem dX12_readWhole_33 : decode cX12_readWhole 33 = .ok (.aload_n 0, 1) := by decide +kernel
theorem dX12_readWhole_34 : decode cX12_readWhole 34 = .ok (.getfield 167, 3) := by decide +kernel
theorem dX12_readWhole_37 : decode cX12_readWhole 37 = .ok (.istore_n 3, 1) := by decide +kernel
theorem dX12_readWhole_38 : decode cX12_readWhole 38 = .ok (.aload_n 0, 1) := by decide +kernel
theorem dX12_readWhole_39 : decode cX12_readWhole 39 = .ok (.invokevirtual 198, 3) := by decide +kernel
theorem dX12_readWhole_42 : decode cX12_readWhole 42 = .ok (.iload_n 3, 1) := by decide +kernel
theorem dX12_readWhole_43 : decode cX12_readWhole 43 = .ok (.ireturn, 1) := by decide +kernel
theorem okX12_readWhole {E : Ev} {S : Sh} {Z : Option Nat} {Q : Int32 → Hp → Prop} {h : Hp} {a0 : Nat} {x1 : Int32} {x2 : Int32} (hw : wX12_readWhole S h a0 x1 x2 Q) : Ct E yX12_readWhole cX12_readWhole 4 (some .int) 4 87 0 0 S Z h [vr a0, vi x1, vi x2] (qI S Z Q) := by
  refine Ct.of (by decide) (lc := [some (vr a0), some (vi x1), some (vi x2), none]) (Nat.le_of_ble_eq_true rfl) rfl (fun X O => ?_)
  unfold wX12_readWhole at hw
  refine g_aload_n O dX12_readWhole_0 rfl ?_
  obtain ⟨c1, hw⟩ := hw
  refine gf_X12_token O dX12_readWhole_1 fl_X12_149 c1 ?_
  refine g_iconst O dX12_readWhole_4 kv_3 ?_
  refine g_icmp_eq (tgt := 16) O dX12_readWhole_5 rfl (fun q5 => ?_) (fun q5 => ?_)
  · have hw := hw.1 q5
    refine g_aload_n O dX12_readWhole_16 rfl ?_
    refine gf_X12_number O dX12_readWhole_17 fl_X12_167 c1 ?_
    refine g_iload_n O dX12_readWhole_20 rfl ?_
    refine g_iload_n O dX12_readWhole_21 rfl ?_
    refine g_callS (As := [vi (gI h a0 12), vi x1, vi x2]) (rest := []) O dX12_readWhole_22 ml_X12_142 st_yX12_in ini_X12 co_yX12_in yo_yX12_in rfl rfl (Nat.le_of_ble_eq_true rfl) ⟨by decide, by decide, by decide, by decide⟩ (okX12_in hw) (k_I fun r22 h22 hw => ?_)
    refine g_if_ne (tgt := 33) O dX12_readWhole_25 rfl (fun q25 => ?_) (fun q25 => ?_)
    · have hw := hw.1 q25
      refine g_aload_n O dX12_readWhole_33 rfl ?_
      refine gf_X12_number O dX12_readWhole_34 fl_X12_167 c1 ?_
      refine g_istore_n (lc' := [some (vr a0), some (vi x1), some (vi x2), some (vi (gI h22 a0 12))]) O dX12_readWhole_37 rfl (Nat.le_of_ble_eq_true rfl) rfl ?_
      refine g_aload_n O dX12_readWhole_38 rfl ?_
      refine g_callV (As := []) (rest := []) O ci_12 rfl dX12_readWhole_39 ml_X12_198 im_yX12_goOn se_yX12_goOn ini_X12 co_yX12_goOn yo_yX12_goOn c1 rfl rfl (Nat.le_of_ble_eq_true rfl) ⟨by decide, by decide, by decide, by decide⟩ (okX12_goOn hw) (k_V fun h39 hw => ?_)
      refine g_iload_n O dX12_readWhole_42 rfl ?_
      exact g_ireturn O dX12_readWhole_43 ⟨rfl, rfl, _, rfl, hw⟩
    · have hw := hw.2 q25
      refine g_aload_n O dX12_readWhole_28 rfl ?_
      refine g_iconst O dX12_readWhole_29 kv_2 ?_
      refine g_callV (As := [vi (2 : Int32)]) (rest := []) O ci_12 rfl dX12_readWhole_30 ml_X12_194 im_yX12_flaw se_yX12_flaw ini_X12 co_yX12_flaw yo_yX12_flaw c1 rfl rfl (Nat.le_of_ble_eq_true rfl) ⟨by decide, by decide, by decide, by decide⟩ (okX12_flaw hw) (k_V fun h30 hw => ?_)
      refine g_aload_n O dX12_readWhole_33 rfl ?_
      refine gf_X12_number O dX12_readWhole_34 fl_X12_167 c1 ?_
      refine g_istore_n (lc' := [some (vr a0), some (vi x1), some (vi x2), some (vi (gI h30 a0 12))]) O dX12_readWhole_37 rfl (Nat.le_of_ble_eq_true rfl) rfl ?_
      refine g_aload_n O dX12_readWhole_38 rfl ?_
      refine g_callV (As := []) (rest := []) O ci_12 rfl dX12_readWhole_39 ml_X12_198 im_yX12_goOn se_yX12_goOn ini_X12 co_yX12_goOn yo_yX12_goOn c1 rfl rfl (Nat.le_of_ble_eq_true rfl) ⟨by decide, by decide, by decide, by decide⟩ (okX12_goOn hw) (k_V fun h39 hw => ?_)
      refine g_iload_n O dX12_readWhole_42 rfl ?_
      exact g_ireturn O dX12_readWhole_43 ⟨rfl, rfl, _, rfl, hw⟩
  · have hw := hw.2 q5
    refine g_aload_n O dX12_readWhole_8 rfl ?_
    refine g_iconst O dX12_readWhole_9 kv_1 ?_
    refine g_callV (As := [vi (1 : Int32)]) (rest := []) O ci_12 rfl dX12_readWhole_10 ml_X12_194 im_yX12_flaw se_yX12_flaw ini_X12 co_yX12_flaw yo_yX12_flaw c1 rfl rfl (Nat.le_of_ble_eq_true rfl) ⟨by decide, by decide, by decide, by decide⟩ (okX12_flaw hw) (k_V fun h10 hw => ?_)
    refine g_goto (tgt := 33) O dX12_readWhole_13 rfl ?_
    refine g_aload_n O dX12_readWhole_33 rfl ?_
    refine gf_X12_number O dX12_readWhole_34 fl_X12_167 c1 ?_
    refine g_istore_n (lc' := [some (vr a0), some (vi x1), some (vi x2), some (vi (gI h10 a0 12))]) O dX12_readWhole_37 rfl (Nat.le_of_ble_eq_true rfl) rfl ?_
    refine g_aload_n O dX12_readWhole_38 rfl ?_
    refine g_callV (As := []) (rest := []) O ci_12 rfl dX12_readWhole_39 ml_X12_198 im_yX12_goOn se_yX12_goOn ini_X12 co_yX12_goOn yo_yX12_goOn c1 rfl rfl (Nat.le_of_ble_eq_true rfl) ⟨by decide, by decide, by decide, by decide⟩ (okX12_goOn hw) (k_V fun h39 hw => ?_)
    refine g_iload_n O dX12_readWhole_42 rfl ?_
    exact g_ireturn O dX12_readWhole_43 ⟨rfl, rfl, _, rfl, hw⟩
theorem dX12_readEvent_0 : decode cX12_readEvent 0 = .ok (.aload_n 0, 1) := by decide +kernel
theorem dX12_readEvent_1 : decode cX12_readEvent 1 = .ok (.getfield 33, 3) := by decide +kernel
theorem dX12_readEvent_4 : decode cX12_readEvent 4 = .ok (.iload_n 1, 1) := by decide +kernel
theorem dX12_readEvent_5 : decode cX12_readEvent 5 = .ok (.iaload, 1) := by decide +kernel
theorem dX12_readEvent_6 : decode cX12_readEvent 6 = .ok (.iconst 4, 1) := by decide +kernel
theorem dX12_readEvent_7 : decode cX12_readEvent 7 = .ok (.if_icmp .ne 8, 3) := by decide +kernel
theorem dX12_readEvent_10 : decode cX12_readEvent 10 = .ok (.aload_n 0, 1) := by decide +kernel
theorem dX12_readEvent_11 : decode cX12_readEvent 11 = .ok (.iconst 4, 1) := by decide +kernel
theorem dX12_readEvent_12 : decode cX12_readEvent 12 = .ok (.invokevirtual 194, 3) := by decide +kernel
theorem dX12_readEvent_15 : decode cX12_readEvent 15 = .ok (.aload_n 0, 1) := by decide +kernel
theorem dX12_readEvent_16 : decode cX12_readEvent 16 = .ok (.invokevirtual 198, 3) := by decide +kernel
theorem dX12_readEvent_19 : decode cX12_readEvent 19 = .ok (.aload_n 0, 1) := by decide +kernel
theorem dX12_readEvent_20 : decode cX12_readEvent 20 = .ok (.invokevirtual 306, 3) := by decide +kernel
theorem dX12_readEvent_23 : decode cX12_readEvent 23 = .ok (.lstore_n 2, 1) := by decide +kernel
theorem dX12_readEvent_24 : decode cX12_readEvent 24 = .ok (.aload_n 0, 1) := by decide +kernel
theorem dX12_readEvent_25 : decode cX12_readEvent 25 = .ok (.ldc 217, 2) := by decide +kernel
theorem dX12_readEvent_27 : decode cX12_readEvent 27 = .ok (.invokevirtual 293, 3) := by decide +kernel
theorem dX12_readEvent_30 : decode cX12_readEvent 30 = .ok (.ifCond .eq 11, 3) := by decide +kernel
theorem dX12_readEvent_33 : decode cX12_readEvent 33 = .ok (.aload_n 0, 1) := by decide +kernel
theorem dX12_readEvent_34 : decode cX12_readEvent 34 = .ok (.iload_n 1, 1) := by decide +kernel
theorem dX12_readEvent_35 : decode cX12_readEvent 35 = .ok (.invokevirtual 322, 3) := by decide +kernel
theorem dX12_readEvent_38 : decode cX12_readEvent 38 = .ok (.goto 5, 3) := by decide +kernel
theorem dX12_readEvent_41 : decode cX12_readEvent 41 = .ok (.bipush (-2), 2) := by decide +kernel
theorem dX12_readEvent_43 : decode cX12_readEvent 43 = .ok (.istore 4, 2) := by decide +kernel
theorem dX12_readEvent_45 : decode cX12_readEvent 45 = .ok (.iconst 0, 1) := by decide +kernel
theorem dX12_readEvent_46 : decode cX12_readEvent 46 = .ok (.istore 5, 2) := by decide +kernel
theorem dX12_readEvent_48 : decode cX12_readEvent 48 = .ok (.iconst 0, 1) := by decide +kernel
theorem dX12_readEvent_49 : decode cX12_readEvent 49 = .ok (.istore 6, 2) := by decide +kernel
theorem dX12_readEvent_51 : decode cX12_readEvent 51 = .ok (.aload_n 0, 1) := by decide +kernel
theorem dX12_readEvent_52 : decode cX12_readEvent 52 = .ok (.ldc 219, 2) := by decide +kernel
theorem dX12_readEvent_54 : decode cX12_readEvent 54 = .ok (.invokevirtual 293, 3) := by decide +kernel
theorem dX12_readEvent_57 : decode cX12_readEvent 57 = .ok (.ifCond .eq 74, 3) := by decide +kernel
theorem dX12_readEvent_60 : decode cX12_readEvent 60 = .ok (.aload_n 0, 1) := by decide +kernel
theorem dX12_readEvent_61 : decode cX12_readEvent 61 = .ok (.iconst 0, 1) := by decide +kernel
theorem dX12_readEvent_62 : decode cX12_readEvent 62 = .ok (.bipush 99, 2) := by decide +kernel
theorem dX12_readEvent_64 : decode cX12_readEvent 64 = .ok (.invokevirtual 314, 3) := by decide +kernel
theorem dX12_readEvent_67 : decode cX12_readEvent 67 = .ok (.istore 5, 2) := by decide +kernel
theorem dX12_readEvent_69 : decode cX12_readEvent 69 = .ok (.aload_n 0, 1) := by decide +kernel
theorem dX12_readEvent_70 : decode cX12_readEvent 70 = .ok (.ldc 210, 2) := by decide +kernel
theorem dX12_readEvent_72 : decode cX12_readEvent 72 = .ok (.invokevirtual 310, 3) := by decide +kernel
theorem dX12_readEvent_75 : decode cX12_readEvent 75 = .ok (.aload_n 0, 1) := by decide +kernel
theorem dX12_readEvent_76 : decode cX12_readEvent 76 = .ok (.getfield 130, 3) := by decide +kernel
theorem dX12_readEvent_79 : decode cX12_readEvent 79 = .ok (.ifCond .ne 42, 3) := by decide +kernel
theorem dX12_readEvent_82 : decode cX12_readEvent 82 = .ok (.aload_n 0, 1) := by decide +kernel
theorem dX12_readEvent_83 : decode cX12_readEvent 83 = .ok (.getfield 149, 3) := by decide +kernel
theorem dX12_readEvent_86 : decode cX12_readEvent 86 = .ok (.iconst 3, 1) := by decide +kernel
theorem dX12_readEvent_87 : decode cX12_readEvent 87 = .ok (.if_icmp .ne 34, 3) := by decide +kernel
theorem dX12_readEvent_90 : decode cX12_readEvent 90 = .ok (.aload_n 0, 1) := by decide +kernel
theorem dX12_readEvent_91 : decode cX12_readEvent 91 = .ok (.getfield 167, 3) := by decide +kernel
theorem dX12_readEvent_94 : decode cX12_readEvent 94 = .ok (.iload 5, 2) := by decide +kernel
theorem dX12_readEvent_96 : decode cX12_readEvent 96 = .ok (.bipush 99, 2) := by decide +kernel
theorem dX12_readEvent_98 : decode cX12_readEvent 98 = .ok (.invokestatic 142, 3) := by decide +kernel
theorem dX12_readEvent_101 : decode cX12_readEvent 101 = .ok (.ifCond .eq 20, 3) := by decide +kernel
theorem dX12_readEvent_104 : decode cX12_readEvent 104 = .ok (.aload_n 0, 1) := by decide +kernel
theorem dX12_readEvent_105 : decode cX12_readEvent 105 = .ok (.getfield 167, 3) := by decide +kernel
theorem dX12_readEvent_108 : decode cX12_readEvent 108 = .ok (.iload 5, 2) := by decide +kernel
theorem dX12_readEvent_110 : decode cX12_readEvent 110 = .ok (.isub, 1) := by decide +kernel
theorem dX12_readEvent_111 : decode cX12_readEvent 111 = .ok (.bipush 10, 2) := by decide +kernel
theorem dX12_readEvent_113 : decode cX12_readEvent 113 = .ok (.if_icmp .lt 8, 3) := by decide +kernel
theorem dX12_readEvent_116 : decode cX12_readEvent 116 = .ok (.aload_n 0, 1) := by decide +kernel
theorem dX12_readEvent_117 : decode cX12_readEvent 117 = .ok (.iconst 4, 1) := by decide +kernel
theorem dX12_readEvent_118 : decode cX12_readEvent 118 = .ok (.invokevirtual 194, 3) := by decide +kernel
theorem dX12_readEvent_121 : decode cX12_readEvent 121 = .ok (.aload_n 0, 1) := by decide +kernel
theorem dX12_readEvent_122 : decode cX12_readEvent 122 = .ok (.iload 5, 2) := by decide +kernel
theorem dX12_readEvent_124 : decode cX12_readEvent 124 = .ok (.bipush 99, 2) := by decide +kernel
theorem dX12_readEvent_126 : decode cX12_readEvent 126 = .ok (.invokevirtual 314, 3) := by decide +kernel
theorem dX12_readEvent_129 : decode cX12_readEvent 129 = .ok (.istore 6, 2) := by decide +kernel
theorem dX12_readEvent_131 : decode cX12_readEvent 131 = .ok (.iconst 4, 1) := by decide +kernel
theorem dX12_readEvent_132 : decode cX12_readEvent 132 = .ok (.iload_n 1, 1) := by decide +kernel
theorem dX12_readEvent_133 : decode cX12_readEvent 133 = .ok (.imul, 1) := by decide +kernel
theorem dX12_readEvent_134 : decode cX12_readEvent 134 = .ok (.aload_n 0, 1) := by decide +kernel
theorem dX12_readEvent_135 : decode cX12_readEvent 135 = .ok (.getfield 33, 3) := by decide +kernel
theorem dX12_readEvent_138 : decode cX12_readEvent 138 = .ok (.iload_n 1, 1) := by decide +kernel
theorem dX12_readEvent_139 : decode cX12_readEvent 139 = .ok (.iaload, 1) := by decide +kernel
theorem dX12_readEvent_140 : decode cX12_readEvent 140 = .ok (.iadd, 1) := by decide +kernel
theorem dX12_readEvent_141 : decode cX12_readEvent 141 = .ok (.istore 7, 2) := by decide +kernel
theorem dX12_readEvent_143 : decode cX12_readEvent 143 = .ok (.aload_n 0, 1) := by decide +kernel
theorem dX12_readEvent_144 : decode cX12_readEvent 144 = .ok (.ldc 221, 2) := by decide +kernel
theorem dX12_readEvent_146 : decode cX12_readEvent 146 = .ok (.invokevirtual 310, 3) := by decide +kernel
theorem dX12_readEvent_149 : decode cX12_readEvent 149 = .ok (.aload_n 0, 1) := by decide +kernel
theorem dX12_readEvent_150 : decode cX12_readEvent 150 = .ok (.iconst 0, 1) := by decide +kernel
theorem dX12_readEvent_151 : decode cX12_readEvent 151 = .ok (.iconst 1, 1) := by decide +kernel
theorem dX12_readEvent_152 : decode cX12_readEvent 152 = .ok (.invokevirtual 318, 3) := by decide +kernel
theorem dX12_readEvent_155 : decode cX12_readEvent 155 = .ok (.aload_n 0, 1) := by decide +kernel
theorem dX12_readEvent_156 : decode cX12_readEvent 156 = .ok (.getfield 239, 3) := by decide +kernel
theorem dX12_readEvent_159 : decode cX12_readEvent 159 = .ok (.istore 8, 2) := by decide +kernel
theorem dX12_readEvent_161 : decode cX12_readEvent 161 = .ok (.aload_n 0, 1) := by decide +kernel
theorem dX12_readEvent_162 : decode cX12_readEvent 162 = .ok (.invokevirtual 290, 3) := by decide +kernel
theorem dX12_readEvent_165 : decode cX12_readEvent 165 = .ok (.aload_n 0, 1) := by decide +kernel
theorem dX12_readEvent_166 : decode cX12_readEvent 166 = .ok (.getfield 239, 3) := by decide +kernel
theorem dX12_readEvent_169 : decode cX12_readEvent 169 = .ok (.istore 9, 2) := by decide +kernel
theorem dX12_readEvent_171 : decode cX12_readEvent 171 = .ok (.aload_n 0, 1) := by decide +kernel
theorem dX12_readEvent_172 : decode cX12_readEvent 172 = .ok (.ldc 223, 2) := by decide +kernel
theorem dX12_readEvent_174 : decode cX12_readEvent 174 = .ok (.invokevirtual 310, 3) := by decide +kernel
theorem dX12_readEvent_177 : decode cX12_readEvent 177 = .ok (.aload_n 0, 1) := by decide +kernel
theorem dX12_readEvent_178 : decode cX12_readEvent 178 = .ok (.getfield 75, 3) := by decide +kernel
theorem dX12_readEvent_181 : decode cX12_readEvent 181 = .ok (.iload 7, 2) := by decide +kernel
theorem dX12_readEvent_183 : decode cX12_readEvent 183 = .ok (.iconst 0, 1) := by decide +kernel
theorem dX12_readEvent_184 : decode cX12_readEvent 184 = .ok (.iastore, 1) := by decide +kernel
theorem dX12_readEvent_185 : decode cX12_readEvent 185 = .ok (.aload_n 0, 1) := by decide +kernel
theorem dX12_readEvent_186 : decode cX12_readEvent 186 = .ok (.iload_n 1, 1) := by decide +kernel
theorem dX12_readEvent_187 : decode cX12_readEvent 187 = .ok (.iload 7, 2) := by decide +kernel
theorem dX12_readEvent_189 : decode cX12_readEvent 189 = .ok (.invokevirtual 326, 3) := by decide +kernel
theorem dX12_readEvent_192 : decode cX12_readEvent 192 = .ok (.aload_n 0, 1) := by decide +kernel
theorem dX12_readEvent_193 : decode cX12_readEvent 193 = .ok (.bipush 44, 2) := by decide +kernel
theorem dX12_readEvent_195 : decode cX12_readEvent 195 = .ok (.invokevirtual 281, 3) := by decide +kernel
theorem dX12_readEvent_198 : decode cX12_readEvent 198 = .ok (.ifCond .eq 13, 3) := by decide +kernel
theorem dX12_readEvent_201 : decode cX12_readEvent 201 = .ok (.aload_n 0, 1) := by decide +kernel
theorem dX12_readEvent_202 : decode cX12_readEvent 202 = .ok (.iload_n 1, 1) := by decide +kernel
theorem dX12_readEvent_203 : decode cX12_readEvent 203 = .ok (.iload 7, 2) := by decide +kernel
theorem dX12_readEvent_205 : decode cX12_readEvent 205 = .ok (.invokevirtual 326, 3) := by decide +kernel
theorem dX12_readEvent_208 : decode cX12_readEvent 208 = .ok (.goto (-16), 3) := by decide +kernel
theorem dX12_readEvent_211 : decode cX12_readEvent 211 = .ok (.aload_n 0, 1) := by decide +kernel
theorem dX12_readEvent_212 : decode cX12_readEvent 212 = .ok (.getfield 130, 3) := by decide +kernel
theorem dX12_readEvent_215 : decode cX12_readEvent 215 = .ok (.ifCond .le 4, 3) := by decide +kernel
theorem dX12_readEvent_218 : decode cX12_readEvent 218 = .ok (.return_, 1) := by decide +kernel
theorem dX12_readEvent_219 : decode cX12_readEvent 219 = .ok (.aload_n 0, 1) := by decide +kernel
theorem dX12_readEvent_220 : decode cX12_readEvent 220 = .ok (.getfield 24, 3) := by decide +kernel
theorem dX12_readEvent_223 : decode cX12_readEvent 223 = .ok (.iload 7, 2) := by decide +kernel
theorem dX12_readEvent_225 : decode cX12_readEvent 225 = .ok (.lload_n 2, 1) := by decide +kernel
theorem dX12_readEvent_226 : decode cX12_readEvent 226 = .ok (.lastore, 1) := by decide +kernel
theorem dX12_readEvent_227 : decode cX12_readEvent 227 = .ok (.aload_n 0, 1) := by decide +kernel
theorem dX12_readEvent_228 : decode cX12_readEvent 228 = .ok (.getfield 60, 3) := by decide +kernel
theorem dX12_readEvent_231 : decode cX12_readEvent 231 = .ok (.iload 7, 2) := by decide +kernel
theorem dX12_readEvent_233 : decode cX12_readEvent 233 = .ok (.iload 4, 2) := by decide +kernel
theorem dX12_readEvent_235 : decode cX12_readEvent 235 = .ok (.iastore, 1) := by decide +kernel
theorem dX12_readEvent_236 : decode cX12_readEvent 236 = .ok (.aload_n 0, 1) := by decide +kernel
theorem dX12_readEvent_237 : decode cX12_readEvent 237 = .ok (.getfield 63, 3) := by decide +kernel
theorem dX12_readEvent_240 : decode cX12_readEvent 240 = .ok (.iload 7, 2) := by decide +kernel
theorem dX12_readEvent_242 : decode cX12_readEvent 242 = .ok (.iload 5, 2) := by decide +kernel
theorem dX12_readEvent_244 : decode cX12_readEvent 244 = .ok (.iastore, 1) := by decide +kernel
theorem dX12_readEvent_245 : decode cX12_readEvent 245 = .ok (.aload_n 0, 1) := by decide +kernel
theorem dX12_readEvent_246 : decode cX12_readEvent 246 = .ok (.getfield 66, 3) := by decide +kernel
theorem dX12_readEvent_249 : decode cX12_readEvent 249 = .ok (.iload 7, 2) := by decide +kernel
theorem dX12_readEvent_251 : decode cX12_readEvent 251 = .ok (.iload 6, 2) := by decide +kernel
theorem dX12_readEvent_253 : decode cX12_readEvent 253 = .ok (.iastore, 1) := by decide +kernel
theorem dX12_readEvent_254 : decode cX12_readEvent 254 = .ok (.aload_n 0, 1) := by decide +kernel
theorem dX12_readEvent_255 : decode cX12_readEvent 255 = .ok (.getfield 69, 3) := by decide +kernel
theorem dX12_readEvent_258 : decode cX12_readEvent 258 = .ok (.iload 7, 2) := by decide +kernel
theorem dX12_readEvent_260 : decode cX12_readEvent 260 = .ok (.iload 8, 2) := by decide +kernel
theorem dX12_readEvent_262 : decode cX12_readEvent 262 = .ok (.iastore, 1) := by decide +kernel
theorem dX12_readEvent_263 : decode cX12_readEvent 263 = .ok (.aload_n 0, 1) := by decide +kernel
theorem dX12_readEvent_264 : decode cX12_readEvent 264 = .ok (.getfield 72, 3) := by decide +kernel
theorem dX12_readEvent_267 : decode cX12_readEvent 267 = .ok (.iload 7, 2) := by decide +kernel
theorem dX12_readEvent_269 : decode cX12_readEvent 269 = .ok (.iload 9, 2) := by decide +kernel
theorem dX12_readEvent_271 : decode cX12_readEvent 271 = .ok (.iastore, 1) := by decide +kernel
theorem dX12_readEvent_272 : decode cX12_readEvent 272 = .ok (.aload_n 0, 1) := by decide +kernel
theorem dX12_readEvent_273 : decode cX12_readEvent 273 = .ok (.getfield 33, 3) := by decide +kernel
theorem dX12_readEvent_276 : decode cX12_readEvent 276 = .ok (.iload_n 1, 1) := by decide +kernel
theorem dX12_readEvent_277 : decode cX12_readEvent 277 = .ok (.dup2, 1) := by decide +kernel
theorem dX12_readEvent_278 : decode cX12_readEvent 278 = .ok (.iaload, 1) := by decide +kernel
theorem dX12_readEvent_279 : decode cX12_readEvent 279 = .ok (.iconst 1, 1) := by decide +kernel
theorem dX12_readEvent_280 : decode cX12_readEvent 280 = .ok (.iadd, 1) := by decide +kernel
theorem dX12_readEvent_281 : decode cX12_readEvent 281 = .ok (.iastore, 1) := by decide +kernel
theorem dX12_readEvent_282 : decode cX12_readEvent 282 = .ok (.return_, 1) := by decide +kernel
theorem okX12_readEvent_j211 {E : Ev} {X : Cx} {S : Sh} {Z : Option Nat} {Q : Hp → Prop} {h : Hp} {a0 : Nat} {x1 : Int32} {j2 : Int64} {x4 : Int32} {x5 : Int32} {x6 : Int32} {x7 : Int32} {x8 : Int32} {x9 : Int32} (O : Ok E X yX12_readEvent cX12_readEvent 10 none 73 2811 0 0 (qV S Z Q)) (hw : wX12_readEvent_j211 S (fun i => E.2.2.2.2.1 i + 1) h a0 x1 j2 x4 x5 x6 x7 x8 x9 Q) : G E X 0 0 S Z h 211 [some (vr a0), some (vi x1), some (vj j2), none, some (vi x4), some (vi x5), some (vi x6), some (vi x7), some (vi x8), some (vi x9)] [] := by
  unfold wX12_readEvent_j211 at hw
  refine g_aload_n O dX12_readEvent_211 rfl ?_
  obtain ⟨c212, hw⟩ := hw
  refine gf_X12_fault O dX12_readEvent_212 fl_X12_130 c212 ?_
  refine g_if_le (tgt := 219) O dX12_readEvent_215 rfl (fun q215 => ?_) (fun q215 => ?_)
  · have hw := hw.1 q215
    refine g_aload_n O dX12_readEvent_219 rfl ?_
    refine gf_X12_eventName O dX12_readEvent_220 fl_X12_24 c212 ?_
    refine g_iload O dX12_readEvent_223 rfl ?_
    refine g_lload_n O dX12_readEvent_225 rfl ?_
    obtain ⟨c226, hw⟩ := hw
    refine g_lastore O dX12_readEvent_226 c226.1 c226.2 ?_
    refine g_nmH (fun h226 e226 => ?_)
    have hw := hw h226 e226
    refine g_aload_n O dX12_readEvent_227 rfl ?_
    refine gf_X12_eventOf O dX12_readEvent_228 fl_X12_60 c212 ?_
    refine g_iload O dX12_readEvent_231 rfl ?_
    refine g_iload O dX12_readEvent_233 rfl ?_
    obtain ⟨c235, hw⟩ := hw
    refine g_iastore O dX12_readEvent_235 c235.1 c235.2 ?_
    refine g_nmH (fun h235 e235 => ?_)
    have hw := hw h235 e235
    refine g_aload_n O dX12_readEvent_236 rfl ?_
    refine gf_X12_firstPick O dX12_readEvent_237 fl_X12_63 c212 ?_
    refine g_iload O dX12_readEvent_240 rfl ?_
    refine g_iload O dX12_readEvent_242 rfl ?_
    obtain ⟨c244, hw⟩ := hw
    refine g_iastore O dX12_readEvent_244 c244.1 c244.2 ?_
    refine g_nmH (fun h244 e244 => ?_)
    have hw := hw h244 e244
    refine g_aload_n O dX12_readEvent_245 rfl ?_
    refine gf_X12_lastPick O dX12_readEvent_246 fl_X12_66 c212 ?_
    refine g_iload O dX12_readEvent_249 rfl ?_
    refine g_iload O dX12_readEvent_251 rfl ?_
    obtain ⟨c253, hw⟩ := hw
    refine g_iastore O dX12_readEvent_253 c253.1 c253.2 ?_
    refine g_nmH (fun h253 e253 => ?_)
    have hw := hw h253 e253
    refine g_aload_n O dX12_readEvent_254 rfl ?_
    refine gf_X12_guardFrom O dX12_readEvent_255 fl_X12_69 c212 ?_
    refine g_iload O dX12_readEvent_258 rfl ?_
    refine g_iload O dX12_readEvent_260 rfl ?_
    obtain ⟨c262, hw⟩ := hw
    refine g_iastore O dX12_readEvent_262 c262.1 c262.2 ?_
    refine g_nmH (fun h262 e262 => ?_)
    have hw := hw h262 e262
    refine g_aload_n O dX12_readEvent_263 rfl ?_
    refine gf_X12_guardTo O dX12_readEvent_264 fl_X12_72 c212 ?_
    refine g_iload O dX12_readEvent_267 rfl ?_
    refine g_iload O dX12_readEvent_269 rfl ?_
    obtain ⟨c271, hw⟩ := hw
    refine g_iastore O dX12_readEvent_271 c271.1 c271.2 ?_
    refine g_nmH (fun h271 e271 => ?_)
    have hw := hw h271 e271
    refine g_aload_n O dX12_readEvent_272 rfl ?_
    refine gf_X12_eventMany O dX12_readEvent_273 fl_X12_33 c212 ?_
    refine g_iload_n O dX12_readEvent_276 rfl ?_
    refine g_dup2 O dX12_readEvent_277 rfl rfl ?_
    obtain ⟨c278, hw⟩ := hw
    refine g_iaload O dX12_readEvent_278 c278.1 c278.2 ?_
    refine g_iconst O dX12_readEvent_279 kv_1 ?_
    refine g_iadd O dX12_readEvent_280 ?_
    refine g_iastore O dX12_readEvent_281 c278.1 c278.2 ?_
    exact g_return O dX12_readEvent_282 ⟨rfl, rfl, rfl, hw⟩
  · have hw := hw.2 q215
    exact g_return O dX12_readEvent_218 ⟨rfl, rfl, rfl, hw⟩
theorem okX12_readEvent_192 {E : Ev} {X : Cx} {S : Sh} {Z : Option Nat} {Q : Hp → Prop} {a0 : Nat} {x1 : Int32} {j2 : Int64} {x4 : Int32} {x5 : Int32} {x6 : Int32} {x7 : Int32} {x8 : Int32} {x9 : Int32} (O : Ok E X yX12_readEvent cX12_readEvent 10 none 73 2811 0 0 (qV S Z Q)) : ∀ (n : Nat) (h : Hp), wX12_readEvent_192 S (fun i => E.2.2.2.2.1 i + 1) a0 x1 j2 x4 x5 x6 x7 x8 x9 Q n h → G E X 0 0 S Z h 192 [some (vr a0), some (vi x1), some (vj j2), none, some (vi x4), some (vi x5), some (vi x6), some (vi x7), some (vi x8), some (vi x9)] [] := by
  intro n
  induction n with
  | zero => intro h hw; exact hw.elim
  | succ n hB192 =>
    intro h hw
    have hw : wX12_readEvent_192b S (fun i => E.2.2.2.2.1 i + 1) a0 x1 j2 x4 x5 x6 x7 x8 x9 Q (wX12_readEvent_192 S (fun i => E.2.2.2.2.1 i + 1) a0 x1 j2 x4 x5 x6 x7 x8 x9 Q n) h := hw
    unfold wX12_readEvent_192b at hw
    refine g_aload_n O dX12_readEvent_192 rfl ?_
    refine g_bipush O dX12_readEvent_193 kb_44 ?_
    obtain ⟨c195, hw⟩ := hw
    refine g_callV (As := [vi (44 : Int32)]) (rest := []) O ci_12 rfl dX12_readEvent_195 ml_X12_281 im_yX12_passesSign se_yX12_passesSign ini_X12 co_yX12_passesSign yo_yX12_passesSign c195 rfl rfl (Nat.le_of_ble_eq_true rfl) ⟨by decide, by decide, by decide, by decide⟩ (okX12_passesSign hw) (k_I fun r195 h195 hw => ?_)
    refine g_if_eq (tgt := 211) O dX12_readEvent_198 rfl (fun q198 => ?_) (fun q198 => ?_)
    · have hw := hw.1 q198
      exact okX12_readEvent_j211 O hw
    · have hw := hw.2 q198
      refine g_aload_n O dX12_readEvent_201 rfl ?_
      refine g_iload_n O dX12_readEvent_202 rfl ?_
      refine g_iload O dX12_readEvent_203 rfl ?_
      refine g_callV (As := [vi x1, vi x7]) (rest := []) O ci_12 rfl dX12_readEvent_205 ml_X12_326 im_yX12_readGiven se_yX12_readGiven ini_X12 co_yX12_readGiven yo_yX12_readGiven c195 rfl rfl (Nat.le_of_ble_eq_true rfl) ⟨by decide, by decide, by decide, by decide⟩ (okX12_readGiven hw) (k_V fun h205 hw => ?_)
      refine g_goto (tgt := 192) O dX12_readEvent_208 rfl ?_
      exact hB192 _ hw
theorem okX12_readEvent_j131 {E : Ev} {X : Cx} {S : Sh} {Z : Option Nat} {Q : Hp → Prop} {h : Hp} {a0 : Nat} {x1 : Int32} {j2 : Int64} {x4 : Int32} {x5 : Int32} {x6 : Int32} (O : Ok E X yX12_readEvent cX12_readEvent 10 none 73 2811 0 0 (qV S Z Q)) (hw : wX12_readEvent_j131 S (fun i => E.2.2.2.2.1 i + 1) h a0 x1 j2 x4 x5 x6 Q) : G E X 0 0 S Z h 131 [some (vr a0), some (vi x1), some (vj j2), none, some (vi x4), some (vi x5), some (vi x6), none, none, none] [] := by
  unfold wX12_readEvent_j131 at hw
  refine g_iconst O dX12_readEvent_131 kv_4 ?_
  refine g_iload_n O dX12_readEvent_132 rfl ?_
  refine g_imul O dX12_readEvent_133 ?_
  refine g_aload_n O dX12_readEvent_134 rfl ?_
  obtain ⟨c135, hw⟩ := hw
  refine gf_X12_eventMany O dX12_readEvent_135 fl_X12_33 c135 ?_
  refine g_iload_n O dX12_readEvent_138 rfl ?_
  obtain ⟨c139, hw⟩ := hw
  refine g_iaload O dX12_readEvent_139 c139.1 c139.2 ?_
  refine g_iadd O dX12_readEvent_140 ?_
  refine g_nmI (fun xv141 e141 => ?_)
  have hw := hw xv141 e141
  refine g_istore (lc' := [some (vr a0), some (vi x1), some (vj j2), none, some (vi x4), some (vi x5), some (vi x6), some (vi xv141), none, none]) O dX12_readEvent_141 rfl (Nat.le_of_ble_eq_true rfl) rfl ?_
  refine g_aload_n O dX12_readEvent_143 rfl ?_
  refine g_ldcS (i := 11) O dX12_readEvent_144 rfl rfl rfl ?_
  refine g_callV (As := [vr (E.2.2.2.2.1 11 + 1)]) (rest := []) O ci_12 rfl dX12_readEvent_146 ml_X12_310 im_yX12_needs se_yX12_needs ini_X12 co_yX12_needs yo_yX12_needs c135 rfl rfl (Nat.le_of_ble_eq_true rfl) ⟨by decide, by decide, by decide, by decide⟩ (okX12_needs hw) (k_V fun h146 hw => ?_)
  refine g_aload_n O dX12_readEvent_149 rfl ?_
  refine g_iconst O dX12_readEvent_150 kv_0 ?_
  refine g_iconst O dX12_readEvent_151 kv_1 ?_
  refine g_callV (As := [vi (0 : Int32), vi (1 : Int32)]) (rest := []) O ci_12 rfl dX12_readEvent_152 ml_X12_318 im_yX12_begins se_yX12_begins ini_X12 co_yX12_begins yo_yX12_begins c135 rfl rfl (Nat.le_of_ble_eq_true rfl) ⟨by decide, by decide, by decide, by decide⟩ (okX12_begins hw) (k_V fun h152 hw => ?_)
  refine g_aload_n O dX12_readEvent_155 rfl ?_
  refine gf_X12_steps O dX12_readEvent_156 fl_X12_239 c135 ?_
  refine g_istore (lc' := [some (vr a0), some (vi x1), some (vj j2), none, some (vi x4), some (vi x5), some (vi x6), some (vi xv141), some (vi (gI h152 a0 41)), none]) O dX12_readEvent_159 rfl (Nat.le_of_ble_eq_true rfl) rfl ?_
  refine g_aload_n O dX12_readEvent_161 rfl ?_
  refine g_callV (As := []) (rest := []) O ci_12 rfl dX12_readEvent_162 ml_X12_290 im_yX12_readTest se_yX12_readTest ini_X12 co_yX12_readTest yo_yX12_readTest c135 rfl rfl (Nat.le_of_ble_eq_true rfl) ⟨by decide, by decide, by decide, by decide⟩ (okX12_readTest hw) (k_V fun h162 hw => ?_)
  refine g_aload_n O dX12_readEvent_165 rfl ?_
  refine gf_X12_steps O dX12_readEvent_166 fl_X12_239 c135 ?_
  refine g_istore (lc' := [some (vr a0), some (vi x1), some (vj j2), none, some (vi x4), some (vi x5), some (vi x6), some (vi xv141), some (vi (gI h152 a0 41)), some (vi (gI h162 a0 41))]) O dX12_readEvent_169 rfl (Nat.le_of_ble_eq_true rfl) rfl ?_
  refine g_aload_n O dX12_readEvent_171 rfl ?_
  refine g_ldcS (i := 12) O dX12_readEvent_172 rfl rfl rfl ?_
  refine g_callV (As := [vr (E.2.2.2.2.1 12 + 1)]) (rest := []) O ci_12 rfl dX12_readEvent_174 ml_X12_310 im_yX12_needs se_yX12_needs ini_X12 co_yX12_needs yo_yX12_needs c135 rfl rfl (Nat.le_of_ble_eq_true rfl) ⟨by decide, by decide, by decide, by decide⟩ (okX12_needs hw) (k_V fun h174 hw => ?_)
  refine g_aload_n O dX12_readEvent_177 rfl ?_
  refine gf_X12_givenBits O dX12_readEvent_178 fl_X12_75 c135 ?_
  refine g_iload O dX12_readEvent_181 rfl ?_
  refine g_iconst O dX12_readEvent_183 kv_0 ?_
  obtain ⟨c184, hw⟩ := hw
  refine g_iastore O dX12_readEvent_184 c184.1 c184.2 ?_
  refine g_aload_n O dX12_readEvent_185 rfl ?_
  refine g_iload_n O dX12_readEvent_186 rfl ?_
  refine g_iload O dX12_readEvent_187 rfl ?_
  refine g_callV (As := [vi x1, vi xv141]) (rest := []) O ci_12 rfl dX12_readEvent_189 ml_X12_326 im_yX12_readGiven se_yX12_readGiven ini_X12 co_yX12_readGiven yo_yX12_readGiven c135 rfl rfl (Nat.le_of_ble_eq_true rfl) ⟨by decide, by decide, by decide, by decide⟩ (okX12_readGiven hw) (k_V fun h189 hw => ?_)
  obtain ⟨n192, hw⟩ := hw
  exact okX12_readEvent_192 O n192 _ hw
theorem okX12_readEvent_j121 {E : Ev} {X : Cx} {S : Sh} {Z : Option Nat} {Q : Hp → Prop} {h : Hp} {a0 : Nat} {x1 : Int32} {j2 : Int64} {x4 : Int32} {x5 : Int32} (O : Ok E X yX12_readEvent cX12_readEvent 10 none 73 2811 0 0 (qV S Z Q)) (hw : wX12_readEvent_j121 S (fun i => E.2.2.2.2.1 i + 1) h a0 x1 j2 x4 x5 Q) : G E X 0 0 S Z h 121 [some (vr a0), some (vi x1), some (vj j2), none, some (vi x4), some (vi x5), none, none, none, none] [] := by
  unfold wX12_readEvent_j121 at hw
  refine g_aload_n O dX12_readEvent_121 rfl ?_
  refine g_iload O dX12_readEvent_122 rfl ?_
  refine g_bipush O dX12_readEvent_124 kb_99 ?_
  obtain ⟨c126, hw⟩ := hw
  refine g_callV (As := [vi x5, vi (99 : Int32)]) (rest := []) O ci_12 rfl dX12_readEvent_126 ml_X12_314 im_yX12_readWhole se_yX12_readWhole ini_X12 co_yX12_readWhole yo_yX12_readWhole c126 rfl rfl (Nat.le_of_ble_eq_true rfl) ⟨by decide, by decide, by decide, by decide⟩ (okX12_readWhole hw) (k_I fun r126 h126 hw => ?_)
  refine g_istore (lc' := [some (vr a0), some (vi x1), some (vj j2), none, some (vi x4), some (vi x5), some (vi r126), none, none, none]) O dX12_readEvent_129 rfl (Nat.le_of_ble_eq_true rfl) rfl ?_
  exact okX12_readEvent_j131 O hw
theorem okX12_readEvent_j43 {E : Ev} {X : Cx} {S : Sh} {Z : Option Nat} {Q : Hp → Prop} {h : Hp} {a0 : Nat} {x1 : Int32} {j2 : Int64} {s0 : Int32} (O : Ok E X yX12_readEvent cX12_readEvent 10 none 73 2811 0 0 (qV S Z Q)) (hw : wX12_readEvent_j43 S (fun i => E.2.2.2.2.1 i + 1) h a0 x1 j2 s0 Q) : G E X 0 0 S Z h 43 [some (vr a0), some (vi x1), some (vj j2), none, none, none, none, none, none, none] [vi s0] := by
  unfold wX12_readEvent_j43 at hw
  refine g_istore (lc' := [some (vr a0), some (vi x1), some (vj j2), none, some (vi s0), none, none, none, none, none]) O dX12_readEvent_43 rfl (Nat.le_of_ble_eq_true rfl) rfl ?_
  refine g_iconst O dX12_readEvent_45 kv_0 ?_
  refine g_istore (lc' := [some (vr a0), some (vi x1), some (vj j2), none, some (vi s0), some (vi (0 : Int32)), none, none, none, none]) O dX12_readEvent_46 rfl (Nat.le_of_ble_eq_true rfl) rfl ?_
  refine g_iconst O dX12_readEvent_48 kv_0 ?_
  refine g_istore (lc' := [some (vr a0), some (vi x1), some (vj j2), none, some (vi s0), some (vi (0 : Int32)), some (vi (0 : Int32)), none, none, none]) O dX12_readEvent_49 rfl (Nat.le_of_ble_eq_true rfl) rfl ?_
  refine g_aload_n O dX12_readEvent_51 rfl ?_
  refine g_ldcS (i := 10) O dX12_readEvent_52 rfl rfl rfl ?_
  obtain ⟨c54, hw⟩ := hw
  refine g_callV (As := [vr (E.2.2.2.2.1 10 + 1)]) (rest := []) O ci_12 rfl dX12_readEvent_54 ml_X12_293 im_yX12_passes se_yX12_passes ini_X12 co_yX12_passes yo_yX12_passes c54 rfl rfl (Nat.le_of_ble_eq_true rfl) ⟨by decide, by decide, by decide, by decide⟩ (okX12_passes hw) (k_I fun r54 h54 hw => ?_)
  refine g_if_eq (tgt := 131) O dX12_readEvent_57 rfl (fun q57 => ?_) (fun q57 => ?_)
  · have hw := hw.1 q57
    exact okX12_readEvent_j131 O hw
  · have hw := hw.2 q57
    refine g_aload_n O dX12_readEvent_60 rfl ?_
    refine g_iconst O dX12_readEvent_61 kv_0 ?_
    refine g_bipush O dX12_readEvent_62 kb_99 ?_
    refine g_callV (As := [vi (0 : Int32), vi (99 : Int32)]) (rest := []) O ci_12 rfl dX12_readEvent_64 ml_X12_314 im_yX12_readWhole se_yX12_readWhole ini_X12 co_yX12_readWhole yo_yX12_readWhole c54 rfl rfl (Nat.le_of_ble_eq_true rfl) ⟨by decide, by decide, by decide, by decide⟩ (okX12_readWhole hw) (k_I fun r64 h64 hw => ?_)
    refine g_istore (lc' := [some (vr a0), some (vi x1), some (vj j2), none, some (vi s0), some (vi r64), some (vi (0 : Int32)), none, none, none]) O dX12_readEvent_67 rfl (Nat.le_of_ble_eq_true rfl) rfl ?_
    refine g_aload_n O dX12_readEvent_69 rfl ?_
    refine g_ldcS (i := 5) O dX12_readEvent_70 rfl rfl rfl ?_
    refine g_callV (As := [vr (E.2.2.2.2.1 5 + 1)]) (rest := []) O ci_12 rfl dX12_readEvent_72 ml_X12_310 im_yX12_needs se_yX12_needs ini_X12 co_yX12_needs yo_yX12_needs c54 rfl rfl (Nat.le_of_ble_eq_true rfl) ⟨by decide, by decide, by decide, by decide⟩ (okX12_needs hw) (k_V fun h72 hw => ?_)
    refine g_aload_n O dX12_readEvent_75 rfl ?_
    refine gf_X12_fault O dX12_readEvent_76 fl_X12_130 c54 ?_
    refine g_if_ne (tgt := 121) O dX12_readEvent_79 rfl (fun q79 => ?_) (fun q79 => ?_)
    · have hw := hw.1 q79
      refine g_mask [true, true, true, false, true, true, false, false, false, false] rfl rfl ?_
      exact okX12_readEvent_j121 O hw
    · have hw := hw.2 q79
      refine g_aload_n O dX12_readEvent_82 rfl ?_
      refine gf_X12_token O dX12_readEvent_83 fl_X12_149 c54 ?_
      refine g_iconst O dX12_readEvent_86 kv_3 ?_
      refine g_icmp_ne (tgt := 121) O dX12_readEvent_87 rfl (fun q87 => ?_) (fun q87 => ?_)
      · have hw := hw.1 q87
        refine g_mask [true, true, true, false, true, true, false, false, false, false] rfl rfl ?_
        exact okX12_readEvent_j121 O hw
      · have hw := hw.2 q87
        refine g_aload_n O dX12_readEvent_90 rfl ?_
        refine gf_X12_number O dX12_readEvent_91 fl_X12_167 c54 ?_
        refine g_iload O dX12_readEvent_94 rfl ?_
        refine g_bipush O dX12_readEvent_96 kb_99 ?_
        refine g_callS (As := [vi (gI h72 a0 12), vi r64, vi (99 : Int32)]) (rest := []) O dX12_readEvent_98 ml_X12_142 st_yX12_in ini_X12 co_yX12_in yo_yX12_in rfl rfl (Nat.le_of_ble_eq_true rfl) ⟨by decide, by decide, by decide, by decide⟩ (okX12_in hw) (k_I fun r98 h98 hw => ?_)
        refine g_if_eq (tgt := 121) O dX12_readEvent_101 rfl (fun q101 => ?_) (fun q101 => ?_)
        · have hw := hw.1 q101
          refine g_mask [true, true, true, false, true, true, false, false, false, false] rfl rfl ?_
          exact okX12_readEvent_j121 O hw
        · have hw := hw.2 q101
          refine g_aload_n O dX12_readEvent_104 rfl ?_
          refine gf_X12_number O dX12_readEvent_105 fl_X12_167 c54 ?_
          refine g_iload O dX12_readEvent_108 rfl ?_
          refine g_isub O dX12_readEvent_110 ?_
          refine g_bipush O dX12_readEvent_111 kb_10 ?_
          refine g_icmp_lt (tgt := 121) O dX12_readEvent_113 rfl (fun q113 => ?_) (fun q113 => ?_)
          · have hw := hw.1 q113
            refine g_mask [true, true, true, false, true, true, false, false, false, false] rfl rfl ?_
            exact okX12_readEvent_j121 O hw
          · have hw := hw.2 q113
            refine g_aload_n O dX12_readEvent_116 rfl ?_
            refine g_iconst O dX12_readEvent_117 kv_4 ?_
            refine g_callV (As := [vi (4 : Int32)]) (rest := []) O ci_12 rfl dX12_readEvent_118 ml_X12_194 im_yX12_flaw se_yX12_flaw ini_X12 co_yX12_flaw yo_yX12_flaw c54 rfl rfl (Nat.le_of_ble_eq_true rfl) ⟨by decide, by decide, by decide, by decide⟩ (okX12_flaw hw) (k_V fun h118 hw => ?_)
            refine g_mask [true, true, true, false, true, true, false, false, false, false] rfl rfl ?_
            exact okX12_readEvent_j121 O hw
theorem okX12_readEvent_j15 {E : Ev} {X : Cx} {S : Sh} {Z : Option Nat} {Q : Hp → Prop} {h : Hp} {a0 : Nat} {x1 : Int32} (O : Ok E X yX12_readEvent cX12_readEvent 10 none 73 2811 0 0 (qV S Z Q)) (hw : wX12_readEvent_j15 S (fun i => E.2.2.2.2.1 i + 1) h a0 x1 Q) : G E X 0 0 S Z h 15 [some (vr a0), some (vi x1), none, none, none, none, none, none, none, none] [] := by
  unfold wX12_readEvent_j15 at hw
  refine g_aload_n O dX12_readEvent_15 rfl ?_
  obtain ⟨c16, hw⟩ := hw
  refine g_callV (As := []) (rest := []) O ci_12 rfl dX12_readEvent_16 ml_X12_198 im_yX12_goOn se_yX12_goOn ini_X12 co_yX12_goOn yo_yX12_goOn c16 rfl rfl (Nat.le_of_ble_eq_true rfl) ⟨by decide, by decide, by decide, by decide⟩ (okX12_goOn hw) (k_V fun h16 hw => ?_)
  refine g_aload_n O dX12_readEvent_19 rfl ?_
  refine g_callV (As := []) (rest := []) O ci_12 rfl dX12_readEvent_20 ml_X12_306 im_yX12_readNew se_yX12_readNew ini_X12 co_yX12_readNew yo_yX12_readNew c16 rfl rfl (Nat.le_of_ble_eq_true rfl) ⟨by decide, by decide, by decide, by decide⟩ (okX12_readNew hw) (k_J fun r20 h20 hw => ?_)
  refine g_lstore_n (lc' := [some (vr a0), some (vi x1), some (vj r20), none, none, none, none, none, none, none]) O dX12_readEvent_23 rfl (Nat.le_of_ble_eq_true rfl) rfl ?_
  refine g_aload_n O dX12_readEvent_24 rfl ?_
  refine g_ldcS (i := 9) O dX12_readEvent_25 rfl rfl rfl ?_
  refine g_callV (As := [vr (E.2.2.2.2.1 9 + 1)]) (rest := []) O ci_12 rfl dX12_readEvent_27 ml_X12_293 im_yX12_passes se_yX12_passes ini_X12 co_yX12_passes yo_yX12_passes c16 rfl rfl (Nat.le_of_ble_eq_true rfl) ⟨by decide, by decide, by decide, by decide⟩ (okX12_passes hw) (k_I fun r27 h27 hw => ?_)
  refine g_if_eq (tgt := 41) O dX12_readEvent_30 rfl (fun q30 => ?_) (fun q30 => ?_)
  · have hw := hw.1 q30
    refine g_bipush O dX12_readEvent_41 kb_m2 ?_
    exact okX12_readEvent_j43 O hw
  · have hw := hw.2 q30
    refine g_aload_n O dX12_readEvent_33 rfl ?_
    refine g_iload_n O dX12_readEvent_34 rfl ?_
    refine g_callV (As := [vi x1]) (rest := []) O ci_12 rfl dX12_readEvent_35 ml_X12_322 im_yX12_readOf se_yX12_readOf ini_X12 co_yX12_readOf yo_yX12_readOf c16 rfl rfl (Nat.le_of_ble_eq_true rfl) ⟨by decide, by decide, by decide, by decide⟩ (okX12_readOf hw) (k_I fun r35 h35 hw => ?_)
    refine g_goto (tgt := 43) O dX12_readEvent_38 rfl ?_
    exact okX12_readEvent_j43 O hw
theorem okX12_readEvent {E : Ev} {S : Sh} {Z : Option Nat} {Q : Hp → Prop} {h : Hp} {a0 : Nat} {x1 : Int32} (hw : wX12_readEvent S (fun i => E.2.2.2.2.1 i + 1) h a0 x1 Q) : Ct E yX12_readEvent cX12_readEvent 10 none 73 2811 0 0 S Z h [vr a0, vi x1] (qV S Z Q) := by
  refine Ct.of (by decide) (lc := [some (vr a0), some (vi x1), none, none, none, none, none, none, none, none]) (Nat.le_of_ble_eq_true rfl) rfl (fun X O => ?_)
  unfold wX12_readEvent at hw
  refine g_aload_n O dX12_readEvent_0 rfl ?_
  obtain ⟨c1, hw⟩ := hw
  refine gf_X12_eventMany O dX12_readEvent_1 fl_X12_33 c1 ?_
  refine g_iload_n O dX12_readEvent_4 rfl ?_
  obtain ⟨c5, hw⟩ := hw
  refine g_iaload O dX12_readEvent_5 c5.1 c5.2 ?_
  refine g_iconst O dX12_readEvent_6 kv_4 ?_
  refine g_icmp_ne (tgt := 15) O dX12_readEvent_7 rfl (fun q7 => ?_) (fun q7 => ?_)
  · have hw := hw.1 q7
    exact okX12_readEvent_j15 O hw
  · have hw := hw.2 q7
    refine g_aload_n O dX12_readEvent_10 rfl ?_
    refine g_iconst O dX12_readEvent_11 kv_4 ?_
    refine g_callV (As := [vi (4 : Int32)]) (rest := []) O ci_12 rfl dX12_readEvent_12 ml_X12_194 im_yX12_flaw se_yX12_flaw ini_X12 co_yX12_flaw yo_yX12_flaw c1 rfl rfl (Nat.le_of_ble_eq_true rfl) ⟨by decide, by decide, by decide, by decide⟩ (okX12_flaw hw) (k_V fun h12 hw => ?_)
    exact okX12_readEvent_j15 O hw
theorem dX12_readLaw_0 : decode cX12_readLaw 0 = .ok (.aload_n 0, 1) := by decide +kernel
theorem dX12_readLaw_1 : decode cX12_readLaw 1 = .ok (.getfield 30, 3) := by decide +kernel
theorem dX12_readLaw_4 : decode cX12_readLaw 4 = .ok (.iload_n 1, 1) := by decide +kernel
theorem dX12_readLaw_5 : decode cX12_readLaw 5 = .ok (.iaload, 1) := by decide +kernel
theorem dX12_readLaw_6 : decode cX12_readLaw 6 = .ok (.iconst 4, 1) := by decide +kernel
theorem dX12_readLaw_7 : decode cX12_readLaw 7 = .ok (.if_icmp .ne 8, 3) := by decide +kernel
theorem dX12_readLaw_10 : decode cX12_readLaw 10 = .ok (.aload_n 0, 1) := by decide +kernel
theorem dX12_readLaw_11 : decode cX12_readLaw 11 = .ok (.iconst 4, 1) := by decide +kernel
theorem dX12_readLaw_12 : decode cX12_readLaw 12 = .ok (.invokevirtual 194, 3) := by decide +kernel
theorem dX12_readLaw_15 : decode cX12_readLaw 15 = .ok (.aload_n 0, 1) := by decide +kernel
theorem dX12_readLaw_16 : decode cX12_readLaw 16 = .ok (.invokevirtual 198, 3) := by decide +kernel
theorem dX12_readLaw_19 : decode cX12_readLaw 19 = .ok (.aload_n 0, 1) := by decide +kernel
theorem dX12_readLaw_20 : decode cX12_readLaw 20 = .ok (.iconst 1, 1) := by decide +kernel
theorem dX12_readLaw_21 : decode cX12_readLaw 21 = .ok (.iconst 0, 1) := by decide +kernel
theorem dX12_readLaw_22 : decode cX12_readLaw 22 = .ok (.invokevirtual 318, 3) := by decide +kernel
theorem dX12_readLaw_25 : decode cX12_readLaw 25 = .ok (.aload_n 0, 1) := by decide +kernel
theorem dX12_readLaw_26 : decode cX12_readLaw 26 = .ok (.getfield 239, 3) := by decide +kernel
theorem dX12_readLaw_29 : decode cX12_readLaw 29 = .ok (.istore_n 2, 1) := by decide +kernel
theorem dX12_readLaw_30 : decode cX12_readLaw 30 = .ok (.aload_n 0, 1) := by decide +kernel
theorem dX12_readLaw_31 : decode cX12_readLaw 31 = .ok (.invokevirtual 290, 3) := by decide +kernel
theorem dX12_readLaw_34 : decode cX12_readLaw 34 = .ok (.aload_n 0, 1) := by decide +kernel
theorem dX12_readLaw_35 : decode cX12_readLaw 35 = .ok (.getfield 130, 3) := by decide +kernel
theorem dX12_readLaw_38 : decode cX12_readLaw 38 = .ok (.ifCond .le 4, 3) := by decide +kernel
theorem dX12_readLaw_41 : decode cX12_readLaw 41 = .ok (.return_, 1) := by decide +kernel
theorem dX12_readLaw_42 : decode cX12_readLaw 42 = .ok (.aload_n 0, 1) := by decide +kernel
theorem dX12_readLaw_43 : decode cX12_readLaw 43 = .ok (.getfield 54, 3) := by decide +kernel
theorem dX12_readLaw_46 : decode cX12_readLaw 46 = .ok (.iconst 4, 1) := by decide +kernel
theorem dX12_readLaw_47 : decode cX12_readLaw 47 = .ok (.iload_n 1, 1) := by decide +kernel
theorem dX12_readLaw_48 : decode cX12_readLaw 48 = .ok (.imul, 1) := by decide +kernel
theorem dX12_readLaw_49 : decode cX12_readLaw 49 = .ok (.aload_n 0, 1) := by decide +kernel
theorem dX12_readLaw_50 : decode cX12_readLaw 50 = .ok (.getfield 30, 3) := by decide +kernel
theorem dX12_readLaw_53 : decode cX12_readLaw 53 = .ok (.iload_n 1, 1) := by decide +kernel
theorem dX12_readLaw_54 : decode cX12_readLaw 54 = .ok (.iaload, 1) := by decide +kernel
theorem dX12_readLaw_55 : decode cX12_readLaw 55 = .ok (.iadd, 1) := by decide +kernel
theorem dX12_readLaw_56 : decode cX12_readLaw 56 = .ok (.iload_n 2, 1) := by decide +kernel
theorem dX12_readLaw_57 : decode cX12_readLaw 57 = .ok (.iastore, 1) := by decide +kernel
theorem dX12_readLaw_58 : decode cX12_readLaw 58 = .ok (.aload_n 0, 1) := by decide +kernel
theorem dX12_readLaw_59 : decode cX12_readLaw 59 = .ok (.getfield 57, 3) := by decide +kernel
theorem dX12_readLaw_62 : decode cX12_readLaw 62 = .ok (.iconst 4, 1) := by decide +kernel
theorem dX12_readLaw_63 : decode cX12_readLaw 63 = .ok (.iload_n 1, 1) := by decide +kernel
theorem dX12_readLaw_64 : decode cX12_readLaw 64 = .ok (.imul, 1) := by decide +kernel
theorem dX12_readLaw_65 : decode cX12_readLaw 65 = .ok (.aload_n 0, 1) := by decide +kernel
theorem dX12_readLaw_66 : decode cX12_readLaw 66 = .ok (.getfield 30, 3) := by decide +kernel
theorem dX12_readLaw_69 : decode cX12_readLaw 69 = .ok (.iload_n 1, 1) := by decide +kernel
theorem dX12_readLaw_70 : decode cX12_readLaw 70 = .ok (.iaload, 1) := by decide +kernel
theorem dX12_readLaw_71 : decode cX12_readLaw 71 = .ok (.iadd, 1) := by decide +kernel
theorem dX12_readLaw_72 : decode cX12_readLaw 72 = .ok (.aload_n 0, 1) := by decide +kernel
theorem dX12_readLaw_73 : decode cX12_readLaw 73 = .ok (.getfield 239, 3) := by decide +kernel
theorem dX12_readLaw_76 : decode cX12_readLaw 76 = .ok (.iastore, 1) := by decide +kernel
theorem dX12_readLaw_77 : decode cX12_readLaw 77 = .ok (.aload_n 0, 1) := by decide +kernel
theorem dX12_readLaw_78 : decode cX12_readLaw 78 = .ok (.getfield 30, 3) := by decide +kernel
theorem dX12_readLaw_81 : decode cX12_readLaw 81 = .ok (.iload_n 1, 1) := by decide +kernel
theorem dX12_readLaw_82 : decode cX12_readLaw 82 = .ok (.dup2, 1) := by decide +kernel
theorem dX12_readLaw_83 : decode cX12_readLaw 83 = .ok (.iaload, 1) := by decide +kernel
theorem dX12_readLaw_84 : decode cX12_readLaw 84 = .ok (.iconst 1, 1) := by decide +kernel
theorem dX12_readLaw_85 : decode cX12_readLaw 85 = .ok (.iadd, 1) := by decide +kernel
theorem dX12_readLaw_86 : decode cX12_readLaw 86 = .ok (.iastore, 1) := by decide +kernel
theorem dX12_readLaw_87 : decode cX12_readLaw 87 = .ok (.return_, 1) := by decide +kernel
theorem okX12_readLaw_j15 {E : Ev} {X : Cx} {S : Sh} {Z : Option Nat} {Q : Hp → Prop} {h : Hp} {a0 : Nat} {x1 : Int32} (O : Ok E X yX12_readLaw cX12_readLaw 3 none 72 2786 0 0 (qV S Z Q)) (hw : wX12_readLaw_j15 S (fun i => E.2.2.2.2.1 i + 1) h a0 x1 Q) : G E X 0 0 S Z h 15 [some (vr a0), some (vi x1), none] [] := by
  unfold wX12_readLaw_j15 at hw
  refine g_aload_n O dX12_readLaw_15 rfl ?_
  obtain ⟨c16, hw⟩ := hw
  refine g_callV (As := []) (rest := []) O ci_12 rfl dX12_readLaw_16 ml_X12_198 im_yX12_goOn se_yX12_goOn ini_X12 co_yX12_goOn yo_yX12_goOn c16 rfl rfl (Nat.le_of_ble_eq_true rfl) ⟨by decide, by decide, by decide, by decide⟩ (okX12_goOn hw) (k_V fun h16 hw => ?_)
  refine g_aload_n O dX12_readLaw_19 rfl ?_
  refine g_iconst O dX12_readLaw_20 kv_1 ?_
  refine g_iconst O dX12_readLaw_21 kv_0 ?_
  refine g_callV (As := [vi (1 : Int32), vi (0 : Int32)]) (rest := []) O ci_12 rfl dX12_readLaw_22 ml_X12_318 im_yX12_begins se_yX12_begins ini_X12 co_yX12_begins yo_yX12_begins c16 rfl rfl (Nat.le_of_ble_eq_true rfl) ⟨by decide, by decide, by decide, by decide⟩ (okX12_begins hw) (k_V fun h22 hw => ?_)
  refine g_aload_n O dX12_readLaw_25 rfl ?_
  refine gf_X12_steps O dX12_readLaw_26 fl_X12_239 c16 ?_
  refine g_istore_n (lc' := [some (vr a0), some (vi x1), some (vi (gI h22 a0 41))]) O dX12_readLaw_29 rfl (Nat.le_of_ble_eq_true rfl) rfl ?_
  refine g_aload_n O dX12_readLaw_30 rfl ?_
  refine g_callV (As := []) (rest := []) O ci_12 rfl dX12_readLaw_31 ml_X12_290 im_yX12_readTest se_yX12_readTest ini_X12 co_yX12_readTest yo_yX12_readTest c16 rfl rfl (Nat.le_of_ble_eq_true rfl) ⟨by decide, by decide, by decide, by decide⟩ (okX12_readTest hw) (k_V fun h31 hw => ?_)
  refine g_aload_n O dX12_readLaw_34 rfl ?_
  refine gf_X12_fault O dX12_readLaw_35 fl_X12_130 c16 ?_
  refine g_if_le (tgt := 42) O dX12_readLaw_38 rfl (fun q38 => ?_) (fun q38 => ?_)
  · have hw := hw.1 q38
    refine g_aload_n O dX12_readLaw_42 rfl ?_
    refine gf_X12_lawFrom O dX12_readLaw_43 fl_X12_54 c16 ?_
    refine g_iconst O dX12_readLaw_46 kv_4 ?_
    refine g_iload_n O dX12_readLaw_47 rfl ?_
    refine g_imul O dX12_readLaw_48 ?_
    refine g_aload_n O dX12_readLaw_49 rfl ?_
    refine gf_X12_lawMany O dX12_readLaw_50 fl_X12_30 c16 ?_
    refine g_iload_n O dX12_readLaw_53 rfl ?_
    obtain ⟨c54, hw⟩ := hw
    refine g_iaload O dX12_readLaw_54 c54.1 c54.2 ?_
    refine g_iadd O dX12_readLaw_55 ?_
    refine g_iload_n O dX12_readLaw_56 rfl ?_
    obtain ⟨c57, hw⟩ := hw
    refine g_iastore O dX12_readLaw_57 c57.1 c57.2 ?_
    refine g_nmH (fun h57 e57 => ?_)
    have hw := hw h57 e57
    refine g_aload_n O dX12_readLaw_58 rfl ?_
    refine gf_X12_lawTo O dX12_readLaw_59 fl_X12_57 c16 ?_
    refine g_iconst O dX12_readLaw_62 kv_4 ?_
    refine g_iload_n O dX12_readLaw_63 rfl ?_
    refine g_imul O dX12_readLaw_64 ?_
    refine g_aload_n O dX12_readLaw_65 rfl ?_
    refine gf_X12_lawMany O dX12_readLaw_66 fl_X12_30 c16 ?_
    refine g_iload_n O dX12_readLaw_69 rfl ?_
    obtain ⟨c70, hw⟩ := hw
    refine g_iaload O dX12_readLaw_70 c70.1 c70.2 ?_
    refine g_iadd O dX12_readLaw_71 ?_
    refine g_aload_n O dX12_readLaw_72 rfl ?_
    refine gf_X12_steps O dX12_readLaw_73 fl_X12_239 c16 ?_
    obtain ⟨c76, hw⟩ := hw
    refine g_iastore O dX12_readLaw_76 c76.1 c76.2 ?_
    refine g_nmH (fun h76 e76 => ?_)
    have hw := hw h76 e76
    refine g_aload_n O dX12_readLaw_77 rfl ?_
    refine gf_X12_lawMany O dX12_readLaw_78 fl_X12_30 c16 ?_
    refine g_iload_n O dX12_readLaw_81 rfl ?_
    refine g_dup2 O dX12_readLaw_82 rfl rfl ?_
    obtain ⟨c83, hw⟩ := hw
    refine g_iaload O dX12_readLaw_83 c83.1 c83.2 ?_
    refine g_iconst O dX12_readLaw_84 kv_1 ?_
    refine g_iadd O dX12_readLaw_85 ?_
    refine g_iastore O dX12_readLaw_86 c83.1 c83.2 ?_
    exact g_return O dX12_readLaw_87 ⟨rfl, rfl, rfl, hw⟩
  · have hw := hw.2 q38
    exact g_return O dX12_readLaw_41 ⟨rfl, rfl, rfl, hw⟩
theorem okX12_readLaw {E : Ev} {S : Sh} {Z : Option Nat} {Q : Hp → Prop} {h : Hp} {a0 : Nat} {x1 : Int32} (hw : wX12_readLaw S (fun i => E.2.2.2.2.1 i + 1) h a0 x1 Q) : Ct E yX12_readLaw cX12_readLaw 3 none 72 2786 0 0 S Z h [vr a0, vi x1] (qV S Z Q) := by
  refine Ct.of (by decide) (lc := [some (vr a0), some (vi x1), none]) (Nat.le_of_ble_eq_true rfl) rfl (fun X O => ?_)
  unfold wX12_readLaw at hw
  refine g_aload_n O dX12_readLaw_0 rfl ?_
  obtain ⟨c1, hw⟩ := hw
  refine gf_X12_lawMany O dX12_readLaw_1 fl_X12_30 c1 ?_
  refine g_iload_n O dX12_readLaw_4 rfl ?_
  obtain ⟨c5, hw⟩ := hw
  refine g_iaload O dX12_readLaw_5 c5.1 c5.2 ?_
  refine g_iconst O dX12_readLaw_6 kv_4 ?_
  refine g_icmp_ne (tgt := 15) O dX12_readLaw_7 rfl (fun q7 => ?_) (fun q7 => ?_)
  · have hw := hw.1 q7
    exact okX12_readLaw_j15 O hw
  · have hw := hw.2 q7
    refine g_aload_n O dX12_readLaw_10 rfl ?_
    refine g_iconst O dX12_readLaw_11 kv_4 ?_
    refine g_callV (As := [vi (4 : Int32)]) (rest := []) O ci_12 rfl dX12_readLaw_12 ml_X12_194 im_yX12_flaw se_yX12_flaw ini_X12 co_yX12_flaw yo_yX12_flaw c1 rfl rfl (Nat.le_of_ble_eq_true rfl) ⟨by decide, by decide, by decide, by decide⟩ (okX12_flaw hw) (k_V fun h12 hw => ?_)
    exact okX12_readLaw_j15 O hw
theorem dX12_readMachine_0 : decode cX12_readMachine 0 = .ok (.aload_n 0, 1) := by decide +kernel
theorem dX12_readMachine_1 : decode cX12_readMachine 1 = .ok (.getfield 252, 3) := by decide +kernel
theorem dX12_readMachine_4 : decode cX12_readMachine 4 = .ok (.iconst 3, 1) := by decide +kernel
theorem dX12_readMachine_5 : decode cX12_readMachine 5 = .ok (.if_icmp .ne 8, 3) := by decide +kernel
theorem dX12_readMachine_8 : decode cX12_readMachine 8 = .ok (.aload_n 0, 1) := by decide +kernel
theorem dX12_readMachine_9 : decode cX12_readMachine 9 = .ok (.iconst 4, 1) := by decide +kernel
theorem dX12_readMachine_10 : decode cX12_readMachine 10 = .ok (.invokevirtual 194, 3) := by decide +kernel
theorem dX12_readMachine_13 : decode cX12_readMachine 13 = .ok (.aload_n 0, 1) := by decide +kernel
theorem dX12_readMachine_14 : decode cX12_readMachine 14 = .ok (.getfield 252, 3) := by decide +kernel
theorem dX12_readMachine_17 : decode cX12_readMachine 17 = .ok (.ifCond .le 24, 3) := by decide +kernel
theorem dX12_readMachine_20 : decode cX12_readMachine 20 = .ok (.aload_n 0, 1) := by decide +kernel
theorem dX12_readMachine_21 : decode cX12_readMachine 21 = .ok (.getfield 27, 3) := by decide +kernel
theorem dX12_readMachine_24 : decode cX12_readMachine 24 = .ok (.iconst 3, 1) := by decide +kernel
theorem dX12_readMachine_25 : decode cX12_readMachine 25 = .ok (.aload_n 0, 1) := by decide +kernel
theorem dX12_readMachine_26 : decode cX12_readMachine 26 = .ok (.getfield 252, 3) := by decide +kernel
theorem dX12_readMachine_29 : decode cX12_readMachine 29 = .ok (.iadd, 1) := by decide +kernel
theorem dX12_readMachine_30 : decode cX12_readMachine 30 = .ok (.iconst 1, 1) := by decide +kernel
theorem dX12_readMachine_31 : decode cX12_readMachine 31 = .ok (.isub, 1) := by decide +kernel
theorem dX12_readMachine_32 : decode cX12_readMachine 32 = .ok (.iaload, 1) := by decide +kernel
theorem dX12_readMachine_33 : decode cX12_readMachine 33 = .ok (.ifCond .ne 8, 3) := by decide +kernel
theorem dX12_readMachine_36 : decode cX12_readMachine 36 = .ok (.aload_n 0, 1) := by decide +kernel
theorem dX12_readMachine_37 : decode cX12_readMachine 37 = .ok (.iconst 5, 1) := by decide +kernel
theorem dX12_readMachine_38 : decode cX12_readMachine 38 = .ok (.invokevirtual 194, 3) := by decide +kernel
theorem dX12_readMachine_41 : decode cX12_readMachine 41 = .ok (.aload_n 0, 1) := by decide +kernel
theorem dX12_readMachine_42 : decode cX12_readMachine 42 = .ok (.invokevirtual 198, 3) := by decide +kernel
theorem dX12_readMachine_45 : decode cX12_readMachine 45 = .ok (.aload_n 0, 1) := by decide +kernel
theorem dX12_readMachine_46 : decode cX12_readMachine 46 = .ok (.invokevirtual 306, 3) := by decide +kernel
theorem dX12_readMachine_49 : decode cX12_readMachine 49 = .ok (.lstore_n 1, 1) := by decide +kernel
theorem dX12_readMachine_50 : decode cX12_readMachine 50 = .ok (.aload_n 0, 1) := by decide +kernel
theorem dX12_readMachine_51 : decode cX12_readMachine 51 = .ok (.getfield 130, 3) := by decide +kernel
theorem dX12_readMachine_54 : decode cX12_readMachine 54 = .ok (.ifCond .le 4, 3) := by decide +kernel
theorem dX12_readMachine_57 : decode cX12_readMachine 57 = .ok (.return_, 1) := by decide +kernel
theorem dX12_readMachine_58 : decode cX12_readMachine 58 = .ok (.iconst 3, 1) := by decide +kernel
theorem dX12_readMachine_59 : decode cX12_readMachine 59 = .ok (.aload_n 0, 1) := by decide +kernel
theorem dX12_readMachine_60 : decode cX12_readMachine 60 = .ok (.getfield 252, 3) := by decide +kernel
theorem dX12_readMachine_63 : decode cX12_readMachine 63 = .ok (.iadd, 1) := by decide +kernel
theorem dX12_readMachine_64 : decode cX12_readMachine 64 = .ok (.istore_n 3, 1) := by decide +kernel
theorem dX12_readMachine_65 : decode cX12_readMachine 65 = .ok (.aload_n 0, 1) := by decide +kernel
theorem dX12_readMachine_66 : decode cX12_readMachine 66 = .ok (.getfield 17, 3) := by decide +kernel
theorem dX12_readMachine_69 : decode cX12_readMachine 69 = .ok (.iload_n 3, 1) := by decide +kernel
theorem dX12_readMachine_70 : decode cX12_readMachine 70 = .ok (.lload_n 1, 1) := by decide +kernel
theorem dX12_readMachine_71 : decode cX12_readMachine 71 = .ok (.lastore, 1) := by decide +kernel
theorem dX12_readMachine_72 : decode cX12_readMachine 72 = .ok (.aload_n 0, 1) := by decide +kernel
theorem dX12_readMachine_73 : decode cX12_readMachine 73 = .ok (.getfield 27, 3) := by decide +kernel
theorem dX12_readMachine_76 : decode cX12_readMachine 76 = .ok (.iload_n 3, 1) := by decide +kernel
theorem dX12_readMachine_77 : decode cX12_readMachine 77 = .ok (.iconst 0, 1) := by decide +kernel
theorem dX12_readMachine_78 : decode cX12_readMachine 78 = .ok (.iastore, 1) := by decide +kernel
theorem dX12_readMachine_79 : decode cX12_readMachine 79 = .ok (.aload_n 0, 1) := by decide +kernel
theorem dX12_readMachine_80 : decode cX12_readMachine 80 = .ok (.getfield 30, 3) := by decide +kernel
theorem dX12_readMachine_83 : decode cX12_readMachine 83 = .ok (.iload_n 3, 1) := by decide +kernel
theorem dX12_readMachine_84 : decode cX12_readMachine 84 = .ok (.iconst 0, 1) := by decide +kernel
theorem dX12_readMachine_85 : decode cX12_readMachine 85 = .ok (.iastore, 1) := by decide +kernel
theorem dX12_readMachine_86 : decode cX12_readMachine 86 = .ok (.aload_n 0, 1) := by decide +kernel
theorem dX12_readMachine_87 : decode cX12_readMachine 87 = .ok (.getfield 33, 3) := by decide +kernel
theorem dX12_readMachine_90 : decode cX12_readMachine 90 = .ok (.iload_n 3, 1) := by decide +kernel
theorem dX12_readMachine_91 : decode cX12_readMachine 91 = .ok (.iconst 0, 1) := by decide +kernel
theorem dX12_readMachine_92 : decode cX12_readMachine 92 = .ok (.iastore, 1) := by decide +kernel
theorem dX12_readMachine_93 : decode cX12_readMachine 93 = .ok (.aload_n 0, 1) := by decide +kernel
theorem dX12_readMachine_94 : decode cX12_readMachine 94 = .ok (.getfield 36, 3) := by decide +kernel
theorem dX12_readMachine_97 : decode cX12_readMachine 97 = .ok (.iload_n 3, 1) := by decide +kernel
theorem dX12_readMachine_98 : decode cX12_readMachine 98 = .ok (.iconst 1, 1) := by decide +kernel
theorem dX12_readMachine_99 : decode cX12_readMachine 99 = .ok (.iastore, 1) := by decide +kernel
theorem dX12_readMachine_100 : decode cX12_readMachine 100 = .ok (.aload_n 0, 1) := by decide +kernel
theorem dX12_readMachine_101 : decode cX12_readMachine 101 = .ok (.getfield 39, 3) := by decide +kernel
theorem dX12_readMachine_104 : decode cX12_readMachine 104 = .ok (.iload_n 3, 1) := by decide +kernel
theorem dX12_readMachine_105 : decode cX12_readMachine 105 = .ok (.iconst (-1), 1) := by decide +kernel
theorem dX12_readMachine_106 : decode cX12_readMachine 106 = .ok (.iastore, 1) := by decide +kernel
theorem dX12_readMachine_107 : decode cX12_readMachine 107 = .ok (.aload_n 0, 1) := by decide +kernel
theorem dX12_readMachine_108 : decode cX12_readMachine 108 = .ok (.dup, 1) := by decide +kernel
theorem dX12_readMachine_109 : decode cX12_readMachine 109 = .ok (.getfield 252, 3) := by decide +kernel
theorem dX12_readMachine_112 : decode cX12_readMachine 112 = .ok (.iconst 1, 1) := by decide +kernel
theorem dX12_readMachine_113 : decode cX12_readMachine 113 = .ok (.iadd, 1) := by decide +kernel
theorem dX12_readMachine_114 : decode cX12_readMachine 114 = .ok (.putfield 252, 3) := by decide +kernel
theorem dX12_readMachine_117 : decode cX12_readMachine 117 = .ok (.return_, 1) := by decide +kernel
theorem okX12_readMachine_j41 {E : Ev} {X : Cx} {S : Sh} {Z : Option Nat} {Q : Hp → Prop} {h : Hp} {a0 : Nat} (O : Ok E X yX12_readMachine cX12_readMachine 4 none 12 388 0 0 (qV S Z Q)) (hw : wX12_readMachine_j41 S (fun i => E.2.2.2.2.1 i + 1) h a0 Q) : G E X 0 0 S Z h 41 [some (vr a0), none, none, none] [] := by
  unfold wX12_readMachine_j41 at hw
  refine g_aload_n O dX12_readMachine_41 rfl ?_
  obtain ⟨c42, hw⟩ := hw
  refine g_callV (As := []) (rest := []) O ci_12 rfl dX12_readMachine_42 ml_X12_198 im_yX12_goOn se_yX12_goOn ini_X12 co_yX12_goOn yo_yX12_goOn c42 rfl rfl (Nat.le_of_ble_eq_true rfl) ⟨by decide, by decide, by decide, by decide⟩ (okX12_goOn hw) (k_V fun h42 hw => ?_)
  refine g_aload_n O dX12_readMachine_45 rfl ?_
  refine g_callV (As := []) (rest := []) O ci_12 rfl dX12_readMachine_46 ml_X12_306 im_yX12_readNew se_yX12_readNew ini_X12 co_yX12_readNew yo_yX12_readNew c42 rfl rfl (Nat.le_of_ble_eq_true rfl) ⟨by decide, by decide, by decide, by decide⟩ (okX12_readNew hw) (k_J fun r46 h46 hw => ?_)
  refine g_lstore_n (lc' := [some (vr a0), some (vj r46), none, none]) O dX12_readMachine_49 rfl (Nat.le_of_ble_eq_true rfl) rfl ?_
  refine g_aload_n O dX12_readMachine_50 rfl ?_
  refine gf_X12_fault O dX12_readMachine_51 fl_X12_130 c42 ?_
  refine g_if_le (tgt := 58) O dX12_readMachine_54 rfl (fun q54 => ?_) (fun q54 => ?_)
  · have hw := hw.1 q54
    refine g_iconst O dX12_readMachine_58 kv_3 ?_
    refine g_aload_n O dX12_readMachine_59 rfl ?_
    refine gf_X12_readMany O dX12_readMachine_60 fl_X12_252 c42 ?_
    refine g_iadd O dX12_readMachine_63 ?_
    refine g_nmI (fun xv64 e64 => ?_)
    have hw := hw xv64 e64
    refine g_istore_n (lc' := [some (vr a0), some (vj r46), none, some (vi xv64)]) O dX12_readMachine_64 rfl (Nat.le_of_ble_eq_true rfl) rfl ?_
    refine g_aload_n O dX12_readMachine_65 rfl ?_
    refine gf_X12_machineName O dX12_readMachine_66 fl_X12_17 c42 ?_
    refine g_iload_n O dX12_readMachine_69 rfl ?_
    refine g_lload_n O dX12_readMachine_70 rfl ?_
    obtain ⟨c71, hw⟩ := hw
    refine g_lastore O dX12_readMachine_71 c71.1 c71.2 ?_
    refine g_nmH (fun h71 e71 => ?_)
    have hw := hw h71 e71
    refine g_aload_n O dX12_readMachine_72 rfl ?_
    refine gf_X12_varMany O dX12_readMachine_73 fl_X12_27 c42 ?_
    refine g_iload_n O dX12_readMachine_76 rfl ?_
    refine g_iconst O dX12_readMachine_77 kv_0 ?_
    obtain ⟨c78, hw⟩ := hw
    refine g_iastore O dX12_readMachine_78 c78.1 c78.2 ?_
    refine g_nmH (fun h78 e78 => ?_)
    have hw := hw h78 e78
    refine g_aload_n O dX12_readMachine_79 rfl ?_
    refine gf_X12_lawMany O dX12_readMachine_80 fl_X12_30 c42 ?_
    refine g_iload_n O dX12_readMachine_83 rfl ?_
    refine g_iconst O dX12_readMachine_84 kv_0 ?_
    obtain ⟨c85, hw⟩ := hw
    refine g_iastore O dX12_readMachine_85 c85.1 c85.2 ?_
    refine g_nmH (fun h85 e85 => ?_)
    have hw := hw h85 e85
    refine g_aload_n O dX12_readMachine_86 rfl ?_
    refine gf_X12_eventMany O dX12_readMachine_87 fl_X12_33 c42 ?_
    refine g_iload_n O dX12_readMachine_90 rfl ?_
    refine g_iconst O dX12_readMachine_91 kv_0 ?_
    obtain ⟨c92, hw⟩ := hw
    refine g_iastore O dX12_readMachine_92 c92.1 c92.2 ?_
    refine g_nmH (fun h92 e92 => ?_)
    have hw := hw h92 e92
    refine g_aload_n O dX12_readMachine_93 rfl ?_
    refine gf_X12_sizes O dX12_readMachine_94 fl_X12_36 c42 ?_
    refine g_iload_n O dX12_readMachine_97 rfl ?_
    refine g_iconst O dX12_readMachine_98 kv_1 ?_
    obtain ⟨c99, hw⟩ := hw
    refine g_iastore O dX12_readMachine_99 c99.1 c99.2 ?_
    refine g_nmH (fun h99 e99 => ?_)
    have hw := hw h99 e99
    refine g_aload_n O dX12_readMachine_100 rfl ?_
    refine gf_X12_variantFrom O dX12_readMachine_101 fl_X12_39 c42 ?_
    refine g_iload_n O dX12_readMachine_104 rfl ?_
    refine g_iconst O dX12_readMachine_105 kv_m1 ?_
    obtain ⟨c106, hw⟩ := hw
    refine g_iastore O dX12_readMachine_106 c106.1 c106.2 ?_
    refine g_nmH (fun h106 e106 => ?_)
    have hw := hw h106 e106
    refine g_aload_n O dX12_readMachine_107 rfl ?_
    refine g_dup O dX12_readMachine_108 rfl ?_
    refine gf_X12_readMany O dX12_readMachine_109 fl_X12_252 c42 ?_
    refine g_iconst O dX12_readMachine_112 kv_1 ?_
    refine g_iadd O dX12_readMachine_113 ?_
    refine pf_X12_readMany O dX12_readMachine_114 fl_X12_252 c42 ?_
    exact g_return O dX12_readMachine_117 ⟨rfl, rfl, rfl, hw⟩
  · have hw := hw.2 q54
    exact g_return O dX12_readMachine_57 ⟨rfl, rfl, rfl, hw⟩
theorem okX12_readMachine_j13 {E : Ev} {X : Cx} {S : Sh} {Z : Option Nat} {Q : Hp → Prop} {h : Hp} {a0 : Nat} (O : Ok E X yX12_readMachine cX12_readMachine 4 none 12 388 0 0 (qV S Z Q)) (hw : wX12_readMachine_j13 S (fun i => E.2.2.2.2.1 i + 1) h a0 Q) : G E X 0 0 S Z h 13 [some (vr a0), none, none, none] [] := by
  unfold wX12_readMachine_j13 at hw
  refine g_aload_n O dX12_readMachine_13 rfl ?_
  obtain ⟨c14, hw⟩ := hw
  refine gf_X12_readMany O dX12_readMachine_14 fl_X12_252 c14 ?_
  refine g_if_le (tgt := 41) O dX12_readMachine_17 rfl (fun q17 => ?_) (fun q17 => ?_)
  · have hw := hw.1 q17
    exact okX12_readMachine_j41 O hw
  · have hw := hw.2 q17
    refine g_aload_n O dX12_readMachine_20 rfl ?_
    refine gf_X12_varMany O dX12_readMachine_21 fl_X12_27 c14 ?_
    refine g_iconst O dX12_readMachine_24 kv_3 ?_
    refine g_aload_n O dX12_readMachine_25 rfl ?_
    refine gf_X12_readMany O dX12_readMachine_26 fl_X12_252 c14 ?_
    refine g_iadd O dX12_readMachine_29 ?_
    refine g_iconst O dX12_readMachine_30 kv_1 ?_
    refine g_isub O dX12_readMachine_31 ?_
    obtain ⟨c32, hw⟩ := hw
    refine g_iaload O dX12_readMachine_32 c32.1 c32.2 ?_
    refine g_if_ne (tgt := 41) O dX12_readMachine_33 rfl (fun q33 => ?_) (fun q33 => ?_)
    · have hw := hw.1 q33
      exact okX12_readMachine_j41 O hw
    · have hw := hw.2 q33
      refine g_aload_n O dX12_readMachine_36 rfl ?_
      refine g_iconst O dX12_readMachine_37 kv_5 ?_
      refine g_callV (As := [vi (5 : Int32)]) (rest := []) O ci_12 rfl dX12_readMachine_38 ml_X12_194 im_yX12_flaw se_yX12_flaw ini_X12 co_yX12_flaw yo_yX12_flaw c14 rfl rfl (Nat.le_of_ble_eq_true rfl) ⟨by decide, by decide, by decide, by decide⟩ (okX12_flaw hw) (k_V fun h38 hw => ?_)
      exact okX12_readMachine_j41 O hw
theorem okX12_readMachine {E : Ev} {S : Sh} {Z : Option Nat} {Q : Hp → Prop} {h : Hp} {a0 : Nat} (hw : wX12_readMachine S (fun i => E.2.2.2.2.1 i + 1) h a0 Q) : Ct E yX12_readMachine cX12_readMachine 4 none 12 388 0 0 S Z h [vr a0] (qV S Z Q) := by
  refine Ct.of (by decide) (lc := [some (vr a0), none, none, none]) (Nat.le_of_ble_eq_true rfl) rfl (fun X O => ?_)
  unfold wX12_readMachine at hw
  refine g_aload_n O dX12_readMachine_0 rfl ?_
  obtain ⟨c1, hw⟩ := hw
  refine gf_X12_readMany O dX12_readMachine_1 fl_X12_252 c1 ?_
  refine g_iconst O dX12_readMachine_4 kv_3 ?_
  refine g_icmp_ne (tgt := 13) O dX12_readMachine_5 rfl (fun q5 => ?_) (fun q5 => ?_)
  · have hw := hw.1 q5
    exact okX12_readMachine_j13 O hw
  · have hw := hw.2 q5
    refine g_aload_n O dX12_readMachine_8 rfl ?_
    refine g_iconst O dX12_readMachine_9 kv_4 ?_
    refine g_callV (As := [vi (4 : Int32)]) (rest := []) O ci_12 rfl dX12_readMachine_10 ml_X12_194 im_yX12_flaw se_yX12_flaw ini_X12 co_yX12_flaw yo_yX12_flaw c1 rfl rfl (Nat.le_of_ble_eq_true rfl) ⟨by decide, by decide, by decide, by decide⟩ (okX12_flaw hw) (k_V fun h10 hw => ?_)
    exact okX12_readMachine_j13 O hw
theorem dX12_readVar_0 : decode cX12_readVar 0 = .ok (.aload_n 0, 1) := by decide +kernel
theorem dX12_readVar_1 : decode cX12_readVar 1 = .ok (.getfield 27, 3) := by decide +kernel
theorem dX12_readVar_4 : decode cX12_readVar 4 = .ok (.iload_n 1, 1) := by decide +kernel
theorem dX12_readVar_5 : decode cX12_readVar 5 = .ok (.iaload, 1) := by decide +kernel
theorem dX12_readVar_6 : decode cX12_readVar 6 = .ok (.iconst 3, 1) := by decide +kernel
theorem dX12_readVar_7 : decode cX12_readVar 7 = .ok (.if_icmp .eq 31, 3) := by decide +kernel
theorem dX12_readVar_10 : decode cX12_readVar 10 = .ok (.aload_n 0, 1) := by decide +kernel
theorem dX12_readVar_11 : decode cX12_readVar 11 = .ok (.getfield 30, 3) := by decide +kernel
theorem dX12_readVar_14 : decode cX12_readVar 14 = .ok (.iload_n 1, 1) := by decide +kernel
theorem dX12_readVar_15 : decode cX12_readVar 15 = .ok (.iaload, 1) := by decide +kernel
theorem dX12_readVar_16 : decode cX12_readVar 16 = .ok (.ifCond .gt 22, 3) := by decide +kernel
theorem dX12_readVar_19 : decode cX12_readVar 19 = .ok (.aload_n 0, 1) := by decide +kernel
theorem dX12_readVar_20 : decode cX12_readVar 20 = .ok (.getfield 33, 3) := by decide +kernel
theorem dX12_readVar_23 : decode cX12_readVar 23 = .ok (.iload_n 1, 1) := by decide +kernel
theorem dX12_readVar_24 : decode cX12_readVar 24 = .ok (.iaload, 1) := by decide +kernel
theorem dX12_readVar_25 : decode cX12_readVar 25 = .ok (.ifCond .gt 13, 3) := by decide +kernel
theorem dX12_readVar_28 : decode cX12_readVar 28 = .ok (.aload_n 0, 1) := by decide +kernel
theorem dX12_readVar_29 : decode cX12_readVar 29 = .ok (.getfield 39, 3) := by decide +kernel
theorem dX12_readVar_32 : decode cX12_readVar 32 = .ok (.iload_n 1, 1) := by decide +kernel
theorem dX12_readVar_33 : decode cX12_readVar 33 = .ok (.iaload, 1) := by decide +kernel
theorem dX12_readVar_34 : decode cX12_readVar 34 = .ok (.iconst (-1), 1) := by decide +kernel
theorem dX12_readVar_35 : decode cX12_readVar 35 = .ok (.if_icmp .eq 8, 3) := by decide +kernel
theorem dX12_readVar_38 : decode cX12_readVar 38 = .ok (.aload_n 0, 1) := by decide +kernel
theorem dX12_readVar_39 : decode cX12_readVar 39 = .ok (.iconst 4, 1) := by decide +kernel
theorem dX12_readVar_40 : decode cX12_readVar 40 = .ok (.invokevirtual 194, 3) := by decide +kernel
theorem dX12_readVar_43 : decode cX12_readVar 43 = .ok (.aload_n 0, 1) := by decide +kernel
theorem dX12_readVar_44 : decode cX12_readVar 44 = .ok (.invokevirtual 198, 3) := by decide +kernel
theorem dX12_readVar_47 : decode cX12_readVar 47 = .ok (.aload_n 0, 1) := by decide +kernel
theorem dX12_readVar_48 : decode cX12_readVar 48 = .ok (.invokevirtual 306, 3) := by decide +kernel
theorem dX12_readVar_51 : decode cX12_readVar 51 = .ok (.lstore_n 2, 1) := by decide +kernel
theorem dX12_readVar_52 : decode cX12_readVar 52 = .ok (.aload_n 0, 1) := by decide +kernel
theorem dX12_readVar_53 : decode cX12_readVar 53 = .ok (.ldc 208, 2) := by decide +kernel
theorem dX12_readVar_55 : decode cX12_readVar 55 = .ok (.invokevirtual 310, 3) := by decide +kernel
theorem dX12_readVar_58 : decode cX12_readVar 58 = .ok (.aload_n 0, 1) := by decide +kernel
theorem dX12_readVar_59 : decode cX12_readVar 59 = .ok (.iconst 0, 1) := by decide +kernel
theorem dX12_readVar_60 : decode cX12_readVar 60 = .ok (.bipush 9, 2) := by decide +kernel
theorem dX12_readVar_62 : decode cX12_readVar 62 = .ok (.invokevirtual 314, 3) := by decide +kernel
theorem dX12_readVar_65 : decode cX12_readVar 65 = .ok (.istore 4, 2) := by decide +kernel
theorem dX12_readVar_67 : decode cX12_readVar 67 = .ok (.aload_n 0, 1) := by decide +kernel
theorem dX12_readVar_68 : decode cX12_readVar 68 = .ok (.ldc 210, 2) := by decide +kernel
theorem dX12_readVar_70 : decode cX12_readVar 70 = .ok (.invokevirtual 310, 3) := by decide +kernel
theorem dX12_readVar_73 : decode cX12_readVar 73 = .ok (.aload_n 0, 1) := by decide +kernel
theorem dX12_readVar_74 : decode cX12_readVar 74 = .ok (.getfield 130, 3) := by decide +kernel
theorem dX12_readVar_77 : decode cX12_readVar 77 = .ok (.ifCond .ne 51, 3) := by decide +kernel
theorem dX12_readVar_80 : decode cX12_readVar 80 = .ok (.aload_n 0, 1) := by decide +kernel
theorem dX12_readVar_81 : decode cX12_readVar 81 = .ok (.getfield 149, 3) := by decide +kernel
theorem dX12_readVar_84 : decode cX12_readVar 84 = .ok (.iconst 3, 1) := by decide +kernel
theorem dX12_readVar_85 : decode cX12_readVar 85 = .ok (.if_icmp .ne 43, 3) := by decide +kernel
theorem dX12_readVar_88 : decode cX12_readVar 88 = .ok (.aload_n 0, 1) := by decide +kernel
theorem dX12_readVar_89 : decode cX12_readVar 89 = .ok (.getfield 167, 3) := by decide +kernel
theorem dX12_readVar_92 : decode cX12_readVar 92 = .ok (.iload 4, 2) := by decide +kernel
theorem dX12_readVar_94 : decode cX12_readVar 94 = .ok (.bipush 9, 2) := by decide +kernel
theorem dX12_readVar_96 : decode cX12_readVar 96 = .ok (.invokestatic 142, 3) := by decide +kernel
theorem dX12_readVar_99 : decode cX12_readVar 99 = .ok (.ifCond .eq 29, 3) := by decide +kernel
theorem dX12_readVar_102 : decode cX12_readVar 102 = .ok (.aload_n 0, 1) := by decide +kernel
theorem dX12_readVar_103 : decode cX12_readVar 103 = .ok (.getfield 36, 3) := by decide +kernel
theorem dX12_readVar_106 : decode cX12_readVar 106 = .ok (.iload_n 1, 1) := by decide +kernel
theorem dX12_readVar_107 : decode cX12_readVar 107 = .ok (.iaload, 1) := by decide +kernel
theorem dX12_readVar_108 : decode cX12_readVar 108 = .ok (.aload_n 0, 1) := by decide +kernel
theorem dX12_readVar_109 : decode cX12_readVar 109 = .ok (.getfield 167, 3) := by decide +kernel
theorem dX12_readVar_112 : decode cX12_readVar 112 = .ok (.iload 4, 2) := by decide +kernel
theorem dX12_readVar_114 : decode cX12_readVar 114 = .ok (.isub, 1) := by decide +kernel
theorem dX12_readVar_115 : decode cX12_readVar 115 = .ok (.iconst 1, 1) := by decide +kernel
theorem dX12_readVar_116 : decode cX12_readVar 116 = .ok (.iadd, 1) := by decide +kernel
theorem dX12_readVar_117 : decode cX12_readVar 117 = .ok (.imul, 1) := by decide +kernel
theorem dX12_readVar_118 : decode cX12_readVar 118 = .ok (.bipush 100, 2) := by decide +kernel
theorem dX12_readVar_120 : decode cX12_readVar 120 = .ok (.if_icmp .le 8, 3) := by decide +kernel
theorem dX12_readVar_123 : decode cX12_readVar 123 = .ok (.aload_n 0, 1) := by decide +kernel
theorem dX12_readVar_124 : decode cX12_readVar 124 = .ok (.iconst 4, 1) := by decide +kernel
theorem dX12_readVar_125 : decode cX12_readVar 125 = .ok (.invokevirtual 194, 3) := by decide +kernel
theorem dX12_readVar_128 : decode cX12_readVar 128 = .ok (.aload_n 0, 1) := by decide +kernel
theorem dX12_readVar_129 : decode cX12_readVar 129 = .ok (.iload 4, 2) := by decide +kernel
theorem dX12_readVar_131 : decode cX12_readVar 131 = .ok (.bipush 9, 2) := by decide +kernel
theorem dX12_readVar_133 : decode cX12_readVar 133 = .ok (.invokevirtual 314, 3) := by decide +kernel
theorem dX12_readVar_136 : decode cX12_readVar 136 = .ok (.istore 5, 2) := by decide +kernel
theorem dX12_readVar_138 : decode cX12_readVar 138 = .ok (.aload_n 0, 1) := by decide +kernel
theorem dX12_readVar_139 : decode cX12_readVar 139 = .ok (.ldc 212, 2) := by decide +kernel
theorem dX12_readVar_141 : decode cX12_readVar 141 = .ok (.invokevirtual 310, 3) := by decide +kernel
theorem dX12_readVar_144 : decode cX12_readVar 144 = .ok (.aload_n 0, 1) := by decide +kernel
theorem dX12_readVar_145 : decode cX12_readVar 145 = .ok (.iload 4, 2) := by decide +kernel
theorem dX12_readVar_147 : decode cX12_readVar 147 = .ok (.iload 5, 2) := by decide +kernel
theorem dX12_readVar_149 : decode cX12_readVar 149 = .ok (.invokevirtual 314, 3) := by decide +kernel
theorem dX12_readVar_152 : decode cX12_readVar 152 = .ok (.istore 6, 2) := by decide +kernel
theorem dX12_readVar_154 : decode cX12_readVar 154 = .ok (.aload_n 0, 1) := by decide +kernel
theorem dX12_readVar_155 : decode cX12_readVar 155 = .ok (.getfield 130, 3) := by decide +kernel
theorem dX12_readVar_158 : decode cX12_readVar 158 = .ok (.ifCond .le 4, 3) := by decide +kernel
theorem dX12_readVar_161 : decode cX12_readVar 161 = .ok (.return_, 1) := by decide +kernel
theorem dX12_readVar_162 : decode cX12_readVar 162 = .ok (.iconst 3, 1) := by decide +kernel
theorem dX12_readVar_163 : decode cX12_readVar 163 = .ok (.iload_n 1, 1) := by decide +kernel
theorem dX12_readVar_164 : decode cX12_readVar 164 = .ok (.imul, 1) := by decide +kernel
theorem dX12_readVar_165 : decode cX12_readVar 165 = .ok (.aload_n 0, 1) := by decide +kernel
theorem dX12_readVar_166 : decode cX12_readVar 166 = .ok (.getfield 27, 3) := by decide +kernel
theorem dX12_readVar_169 : decode cX12_readVar 169 = .ok (.iload_n 1, 1) := by decide +kernel
theorem dX12_readVar_170 : decode cX12_readVar 170 = .ok (.iaload, 1) := by decide +kernel
theorem dX12_readVar_171 : decode cX12_readVar 171 = .ok (.iadd, 1) := by decide +kernel
theorem dX12_readVar_172 : decode cX12_readVar 172 = .ok (.istore 7, 2) := by decide +kernel
theorem dX12_readVar_174 : decode cX12_readVar 174 = .ok (.aload_n 0, 1) := by decide +kernel
theorem dX12_readVar_175 : decode cX12_readVar 175 = .ok (.getfield 21, 3) := by decide +kernel
theorem dX12_readVar_178 : decode cX12_readVar 178 = .ok (.iload 7, 2) := by decide +kernel
theorem dX12_readVar_180 : decode cX12_readVar 180 = .ok (.lload_n 2, 1) := by decide +kernel
theorem dX12_readVar_181 : decode cX12_readVar 181 = .ok (.lastore, 1) := by decide +kernel
theorem dX12_readVar_182 : decode cX12_readVar 182 = .ok (.aload_n 0, 1) := by decide +kernel
theorem dX12_readVar_183 : decode cX12_readVar 183 = .ok (.getfield 45, 3) := by decide +kernel
theorem dX12_readVar_186 : decode cX12_readVar 186 = .ok (.iload 7, 2) := by decide +kernel
theorem dX12_readVar_188 : decode cX12_readVar 188 = .ok (.iload 4, 2) := by decide +kernel
theorem dX12_readVar_190 : decode cX12_readVar 190 = .ok (.iastore, 1) := by decide +kernel
theorem dX12_readVar_191 : decode cX12_readVar 191 = .ok (.aload_n 0, 1) := by decide +kernel
theorem dX12_readVar_192 : decode cX12_readVar 192 = .ok (.getfield 48, 3) := by decide +kernel
theorem dX12_readVar_195 : decode cX12_readVar 195 = .ok (.iload 7, 2) := by decide +kernel
theorem dX12_readVar_197 : decode cX12_readVar 197 = .ok (.iload 5, 2) := by decide +kernel
theorem dX12_readVar_199 : decode cX12_readVar 199 = .ok (.iastore, 1) := by decide +kernel
theorem dX12_readVar_200 : decode cX12_readVar 200 = .ok (.aload_n 0, 1) := by decide +kernel
theorem dX12_readVar_201 : decode cX12_readVar 201 = .ok (.getfield 51, 3) := by decide +kernel
theorem dX12_readVar_204 : decode cX12_readVar 204 = .ok (.iload 7, 2) := by decide +kernel
theorem dX12_readVar_206 : decode cX12_readVar 206 = .ok (.iload 6, 2) := by decide +kernel
theorem dX12_readVar_208 : decode cX12_readVar 208 = .ok (.iastore, 1) := by decide +kernel
theorem dX12_readVar_209 : decode cX12_readVar 209 = .ok (.aload_n 0, 1) := by decide +kernel
theorem dX12_readVar_210 : decode cX12_readVar 210 = .ok (.getfield 36, 3) := by decide +kernel
theorem dX12_readVar_213 : decode cX12_readVar 213 = .ok (.iload_n 1, 1) := by decide +kernel
theorem dX12_readVar_214 : decode cX12_readVar 214 = .ok (.dup2, 1) := by decide +kernel
theorem dX12_readVar_215 : decode cX12_readVar 215 = .ok (.iaload, 1) := by decide +kernel
theorem dX12_readVar_216 : decode cX12_readVar 216 = .ok (.iload 5, 2) := by decide +kernel
theorem dX12_readVar_218 : decode cX12_readVar 218 = .ok (.iload 4, 2) := by decide +kernel
theorem dX12_readVar_220 : decode cX12_readVar 220 = .ok (.isub, 1) := by decide +kernel
theorem dX12_readVar_221 : decode cX12_readVar 221 = .ok (.iconst 1, 1) := by decide +kernel
theorem dX12_readVar_222 : decode cX12_readVar 222 = .ok (.iadd, 1) := by decide +kernel
theorem dX12_readVar_223 : decode cX12_readVar 223 = .ok (.imul, 1) := by decide +kernel
theorem dX12_readVar_224 : decode cX12_readVar 224 = .ok (.iastore, 1) := by decide +kernel
theorem dX12_readVar_225 : decode cX12_readVar 225 = .ok (.aload_n 0, 1) := by decide +kernel
theorem dX12_readVar_226 : decode cX12_readVar 226 = .ok (.getfield 27, 3) := by decide +kernel
theorem dX12_readVar_229 : decode cX12_readVar 229 = .ok (.iload_n 1, 1) := by decide +kernel
theorem dX12_readVar_230 : decode cX12_readVar 230 = .ok (.dup2, 1) := by decide +kernel
theorem dX12_readVar_231 : decode cX12_readVar 231 = .ok (.iaload, 1) := by decide +kernel
theorem dX12_readVar_232 : decode cX12_readVar 232 = .ok (.iconst 1, 1) := by decide +kernel
theorem dX12_readVar_233 : decode cX12_readVar 233 = .ok (.iadd, 1) := by decide +kernel
theorem dX12_readVar_234 : decode cX12_readVar 234 = .ok (.iastore, 1) := by decide +kernel
theorem dX12_readVar_235 : decode cX12_readVar 235 = .ok (.return_, 1) := by decide +kernel
theorem okX12_readVar_j128 {E : Ev} {X : Cx} {S : Sh} {Z : Option Nat} {Q : Hp → Prop} {h : Hp} {a0 : Nat} {x1 : Int32} {j2 : Int64} {x4 : Int32} (O : Ok E X yX12_readVar cX12_readVar 8 none 12 388 0 0 (qV S Z Q)) (hw : wX12_readVar_j128 S (fun i => E.2.2.2.2.1 i + 1) h a0 x1 j2 x4 Q) : G E X 0 0 S Z h 128 [some (vr a0), some (vi x1), some (vj j2), none, some (vi x4), none, none, none] [] := by
  unfold wX12_readVar_j128 at hw
  refine g_aload_n O dX12_readVar_128 rfl ?_
  refine g_iload O dX12_readVar_129 rfl ?_
  refine g_bipush O dX12_readVar_131 kb_9 ?_
  obtain ⟨c133, hw⟩ := hw
  refine g_callV (As := [vi x4, vi (9 : Int32)]) (rest := []) O ci_12 rfl dX12_readVar_133 ml_X12_314 im_yX12_readWhole se_yX12_readWhole ini_X12 co_yX12_readWhole yo_yX12_readWhole c133 rfl rfl (Nat.le_of_ble_eq_true rfl) ⟨by decide, by decide, by decide, by decide⟩ (okX12_readWhole hw) (k_I fun r133 h133 hw => ?_)
  refine g_istore (lc' := [some (vr a0), some (vi x1), some (vj j2), none, some (vi x4), some (vi r133), none, none]) O dX12_readVar_136 rfl (Nat.le_of_ble_eq_true rfl) rfl ?_
  refine g_aload_n O dX12_readVar_138 rfl ?_
  refine g_ldcS (i := 6) O dX12_readVar_139 rfl rfl rfl ?_
  refine g_callV (As := [vr (E.2.2.2.2.1 6 + 1)]) (rest := []) O ci_12 rfl dX12_readVar_141 ml_X12_310 im_yX12_needs se_yX12_needs ini_X12 co_yX12_needs yo_yX12_needs c133 rfl rfl (Nat.le_of_ble_eq_true rfl) ⟨by decide, by decide, by decide, by decide⟩ (okX12_needs hw) (k_V fun h141 hw => ?_)
  refine g_aload_n O dX12_readVar_144 rfl ?_
  refine g_iload O dX12_readVar_145 rfl ?_
  refine g_iload O dX12_readVar_147 rfl ?_
  refine g_callV (As := [vi x4, vi r133]) (rest := []) O ci_12 rfl dX12_readVar_149 ml_X12_314 im_yX12_readWhole se_yX12_readWhole ini_X12 co_yX12_readWhole yo_yX12_readWhole c133 rfl rfl (Nat.le_of_ble_eq_true rfl) ⟨by decide, by decide, by decide, by decide⟩ (okX12_readWhole hw) (k_I fun r149 h149 hw => ?_)
  refine g_istore (lc' := [some (vr a0), some (vi x1), some (vj j2), none, some (vi x4), some (vi r133), some (vi r149), none]) O dX12_readVar_152 rfl (Nat.le_of_ble_eq_true rfl) rfl ?_
  refine g_aload_n O dX12_readVar_154 rfl ?_
  refine gf_X12_fault O dX12_readVar_155 fl_X12_130 c133 ?_
  refine g_if_le (tgt := 162) O dX12_readVar_158 rfl (fun q158 => ?_) (fun q158 => ?_)
  · have hw := hw.1 q158
    refine g_iconst O dX12_readVar_162 kv_3 ?_
    refine g_iload_n O dX12_readVar_163 rfl ?_
    refine g_imul O dX12_readVar_164 ?_
    refine g_aload_n O dX12_readVar_165 rfl ?_
    refine gf_X12_varMany O dX12_readVar_166 fl_X12_27 c133 ?_
    refine g_iload_n O dX12_readVar_169 rfl ?_
    obtain ⟨c170, hw⟩ := hw
    refine g_iaload O dX12_readVar_170 c170.1 c170.2 ?_
    refine g_iadd O dX12_readVar_171 ?_
    refine g_nmI (fun xv172 e172 => ?_)
    have hw := hw xv172 e172
    refine g_istore (lc' := [some (vr a0), some (vi x1), some (vj j2), none, some (vi x4), some (vi r133), some (vi r149), some (vi xv172)]) O dX12_readVar_172 rfl (Nat.le_of_ble_eq_true rfl) rfl ?_
    refine g_aload_n O dX12_readVar_174 rfl ?_
    refine gf_X12_varName O dX12_readVar_175 fl_X12_21 c133 ?_
    refine g_iload O dX12_readVar_178 rfl ?_
    refine g_lload_n O dX12_readVar_180 rfl ?_
    obtain ⟨c181, hw⟩ := hw
    refine g_lastore O dX12_readVar_181 c181.1 c181.2 ?_
    refine g_nmH (fun h181 e181 => ?_)
    have hw := hw h181 e181
    refine g_aload_n O dX12_readVar_182 rfl ?_
    refine gf_X12_varLow O dX12_readVar_183 fl_X12_45 c133 ?_
    refine g_iload O dX12_readVar_186 rfl ?_
    refine g_iload O dX12_readVar_188 rfl ?_
    obtain ⟨c190, hw⟩ := hw
    refine g_iastore O dX12_readVar_190 c190.1 c190.2 ?_
    refine g_nmH (fun h190 e190 => ?_)
    have hw := hw h190 e190
    refine g_aload_n O dX12_readVar_191 rfl ?_
    refine gf_X12_varHigh O dX12_readVar_192 fl_X12_48 c133 ?_
    refine g_iload O dX12_readVar_195 rfl ?_
    refine g_iload O dX12_readVar_197 rfl ?_
    obtain ⟨c199, hw⟩ := hw
    refine g_iastore O dX12_readVar_199 c199.1 c199.2 ?_
    refine g_nmH (fun h199 e199 => ?_)
    have hw := hw h199 e199
    refine g_aload_n O dX12_readVar_200 rfl ?_
    refine gf_X12_varAt O dX12_readVar_201 fl_X12_51 c133 ?_
    refine g_iload O dX12_readVar_204 rfl ?_
    refine g_iload O dX12_readVar_206 rfl ?_
    obtain ⟨c208, hw⟩ := hw
    refine g_iastore O dX12_readVar_208 c208.1 c208.2 ?_
    refine g_nmH (fun h208 e208 => ?_)
    have hw := hw h208 e208
    refine g_aload_n O dX12_readVar_209 rfl ?_
    refine gf_X12_sizes O dX12_readVar_210 fl_X12_36 c133 ?_
    refine g_iload_n O dX12_readVar_213 rfl ?_
    refine g_dup2 O dX12_readVar_214 rfl rfl ?_
    obtain ⟨c215, hw⟩ := hw
    refine g_iaload O dX12_readVar_215 c215.1 c215.2 ?_
    refine g_iload O dX12_readVar_216 rfl ?_
    refine g_iload O dX12_readVar_218 rfl ?_
    refine g_isub O dX12_readVar_220 ?_
    refine g_iconst O dX12_readVar_221 kv_1 ?_
    refine g_iadd O dX12_readVar_222 ?_
    refine g_imul O dX12_readVar_223 ?_
    refine g_iastore O dX12_readVar_224 c215.1 c215.2 ?_
    refine g_nmH (fun h224 e224 => ?_)
    have hw := hw h224 e224
    refine g_aload_n O dX12_readVar_225 rfl ?_
    refine gf_X12_varMany O dX12_readVar_226 fl_X12_27 c133 ?_
    refine g_iload_n O dX12_readVar_229 rfl ?_
    refine g_dup2 O dX12_readVar_230 rfl rfl ?_
    obtain ⟨c231, hw⟩ := hw
    refine g_iaload O dX12_readVar_231 c231.1 c231.2 ?_
    refine g_iconst O dX12_readVar_232 kv_1 ?_
    refine g_iadd O dX12_readVar_233 ?_
    refine g_iastore O dX12_readVar_234 c231.1 c231.2 ?_
    exact g_return O dX12_readVar_235 ⟨rfl, rfl, rfl, hw⟩
  · have hw := hw.2 q158
    exact g_return O dX12_readVar_161 ⟨rfl, rfl, rfl, hw⟩
theorem okX12_readVar_j43 {E : Ev} {X : Cx} {S : Sh} {Z : Option Nat} {Q : Hp → Prop} {h : Hp} {a0 : Nat} {x1 : Int32} (O : Ok E X yX12_readVar cX12_readVar 8 none 12 388 0 0 (qV S Z Q)) (hw : wX12_readVar_j43 S (fun i => E.2.2.2.2.1 i + 1) h a0 x1 Q) : G E X 0 0 S Z h 43 [some (vr a0), some (vi x1), none, none, none, none, none, none] [] := by
  unfold wX12_readVar_j43 at hw
  refine g_aload_n O dX12_readVar_43 rfl ?_
  obtain ⟨c44, hw⟩ := hw
  refine g_callV (As := []) (rest := []) O ci_12 rfl dX12_readVar_44 ml_X12_198 im_yX12_goOn se_yX12_goOn ini_X12 co_yX12_goOn yo_yX12_goOn c44 rfl rfl (Nat.le_of_ble_eq_true rfl) ⟨by decide, by decide, by decide, by decide⟩ (okX12_goOn hw) (k_V fun h44 hw => ?_)
  refine g_aload_n O dX12_readVar_47 rfl ?_
  refine g_callV (As := []) (rest := []) O ci_12 rfl dX12_readVar_48 ml_X12_306 im_yX12_readNew se_yX12_readNew ini_X12 co_yX12_readNew yo_yX12_readNew c44 rfl rfl (Nat.le_of_ble_eq_true rfl) ⟨by decide, by decide, by decide, by decide⟩ (okX12_readNew hw) (k_J fun r48 h48 hw => ?_)
  refine g_lstore_n (lc' := [some (vr a0), some (vi x1), some (vj r48), none, none, none, none, none]) O dX12_readVar_51 rfl (Nat.le_of_ble_eq_true rfl) rfl ?_
  refine g_aload_n O dX12_readVar_52 rfl ?_
  refine g_ldcS (i := 4) O dX12_readVar_53 rfl rfl rfl ?_
  refine g_callV (As := [vr (E.2.2.2.2.1 4 + 1)]) (rest := []) O ci_12 rfl dX12_readVar_55 ml_X12_310 im_yX12_needs se_yX12_needs ini_X12 co_yX12_needs yo_yX12_needs c44 rfl rfl (Nat.le_of_ble_eq_true rfl) ⟨by decide, by decide, by decide, by decide⟩ (okX12_needs hw) (k_V fun h55 hw => ?_)
  refine g_aload_n O dX12_readVar_58 rfl ?_
  refine g_iconst O dX12_readVar_59 kv_0 ?_
  refine g_bipush O dX12_readVar_60 kb_9 ?_
  refine g_callV (As := [vi (0 : Int32), vi (9 : Int32)]) (rest := []) O ci_12 rfl dX12_readVar_62 ml_X12_314 im_yX12_readWhole se_yX12_readWhole ini_X12 co_yX12_readWhole yo_yX12_readWhole c44 rfl rfl (Nat.le_of_ble_eq_true rfl) ⟨by decide, by decide, by decide, by decide⟩ (okX12_readWhole hw) (k_I fun r62 h62 hw => ?_)
  refine g_istore (lc' := [some (vr a0), some (vi x1), some (vj r48), none, some (vi r62), none, none, none]) O dX12_readVar_65 rfl (Nat.le_of_ble_eq_true rfl) rfl ?_
  refine g_aload_n O dX12_readVar_67 rfl ?_
  refine g_ldcS (i := 5) O dX12_readVar_68 rfl rfl rfl ?_
  refine g_callV (As := [vr (E.2.2.2.2.1 5 + 1)]) (rest := []) O ci_12 rfl dX12_readVar_70 ml_X12_310 im_yX12_needs se_yX12_needs ini_X12 co_yX12_needs yo_yX12_needs c44 rfl rfl (Nat.le_of_ble_eq_true rfl) ⟨by decide, by decide, by decide, by decide⟩ (okX12_needs hw) (k_V fun h70 hw => ?_)
  refine g_aload_n O dX12_readVar_73 rfl ?_
  refine gf_X12_fault O dX12_readVar_74 fl_X12_130 c44 ?_
  refine g_if_ne (tgt := 128) O dX12_readVar_77 rfl (fun q77 => ?_) (fun q77 => ?_)
  · have hw := hw.1 q77
    exact okX12_readVar_j128 O hw
  · have hw := hw.2 q77
    refine g_aload_n O dX12_readVar_80 rfl ?_
    refine gf_X12_token O dX12_readVar_81 fl_X12_149 c44 ?_
    refine g_iconst O dX12_readVar_84 kv_3 ?_
    refine g_icmp_ne (tgt := 128) O dX12_readVar_85 rfl (fun q85 => ?_) (fun q85 => ?_)
    · have hw := hw.1 q85
      exact okX12_readVar_j128 O hw
    · have hw := hw.2 q85
      refine g_aload_n O dX12_readVar_88 rfl ?_
      refine gf_X12_number O dX12_readVar_89 fl_X12_167 c44 ?_
      refine g_iload O dX12_readVar_92 rfl ?_
      refine g_bipush O dX12_readVar_94 kb_9 ?_
      refine g_callS (As := [vi (gI h70 a0 12), vi r62, vi (9 : Int32)]) (rest := []) O dX12_readVar_96 ml_X12_142 st_yX12_in ini_X12 co_yX12_in yo_yX12_in rfl rfl (Nat.le_of_ble_eq_true rfl) ⟨by decide, by decide, by decide, by decide⟩ (okX12_in hw) (k_I fun r96 h96 hw => ?_)
      refine g_if_eq (tgt := 128) O dX12_readVar_99 rfl (fun q99 => ?_) (fun q99 => ?_)
      · have hw := hw.1 q99
        exact okX12_readVar_j128 O hw
      · have hw := hw.2 q99
        refine g_aload_n O dX12_readVar_102 rfl ?_
        refine gf_X12_sizes O dX12_readVar_103 fl_X12_36 c44 ?_
        refine g_iload_n O dX12_readVar_106 rfl ?_
        obtain ⟨c107, hw⟩ := hw
        refine g_iaload O dX12_readVar_107 c107.1 c107.2 ?_
        refine g_aload_n O dX12_readVar_108 rfl ?_
        refine gf_X12_number O dX12_readVar_109 fl_X12_167 c44 ?_
        refine g_iload O dX12_readVar_112 rfl ?_
        refine g_isub O dX12_readVar_114 ?_
        refine g_iconst O dX12_readVar_115 kv_1 ?_
        refine g_iadd O dX12_readVar_116 ?_
        refine g_imul O dX12_readVar_117 ?_
        refine g_bipush O dX12_readVar_118 kb_100 ?_
        refine g_icmp_le (tgt := 128) O dX12_readVar_120 rfl (fun q120 => ?_) (fun q120 => ?_)
        · have hw := hw.1 q120
          exact okX12_readVar_j128 O hw
        · have hw := hw.2 q120
          refine g_aload_n O dX12_readVar_123 rfl ?_
          refine g_iconst O dX12_readVar_124 kv_4 ?_
          refine g_callV (As := [vi (4 : Int32)]) (rest := []) O ci_12 rfl dX12_readVar_125 ml_X12_194 im_yX12_flaw se_yX12_flaw ini_X12 co_yX12_flaw yo_yX12_flaw c44 rfl rfl (Nat.le_of_ble_eq_true rfl) ⟨by decide, by decide, by decide, by decide⟩ (okX12_flaw hw) (k_V fun h125 hw => ?_)
          exact okX12_readVar_j128 O hw
theorem okX12_readVar_j38 {E : Ev} {X : Cx} {S : Sh} {Z : Option Nat} {Q : Hp → Prop} {h : Hp} {a0 : Nat} {x1 : Int32} (O : Ok E X yX12_readVar cX12_readVar 8 none 12 388 0 0 (qV S Z Q)) (hw : wX12_readVar_j38 S (fun i => E.2.2.2.2.1 i + 1) h a0 x1 Q) : G E X 0 0 S Z h 38 [some (vr a0), some (vi x1), none, none, none, none, none, none] [] := by
  unfold wX12_readVar_j38 at hw
  refine g_aload_n O dX12_readVar_38 rfl ?_
  refine g_iconst O dX12_readVar_39 kv_4 ?_
  obtain ⟨c40, hw⟩ := hw
  refine g_callV (As := [vi (4 : Int32)]) (rest := []) O ci_12 rfl dX12_readVar_40 ml_X12_194 im_yX12_flaw se_yX12_flaw ini_X12 co_yX12_flaw yo_yX12_flaw c40 rfl rfl (Nat.le_of_ble_eq_true rfl) ⟨by decide, by decide, by decide, by decide⟩ (okX12_flaw hw) (k_V fun h40 hw => ?_)
  exact okX12_readVar_j43 O hw
theorem okX12_readVar {E : Ev} {S : Sh} {Z : Option Nat} {Q : Hp → Prop} {h : Hp} {a0 : Nat} {x1 : Int32} (hw : wX12_readVar S (fun i => E.2.2.2.2.1 i + 1) h a0 x1 Q) : Ct E yX12_readVar cX12_readVar 8 none 12 388 0 0 S Z h [vr a0, vi x1] (qV S Z Q) := by
  refine Ct.of (by decide) (lc := [some (vr a0), some (vi x1), none, none, none, none, none, none]) (Nat.le_of_ble_eq_true rfl) rfl (fun X O => ?_)
  unfold wX12_readVar at hw
  refine g_aload_n O dX12_readVar_0 rfl ?_
  obtain ⟨c1, hw⟩ := hw
  refine gf_X12_varMany O dX12_readVar_1 fl_X12_27 c1 ?_
  refine g_iload_n O dX12_readVar_4 rfl ?_
  obtain ⟨c5, hw⟩ := hw
  refine g_iaload O dX12_readVar_5 c5.1 c5.2 ?_
  refine g_iconst O dX12_readVar_6 kv_3 ?_
  refine g_icmp_eq (tgt := 38) O dX12_readVar_7 rfl (fun q7 => ?_) (fun q7 => ?_)
  · have hw := hw.1 q7
    exact okX12_readVar_j38 O hw
  · have hw := hw.2 q7
    refine g_aload_n O dX12_readVar_10 rfl ?_
    refine gf_X12_lawMany O dX12_readVar_11 fl_X12_30 c1 ?_
    refine g_iload_n O dX12_readVar_14 rfl ?_
    obtain ⟨c15, hw⟩ := hw
    refine g_iaload O dX12_readVar_15 c15.1 c15.2 ?_
    refine g_if_gt (tgt := 38) O dX12_readVar_16 rfl (fun q16 => ?_) (fun q16 => ?_)
    · have hw := hw.1 q16
      exact okX12_readVar_j38 O hw
    · have hw := hw.2 q16
      refine g_aload_n O dX12_readVar_19 rfl ?_
      refine gf_X12_eventMany O dX12_readVar_20 fl_X12_33 c1 ?_
      refine g_iload_n O dX12_readVar_23 rfl ?_
      obtain ⟨c24, hw⟩ := hw
      refine g_iaload O dX12_readVar_24 c24.1 c24.2 ?_
      refine g_if_gt (tgt := 38) O dX12_readVar_25 rfl (fun q25 => ?_) (fun q25 => ?_)
      · have hw := hw.1 q25
        exact okX12_readVar_j38 O hw
      · have hw := hw.2 q25
        refine g_aload_n O dX12_readVar_28 rfl ?_
        refine gf_X12_variantFrom O dX12_readVar_29 fl_X12_39 c1 ?_
        refine g_iload_n O dX12_readVar_32 rfl ?_
        obtain ⟨c33, hw⟩ := hw
        refine g_iaload O dX12_readVar_33 c33.1 c33.2 ?_
        refine g_iconst O dX12_readVar_34 kv_m1 ?_
        refine g_icmp_eq (tgt := 43) O dX12_readVar_35 rfl (fun q35 => ?_) (fun q35 => ?_)
        · have hw := hw.1 q35
          exact okX12_readVar_j43 O hw
        · have hw := hw.2 q35
          exact okX12_readVar_j38 O hw
theorem dX12_readVariant_0 : decode cX12_readVariant 0 = .ok (.aload_n 0, 1) := by decide +kernel
theorem dX12_readVariant_1 : decode cX12_readVariant 1 = .ok (.getfield 39, 3) := by decide +kernel
theorem dX12_readVariant_4 : decode cX12_readVariant 4 = .ok (.iload_n 1, 1) := by decide +kernel
theorem dX12_readVariant_5 : decode cX12_readVariant 5 = .ok (.iaload, 1) := by decide +kernel
theorem dX12_readVariant_6 : decode cX12_readVariant 6 = .ok (.iconst (-1), 1) := by decide +kernel
theorem dX12_readVariant_7 : decode cX12_readVariant 7 = .ok (.if_icmp .eq 8, 3) := by decide +kernel
theorem dX12_readVariant_10 : decode cX12_readVariant 10 = .ok (.aload_n 0, 1) := by decide +kernel
theorem dX12_readVariant_11 : decode cX12_readVariant 11 = .ok (.iconst 4, 1) := by decide +kernel
theorem dX12_readVariant_12 : decode cX12_readVariant 12 = .ok (.invokevirtual 194, 3) := by decide +kernel
theorem dX12_readVariant_15 : decode cX12_readVariant 15 = .ok (.aload_n 0, 1) := by decide +kernel
theorem dX12_readVariant_16 : decode cX12_readVariant 16 = .ok (.invokevirtual 198, 3) := by decide +kernel
theorem dX12_readVariant_19 : decode cX12_readVariant 19 = .ok (.aload_n 0, 1) := by decide +kernel
theorem dX12_readVariant_20 : decode cX12_readVariant 20 = .ok (.iconst 0, 1) := by decide +kernel
theorem dX12_readVariant_21 : decode cX12_readVariant 21 = .ok (.iconst 0, 1) := by decide +kernel
theorem dX12_readVariant_22 : decode cX12_readVariant 22 = .ok (.invokevirtual 318, 3) := by decide +kernel
theorem dX12_readVariant_25 : decode cX12_readVariant 25 = .ok (.aload_n 0, 1) := by decide +kernel
theorem dX12_readVariant_26 : decode cX12_readVariant 26 = .ok (.getfield 239, 3) := by decide +kernel
theorem dX12_readVariant_29 : decode cX12_readVariant 29 = .ok (.istore_n 2, 1) := by decide +kernel
theorem dX12_readVariant_30 : decode cX12_readVariant 30 = .ok (.aload_n 0, 1) := by decide +kernel
theorem dX12_readVariant_31 : decode cX12_readVariant 31 = .ok (.invokevirtual 268, 3) := by decide +kernel
theorem dX12_readVariant_34 : decode cX12_readVariant 34 = .ok (.aload_n 0, 1) := by decide +kernel
theorem dX12_readVariant_35 : decode cX12_readVariant 35 = .ok (.getfield 130, 3) := by decide +kernel
theorem dX12_readVariant_38 : decode cX12_readVariant 38 = .ok (.ifCond .le 4, 3) := by decide +kernel
theorem dX12_readVariant_41 : decode cX12_readVariant 41 = .ok (.return_, 1) := by decide +kernel
theorem dX12_readVariant_42 : decode cX12_readVariant 42 = .ok (.aload_n 0, 1) := by decide +kernel
theorem dX12_readVariant_43 : decode cX12_readVariant 43 = .ok (.getfield 39, 3) := by decide +kernel
theorem dX12_readVariant_46 : decode cX12_readVariant 46 = .ok (.iload_n 1, 1) := by decide +kernel
theorem dX12_readVariant_47 : decode cX12_readVariant 47 = .ok (.iload_n 2, 1) := by decide +kernel
theorem dX12_readVariant_48 : decode cX12_readVariant 48 = .ok (.iastore, 1) := by decide +kernel
theorem dX12_readVariant_49 : decode cX12_readVariant 49 = .ok (.aload_n 0, 1) := by decide +kernel
theorem dX12_readVariant_50 : decode cX12_readVariant 50 = .ok (.getfield 42, 3) := by decide +kernel
theorem dX12_readVariant_53 : decode cX12_readVariant 53 = .ok (.iload_n 1, 1) := by decide +kernel
theorem dX12_readVariant_54 : decode cX12_readVariant 54 = .ok (.aload_n 0, 1) := by decide +kernel
theorem dX12_readVariant_55 : decode cX12_readVariant 55 = .ok (.getfield 239, 3) := by decide +kernel
theorem dX12_readVariant_58 : decode cX12_readVariant 58 = .ok (.iastore, 1) := by decide +kernel
theorem dX12_readVariant_59 : decode cX12_readVariant 59 = .ok (.return_, 1) := by decide +kernel
theorem okX12_readVariant_j15 {E : Ev} {X : Cx} {S : Sh} {Z : Option Nat} {Q : Hp → Prop} {h : Hp} {a0 : Nat} {x1 : Int32} (O : Ok E X yX12_readVariant cX12_readVariant 3 none 72 2787 0 0 (qV S Z Q)) (hw : wX12_readVariant_j15 S (fun i => E.2.2.2.2.1 i + 1) h a0 x1 Q) : G E X 0 0 S Z h 15 [some (vr a0), some (vi x1), none] [] := by
  unfold wX12_readVariant_j15 at hw
  refine g_aload_n O dX12_readVariant_15 rfl ?_
  obtain ⟨c16, hw⟩ := hw
  refine g_callV (As := []) (rest := []) O ci_12 rfl dX12_readVariant_16 ml_X12_198 im_yX12_goOn se_yX12_goOn ini_X12 co_yX12_goOn yo_yX12_goOn c16 rfl rfl (Nat.le_of_ble_eq_true rfl) ⟨by decide, by decide, by decide, by decide⟩ (okX12_goOn hw) (k_V fun h16 hw => ?_)
  refine g_aload_n O dX12_readVariant_19 rfl ?_
  refine g_iconst O dX12_readVariant_20 kv_0 ?_
  refine g_iconst O dX12_readVariant_21 kv_0 ?_
  refine g_callV (As := [vi (0 : Int32), vi (0 : Int32)]) (rest := []) O ci_12 rfl dX12_readVariant_22 ml_X12_318 im_yX12_begins se_yX12_begins ini_X12 co_yX12_begins yo_yX12_begins c16 rfl rfl (Nat.le_of_ble_eq_true rfl) ⟨by decide, by decide, by decide, by decide⟩ (okX12_begins hw) (k_V fun h22 hw => ?_)
  refine g_aload_n O dX12_readVariant_25 rfl ?_
  refine gf_X12_steps O dX12_readVariant_26 fl_X12_239 c16 ?_
  refine g_istore_n (lc' := [some (vr a0), some (vi x1), some (vi (gI h22 a0 41))]) O dX12_readVariant_29 rfl (Nat.le_of_ble_eq_true rfl) rfl ?_
  refine g_aload_n O dX12_readVariant_30 rfl ?_
  refine g_callV (As := []) (rest := []) O ci_12 rfl dX12_readVariant_31 ml_X12_268 im_yX12_readSum se_yX12_readSum ini_X12 co_yX12_readSum yo_yX12_readSum c16 rfl rfl (Nat.le_of_ble_eq_true rfl) ⟨by decide, by decide, by decide, by decide⟩ (okX12_readSum hw) (k_V fun h31 hw => ?_)
  refine g_aload_n O dX12_readVariant_34 rfl ?_
  refine gf_X12_fault O dX12_readVariant_35 fl_X12_130 c16 ?_
  refine g_if_le (tgt := 42) O dX12_readVariant_38 rfl (fun q38 => ?_) (fun q38 => ?_)
  · have hw := hw.1 q38
    refine g_aload_n O dX12_readVariant_42 rfl ?_
    refine gf_X12_variantFrom O dX12_readVariant_43 fl_X12_39 c16 ?_
    refine g_iload_n O dX12_readVariant_46 rfl ?_
    refine g_iload_n O dX12_readVariant_47 rfl ?_
    obtain ⟨c48, hw⟩ := hw
    refine g_iastore O dX12_readVariant_48 c48.1 c48.2 ?_
    refine g_nmH (fun h48 e48 => ?_)
    have hw := hw h48 e48
    refine g_aload_n O dX12_readVariant_49 rfl ?_
    refine gf_X12_variantTo O dX12_readVariant_50 fl_X12_42 c16 ?_
    refine g_iload_n O dX12_readVariant_53 rfl ?_
    refine g_aload_n O dX12_readVariant_54 rfl ?_
    refine gf_X12_steps O dX12_readVariant_55 fl_X12_239 c16 ?_
    obtain ⟨c58, hw⟩ := hw
    refine g_iastore O dX12_readVariant_58 c58.1 c58.2 ?_
    exact g_return O dX12_readVariant_59 ⟨rfl, rfl, rfl, hw⟩
  · have hw := hw.2 q38
    exact g_return O dX12_readVariant_41 ⟨rfl, rfl, rfl, hw⟩
theorem okX12_readVariant {E : Ev} {S : Sh} {Z : Option Nat} {Q : Hp → Prop} {h : Hp} {a0 : Nat} {x1 : Int32} (hw : wX12_readVariant S (fun i => E.2.2.2.2.1 i + 1) h a0 x1 Q) : Ct E yX12_readVariant cX12_readVariant 3 none 72 2787 0 0 S Z h [vr a0, vi x1] (qV S Z Q) := by
  refine Ct.of (by decide) (lc := [some (vr a0), some (vi x1), none]) (Nat.le_of_ble_eq_true rfl) rfl (fun X O => ?_)
  unfold wX12_readVariant at hw
  refine g_aload_n O dX12_readVariant_0 rfl ?_
  obtain ⟨c1, hw⟩ := hw
  refine gf_X12_variantFrom O dX12_readVariant_1 fl_X12_39 c1 ?_
  refine g_iload_n O dX12_readVariant_4 rfl ?_
  obtain ⟨c5, hw⟩ := hw
  refine g_iaload O dX12_readVariant_5 c5.1 c5.2 ?_
  refine g_iconst O dX12_readVariant_6 kv_m1 ?_
  refine g_icmp_eq (tgt := 15) O dX12_readVariant_7 rfl (fun q7 => ?_) (fun q7 => ?_)
  · have hw := hw.1 q7
    exact okX12_readVariant_j15 O hw
  · have hw := hw.2 q7
    refine g_aload_n O dX12_readVariant_10 rfl ?_
    refine g_iconst O dX12_readVariant_11 kv_4 ?_
    refine g_callV (As := [vi (4 : Int32)]) (rest := []) O ci_12 rfl dX12_readVariant_12 ml_X12_194 im_yX12_flaw se_yX12_flaw ini_X12 co_yX12_flaw yo_yX12_flaw c1 rfl rfl (Nat.le_of_ble_eq_true rfl) ⟨by decide, by decide, by decide, by decide⟩ (okX12_flaw hw) (k_V fun h12 hw => ?_)
    exact okX12_readVariant_j15 O hw
theorem dX12_readLine_0 : decode cX12_readLine 0 = .ok (.aload_n 0, 1) := by decide +kernel
theorem dX12_readLine_1 : decode cX12_readLine 1 = .ok (.getfield 130, 3) := by decide +kernel
theorem dX12_readLine_4 : decode cX12_readLine 4 = .ok (.ifCond .le 4, 3) := by decide +kernel
theorem dX12_readLine_7 : decode cX12_readLine 7 = .ok (.return_, 1) := by decide +kernel
theorem dX12_readLine_8 : decode cX12_readLine 8 = .ok (.iconst 3, 1) := by decide +kernel
theorem dX12_readLine_9 : decode cX12_readLine 9 = .ok (.aload_n 0, 1) := by decide +kernel
theorem dX12_readLine_10 : decode cX12_readLine 10 = .ok (.getfield 252, 3) := by decide +kernel
theorem dX12_readLine_13 : decode cX12_readLine 13 = .ok (.iadd, 1) := by decide +kernel
theorem dX12_readLine_14 : decode cX12_readLine 14 = .ok (.iconst 1, 1) := by decide +kernel
theorem dX12_readLine_15 : decode cX12_readLine 15 = .ok (.isub, 1) := by decide +kernel
theorem dX12_readLine_16 : decode cX12_readLine 16 = .ok (.istore_n 1, 1) := by decide +kernel
theorem dX12_readLine_17 : decode cX12_readLine 17 = .ok (.aload_n 0, 1) := by decide +kernel
theorem dX12_readLine_18 : decode cX12_readLine 18 = .ok (.ldc 204, 2) := by decide +kernel
theorem dX12_readLine_20 : decode cX12_readLine 20 = .ok (.invokevirtual 190, 3) := by decide +kernel
theorem dX12_readLine_23 : decode cX12_readLine 23 = .ok (.ifCond .eq 8, 3) := by decide +kernel
theorem dX12_readLine_26 : decode cX12_readLine 26 = .ok (.aload_n 0, 1) := by decide +kernel
theorem dX12_readLine_27 : decode cX12_readLine 27 = .ok (.invokevirtual 329, 3) := by decide +kernel
theorem dX12_readLine_30 : decode cX12_readLine 30 = .ok (.return_, 1) := by decide +kernel
theorem dX12_readLine_31 : decode cX12_readLine 31 = .ok (.aload_n 0, 1) := by decide +kernel
theorem dX12_readLine_32 : decode cX12_readLine 32 = .ok (.ldc 206, 2) := by decide +kernel
theorem dX12_readLine_34 : decode cX12_readLine 34 = .ok (.invokevirtual 190, 3) := by decide +kernel
theorem dX12_readLine_37 : decode cX12_readLine 37 = .ok (.istore_n 2, 1) := by decide +kernel
theorem dX12_readLine_38 : decode cX12_readLine 38 = .ok (.iload_n 2, 1) := by decide +kernel
theorem dX12_readLine_39 : decode cX12_readLine 39 = .ok (.ifCond .ne 38, 3) := by decide +kernel
theorem dX12_readLine_42 : decode cX12_readLine 42 = .ok (.aload_n 0, 1) := by decide +kernel
theorem dX12_readLine_43 : decode cX12_readLine 43 = .ok (.ldc 213, 2) := by decide +kernel
theorem dX12_readLine_45 : decode cX12_readLine 45 = .ok (.invokevirtual 190, 3) := by decide +kernel
theorem dX12_readLine_48 : decode cX12_readLine 48 = .ok (.ifCond .ne 29, 3) := by decide +kernel
theorem dX12_readLine_51 : decode cX12_readLine 51 = .ok (.aload_n 0, 1) := by decide +kernel
theorem dX12_readLine_52 : decode cX12_readLine 52 = .ok (.ldc 215, 2) := by decide +kernel
theorem dX12_readLine_54 : decode cX12_readLine 54 = .ok (.invokevirtual 190, 3) := by decide +kernel
theorem dX12_readLine_57 : decode cX12_readLine 57 = .ok (.ifCond .ne 20, 3) := by decide +kernel
theorem dX12_readLine_60 : decode cX12_readLine 60 = .ok (.aload_n 0, 1) := by decide +kernel
theorem dX12_readLine_61 : decode cX12_readLine 61 = .ok (.ldc 225, 2) := by decide +kernel
theorem dX12_readLine_63 : decode cX12_readLine 63 = .ok (.invokevirtual 190, 3) := by decide +kernel
theorem dX12_readLine_66 : decode cX12_readLine 66 = .ok (.ifCond .ne 11, 3) := by decide +kernel
theorem dX12_readLine_69 : decode cX12_readLine 69 = .ok (.aload_n 0, 1) := by decide +kernel
theorem dX12_readLine_70 : decode cX12_readLine 70 = .ok (.iconst 1, 1) := by decide +kernel
theorem dX12_readLine_71 : decode cX12_readLine 71 = .ok (.invokevirtual 194, 3) := by decide +kernel
theorem dX12_readLine_74 : decode cX12_readLine 74 = .ok (.goto 28, 3) := by decide +kernel
theorem dX12_readLine_77 : decode cX12_readLine 77 = .ok (.aload_n 0, 1) := by decide +kernel
theorem dX12_readLine_78 : decode cX12_readLine 78 = .ok (.getfield 252, 3) := by decide +kernel
theorem dX12_readLine_81 : decode cX12_readLine 81 = .ok (.ifCond .eq 16, 3) := by decide +kernel
theorem dX12_readLine_84 : decode cX12_readLine 84 = .ok (.iload_n 2, 1) := by decide +kernel
theorem dX12_readLine_85 : decode cX12_readLine 85 = .ok (.ifCond .ne 17, 3) := by decide +kernel
theorem dX12_readLine_88 : decode cX12_readLine 88 = .ok (.aload_n 0, 1) := by decide +kernel
theorem dX12_readLine_89 : decode cX12_readLine 89 = .ok (.getfield 27, 3) := by decide +kernel
theorem dX12_readLine_92 : decode cX12_readLine 92 = .ok (.iload_n 1, 1) := by decide +kernel
theorem dX12_readLine_93 : decode cX12_readLine 93 = .ok (.iaload, 1) := by decide +kernel
theorem dX12_readLine_94 : decode cX12_readLine 94 = .ok (.ifCond .ne 8, 3) := by decide +kernel
theorem dX12_readLine_97 : decode cX12_readLine 97 = .ok (.aload_n 0, 1) := by decide +kernel
theorem dX12_readLine_98 : decode cX12_readLine 98 = .ok (.iconst 5, 1) := by decide +kernel
theorem dX12_readLine_99 : decode cX12_readLine 99 = .ok (.invokevirtual 194, 3) := by decide +kernel
theorem dX12_readLine_102 : decode cX12_readLine 102 = .ok (.aload_n 0, 1) := by decide +kernel
theorem dX12_readLine_103 : decode cX12_readLine 103 = .ok (.getfield 130, 3) := by decide +kernel
theorem dX12_readLine_106 : decode cX12_readLine 106 = .ok (.ifCond .le 4, 3) := by decide +kernel
theorem dX12_readLine_109 : decode cX12_readLine 109 = .ok (.return_, 1) := by decide +kernel
theorem dX12_readLine_110 : decode cX12_readLine 110 = .ok (.iload_n 2, 1) := by decide +kernel
theorem dX12_readLine_111 : decode cX12_readLine 111 = .ok (.ifCond .eq 11, 3) := by decide +kernel
theorem dX12_readLine_114 : decode cX12_readLine 114 = .ok (.aload_n 0, 1) := by decide +kernel
theorem dX12_readLine_115 : decode cX12_readLine 115 = .ok (.iload_n 1, 1) := by decide +kernel
theorem dX12_readLine_116 : decode cX12_readLine 116 = .ok (.invokevirtual 332, 3) := by decide +kernel
theorem dX12_readLine_119 : decode cX12_readLine 119 = .ok (.goto 42, 3) := by decide +kernel
theorem dX12_readLine_122 : decode cX12_readLine 122 = .ok (.aload_n 0, 1) := by decide +kernel
theorem dX12_readLine_123 : decode cX12_readLine 123 = .ok (.ldc 213, 2) := by decide +kernel
theorem dX12_readLine_125 : decode cX12_readLine 125 = .ok (.invokevirtual 190, 3) := by decide +kernel
theorem dX12_readLine_128 : decode cX12_readLine 128 = .ok (.ifCond .eq 11, 3) := by decide +kernel
theorem dX12_readLine_131 : decode cX12_readLine 131 = .ok (.aload_n 0, 1) := by decide +kernel
theorem dX12_readLine_132 : decode cX12_readLine 132 = .ok (.iload_n 1, 1) := by decide +kernel
theorem dX12_readLine_133 : decode cX12_readLine 133 = .ok (.invokevirtual 335, 3) := by decide +kernel
theorem dX12_readLine_136 : decode cX12_readLine 136 = .ok (.goto 25, 3) := by decide +kernel
theorem dX12_readLine_139 : decode cX12_readLine 139 = .ok (.aload_n 0, 1) := by decide +kernel
theorem dX12_readLine_140 : decode cX12_readLine 140 = .ok (.ldc 215, 2) := by decide +kernel
theorem dX12_readLine_142 : decode cX12_readLine 142 = .ok (.invokevirtual 190, 3) := by decide +kernel
theorem dX12_readLine_145 : decode cX12_readLine 145 = .ok (.ifCond .eq 11, 3) := by decide +kernel
theorem dX12_readLine_148 : decode cX12_readLine 148 = .ok (.aload_n 0, 1) := by decide +kernel
theorem dX12_readLine_149 : decode cX12_readLine 149 = .ok (.iload_n 1, 1) := by decide +kernel
theorem dX12_readLine_150 : decode cX12_readLine 150 = .ok (.invokevirtual 338, 3) := by decide +kernel
theorem dX12_readLine_153 : decode cX12_readLine 153 = .ok (.goto 8, 3) := by decide +kernel
theorem dX12_readLine_156 : decode cX12_readLine 156 = .ok (.aload_n 0, 1) := by decide +kernel
theorem dX12_readLine_157 : decode cX12_readLine 157 = .ok (.iload_n 1, 1) := by decide +kernel
theorem dX12_readLine_158 : decode cX12_readLine 158 = .ok (.invokevirtual 341, 3) := by decide +kernel
theorem dX12_readLine_161 : decode cX12_readLine 161 = .ok (.return_, 1) := by decide +kernel
theorem okX12_readLine_j102 {E : Ev} {X : Cx} {S : Sh} {Z : Option Nat} {Q : Hp → Prop} {h : Hp} {a0 : Nat} {x1 : Int32} {x2 : Int32} (O : Ok E X yX12_readLine cX12_readLine 3 none 74 2840 0 0 (qV S Z Q)) (hw : wX12_readLine_j102 S (fun i => E.2.2.2.2.1 i + 1) h a0 x1 x2 Q) : G E X 0 0 S Z h 102 [some (vr a0), some (vi x1), some (vi x2)] [] := by
  unfold wX12_readLine_j102 at hw
  refine g_aload_n O dX12_readLine_102 rfl ?_
  obtain ⟨c103, hw⟩ := hw
  refine gf_X12_fault O dX12_readLine_103 fl_X12_130 c103 ?_
  refine g_if_le (tgt := 110) O dX12_readLine_106 rfl (fun q106 => ?_) (fun q106 => ?_)
  · have hw := hw.1 q106
    refine g_iload_n O dX12_readLine_110 rfl ?_
    refine g_if_eq (tgt := 122) O dX12_readLine_111 rfl (fun q111 => ?_) (fun q111 => ?_)
    · have hw := hw.1 q111
      refine g_aload_n O dX12_readLine_122 rfl ?_
      refine g_ldcS (i := 7) O dX12_readLine_123 rfl rfl rfl ?_
      refine g_callV (As := [vr (E.2.2.2.2.1 7 + 1)]) (rest := []) O ci_12 rfl dX12_readLine_125 ml_X12_190 im_yX12_isWord se_yX12_isWord ini_X12 co_yX12_isWord yo_yX12_isWord c103 rfl rfl (Nat.le_of_ble_eq_true rfl) ⟨by decide, by decide, by decide, by decide⟩ (okX12_isWord hw) (k_I fun r125 h125 hw => ?_)
      refine g_if_eq (tgt := 139) O dX12_readLine_128 rfl (fun q128 => ?_) (fun q128 => ?_)
      · have hw := hw.1 q128
        refine g_aload_n O dX12_readLine_139 rfl ?_
        refine g_ldcS (i := 8) O dX12_readLine_140 rfl rfl rfl ?_
        refine g_callV (As := [vr (E.2.2.2.2.1 8 + 1)]) (rest := []) O ci_12 rfl dX12_readLine_142 ml_X12_190 im_yX12_isWord se_yX12_isWord ini_X12 co_yX12_isWord yo_yX12_isWord c103 rfl rfl (Nat.le_of_ble_eq_true rfl) ⟨by decide, by decide, by decide, by decide⟩ (okX12_isWord hw) (k_I fun r142 h142 hw => ?_)
        refine g_if_eq (tgt := 156) O dX12_readLine_145 rfl (fun q145 => ?_) (fun q145 => ?_)
        · have hw := hw.1 q145
          refine g_aload_n O dX12_readLine_156 rfl ?_
          refine g_iload_n O dX12_readLine_157 rfl ?_
          refine g_callV (As := [vi x1]) (rest := []) O ci_12 rfl dX12_readLine_158 ml_X12_341 im_yX12_readVariant se_yX12_readVariant ini_X12 co_yX12_readVariant yo_yX12_readVariant c103 rfl rfl (Nat.le_of_ble_eq_true rfl) ⟨by decide, by decide, by decide, by decide⟩ (okX12_readVariant hw) (k_V fun h158 hw => ?_)
          exact g_return O dX12_readLine_161 ⟨rfl, rfl, rfl, hw⟩
        · have hw := hw.2 q145
          refine g_aload_n O dX12_readLine_148 rfl ?_
          refine g_iload_n O dX12_readLine_149 rfl ?_
          refine g_callV (As := [vi x1]) (rest := []) O ci_12 rfl dX12_readLine_150 ml_X12_338 im_yX12_readEvent se_yX12_readEvent ini_X12 co_yX12_readEvent yo_yX12_readEvent c103 rfl rfl (Nat.le_of_ble_eq_true rfl) ⟨by decide, by decide, by decide, by decide⟩ (okX12_readEvent hw) (k_V fun h150 hw => ?_)
          refine g_goto (tgt := 161) O dX12_readLine_153 rfl ?_
          exact g_return O dX12_readLine_161 ⟨rfl, rfl, rfl, hw⟩
      · have hw := hw.2 q128
        refine g_aload_n O dX12_readLine_131 rfl ?_
        refine g_iload_n O dX12_readLine_132 rfl ?_
        refine g_callV (As := [vi x1]) (rest := []) O ci_12 rfl dX12_readLine_133 ml_X12_335 im_yX12_readLaw se_yX12_readLaw ini_X12 co_yX12_readLaw yo_yX12_readLaw c103 rfl rfl (Nat.le_of_ble_eq_true rfl) ⟨by decide, by decide, by decide, by decide⟩ (okX12_readLaw hw) (k_V fun h133 hw => ?_)
        refine g_goto (tgt := 161) O dX12_readLine_136 rfl ?_
        exact g_return O dX12_readLine_161 ⟨rfl, rfl, rfl, hw⟩
    · have hw := hw.2 q111
      refine g_aload_n O dX12_readLine_114 rfl ?_
      refine g_iload_n O dX12_readLine_115 rfl ?_
      refine g_callV (As := [vi x1]) (rest := []) O ci_12 rfl dX12_readLine_116 ml_X12_332 im_yX12_readVar se_yX12_readVar ini_X12 co_yX12_readVar yo_yX12_readVar c103 rfl rfl (Nat.le_of_ble_eq_true rfl) ⟨by decide, by decide, by decide, by decide⟩ (okX12_readVar hw) (k_V fun h116 hw => ?_)
      refine g_goto (tgt := 161) O dX12_readLine_119 rfl ?_
      exact g_return O dX12_readLine_161 ⟨rfl, rfl, rfl, hw⟩
  · have hw := hw.2 q106
    exact g_return O dX12_readLine_109 ⟨rfl, rfl, rfl, hw⟩
theorem okX12_readLine_j97 {E : Ev} {X : Cx} {S : Sh} {Z : Option Nat} {Q : Hp → Prop} {h : Hp} {a0 : Nat} {x1 : Int32} {x2 : Int32} (O : Ok E X yX12_readLine cX12_readLine 3 none 74 2840 0 0 (qV S Z Q)) (hw : wX12_readLine_j97 S (fun i => E.2.2.2.2.1 i + 1) h a0 x1 x2 Q) : G E X 0 0 S Z h 97 [some (vr a0), some (vi x1), some (vi x2)] [] := by
  unfold wX12_readLine_j97 at hw
  refine g_aload_n O dX12_readLine_97 rfl ?_
  refine g_iconst O dX12_readLine_98 kv_5 ?_
  obtain ⟨c99, hw⟩ := hw
  refine g_callV (As := [vi (5 : Int32)]) (rest := []) O ci_12 rfl dX12_readLine_99 ml_X12_194 im_yX12_flaw se_yX12_flaw ini_X12 co_yX12_flaw yo_yX12_flaw c99 rfl rfl (Nat.le_of_ble_eq_true rfl) ⟨by decide, by decide, by decide, by decide⟩ (okX12_flaw hw) (k_V fun h99 hw => ?_)
  exact okX12_readLine_j102 O hw
theorem okX12_readLine_j77 {E : Ev} {X : Cx} {S : Sh} {Z : Option Nat} {Q : Hp → Prop} {h : Hp} {a0 : Nat} {x1 : Int32} {x2 : Int32} (O : Ok E X yX12_readLine cX12_readLine 3 none 74 2840 0 0 (qV S Z Q)) (hw : wX12_readLine_j77 S (fun i => E.2.2.2.2.1 i + 1) h a0 x1 x2 Q) : G E X 0 0 S Z h 77 [some (vr a0), some (vi x1), some (vi x2)] [] := by
  unfold wX12_readLine_j77 at hw
  refine g_aload_n O dX12_readLine_77 rfl ?_
  obtain ⟨c78, hw⟩ := hw
  refine gf_X12_readMany O dX12_readLine_78 fl_X12_252 c78 ?_
  refine g_if_eq (tgt := 97) O dX12_readLine_81 rfl (fun q81 => ?_) (fun q81 => ?_)
  · have hw := hw.1 q81
    exact okX12_readLine_j97 O hw
  · have hw := hw.2 q81
    refine g_iload_n O dX12_readLine_84 rfl ?_
    refine g_if_ne (tgt := 102) O dX12_readLine_85 rfl (fun q85 => ?_) (fun q85 => ?_)
    · have hw := hw.1 q85
      exact okX12_readLine_j102 O hw
    · have hw := hw.2 q85
      refine g_aload_n O dX12_readLine_88 rfl ?_
      refine gf_X12_varMany O dX12_readLine_89 fl_X12_27 c78 ?_
      refine g_iload_n O dX12_readLine_92 rfl ?_
      obtain ⟨c93, hw⟩ := hw
      refine g_iaload O dX12_readLine_93 c93.1 c93.2 ?_
      refine g_if_ne (tgt := 102) O dX12_readLine_94 rfl (fun q94 => ?_) (fun q94 => ?_)
      · have hw := hw.1 q94
        exact okX12_readLine_j102 O hw
      · have hw := hw.2 q94
        exact okX12_readLine_j97 O hw
theorem okX12_readLine {E : Ev} {S : Sh} {Z : Option Nat} {Q : Hp → Prop} {h : Hp} {a0 : Nat} (hw : wX12_readLine S (fun i => E.2.2.2.2.1 i + 1) h a0 Q) : Ct E yX12_readLine cX12_readLine 3 none 74 2840 0 0 S Z h [vr a0] (qV S Z Q) := by
  refine Ct.of (by decide) (lc := [some (vr a0), none, none]) (Nat.le_of_ble_eq_true rfl) rfl (fun X O => ?_)
  unfold wX12_readLine at hw
  refine g_aload_n O dX12_readLine_0 rfl ?_
  obtain ⟨c1, hw⟩ := hw
  refine gf_X12_fault O dX12_readLine_1 fl_X12_130 c1 ?_
  refine g_if_le (tgt := 8) O dX12_readLine_4 rfl (fun q4 => ?_) (fun q4 => ?_)
  · have hw := hw.1 q4
    refine g_iconst O dX12_readLine_8 kv_3 ?_
    refine g_aload_n O dX12_readLine_9 rfl ?_
    refine gf_X12_readMany O dX12_readLine_10 fl_X12_252 c1 ?_
    refine g_iadd O dX12_readLine_13 ?_
    refine g_iconst O dX12_readLine_14 kv_1 ?_
    refine g_isub O dX12_readLine_15 ?_
    refine g_nmI (fun xv16 e16 => ?_)
    have hw := hw xv16 e16
    refine g_istore_n (lc' := [some (vr a0), some (vi xv16), none]) O dX12_readLine_16 rfl (Nat.le_of_ble_eq_true rfl) rfl ?_
    refine g_aload_n O dX12_readLine_17 rfl ?_
    refine g_ldcS (i := 2) O dX12_readLine_18 rfl rfl rfl ?_
    refine g_callV (As := [vr (E.2.2.2.2.1 2 + 1)]) (rest := []) O ci_12 rfl dX12_readLine_20 ml_X12_190 im_yX12_isWord se_yX12_isWord ini_X12 co_yX12_isWord yo_yX12_isWord c1 rfl rfl (Nat.le_of_ble_eq_true rfl) ⟨by decide, by decide, by decide, by decide⟩ (okX12_isWord hw) (k_I fun r20 h20 hw => ?_)
    refine g_if_eq (tgt := 31) O dX12_readLine_23 rfl (fun q23 => ?_) (fun q23 => ?_)
    · have hw := hw.1 q23
      refine g_aload_n O dX12_readLine_31 rfl ?_
      refine g_ldcS (i := 3) O dX12_readLine_32 rfl rfl rfl ?_
      refine g_callV (As := [vr (E.2.2.2.2.1 3 + 1)]) (rest := []) O ci_12 rfl dX12_readLine_34 ml_X12_190 im_yX12_isWord se_yX12_isWord ini_X12 co_yX12_isWord yo_yX12_isWord c1 rfl rfl (Nat.le_of_ble_eq_true rfl) ⟨by decide, by decide, by decide, by decide⟩ (okX12_isWord hw) (k_I fun r34 h34 hw => ?_)
      refine g_istore_n (lc' := [some (vr a0), some (vi xv16), some (vi r34)]) O dX12_readLine_37 rfl (Nat.le_of_ble_eq_true rfl) rfl ?_
      refine g_iload_n O dX12_readLine_38 rfl ?_
      refine g_if_ne (tgt := 77) O dX12_readLine_39 rfl (fun q39 => ?_) (fun q39 => ?_)
      · have hw := hw.1 q39
        exact okX12_readLine_j77 O hw
      · have hw := hw.2 q39
        refine g_aload_n O dX12_readLine_42 rfl ?_
        refine g_ldcS (i := 7) O dX12_readLine_43 rfl rfl rfl ?_
        refine g_callV (As := [vr (E.2.2.2.2.1 7 + 1)]) (rest := []) O ci_12 rfl dX12_readLine_45 ml_X12_190 im_yX12_isWord se_yX12_isWord ini_X12 co_yX12_isWord yo_yX12_isWord c1 rfl rfl (Nat.le_of_ble_eq_true rfl) ⟨by decide, by decide, by decide, by decide⟩ (okX12_isWord hw) (k_I fun r45 h45 hw => ?_)
        refine g_if_ne (tgt := 77) O dX12_readLine_48 rfl (fun q48 => ?_) (fun q48 => ?_)
        · have hw := hw.1 q48
          exact okX12_readLine_j77 O hw
        · have hw := hw.2 q48
          refine g_aload_n O dX12_readLine_51 rfl ?_
          refine g_ldcS (i := 8) O dX12_readLine_52 rfl rfl rfl ?_
          refine g_callV (As := [vr (E.2.2.2.2.1 8 + 1)]) (rest := []) O ci_12 rfl dX12_readLine_54 ml_X12_190 im_yX12_isWord se_yX12_isWord ini_X12 co_yX12_isWord yo_yX12_isWord c1 rfl rfl (Nat.le_of_ble_eq_true rfl) ⟨by decide, by decide, by decide, by decide⟩ (okX12_isWord hw) (k_I fun r54 h54 hw => ?_)
          refine g_if_ne (tgt := 77) O dX12_readLine_57 rfl (fun q57 => ?_) (fun q57 => ?_)
          · have hw := hw.1 q57
            exact okX12_readLine_j77 O hw
          · have hw := hw.2 q57
            refine g_aload_n O dX12_readLine_60 rfl ?_
            refine g_ldcS (i := 13) O dX12_readLine_61 rfl rfl rfl ?_
            refine g_callV (As := [vr (E.2.2.2.2.1 13 + 1)]) (rest := []) O ci_12 rfl dX12_readLine_63 ml_X12_190 im_yX12_isWord se_yX12_isWord ini_X12 co_yX12_isWord yo_yX12_isWord c1 rfl rfl (Nat.le_of_ble_eq_true rfl) ⟨by decide, by decide, by decide, by decide⟩ (okX12_isWord hw) (k_I fun r63 h63 hw => ?_)
            refine g_if_ne (tgt := 77) O dX12_readLine_66 rfl (fun q66 => ?_) (fun q66 => ?_)
            · have hw := hw.1 q66
              exact okX12_readLine_j77 O hw
            · have hw := hw.2 q66
              refine g_aload_n O dX12_readLine_69 rfl ?_
              refine g_iconst O dX12_readLine_70 kv_1 ?_
              refine g_callV (As := [vi (1 : Int32)]) (rest := []) O ci_12 rfl dX12_readLine_71 ml_X12_194 im_yX12_flaw se_yX12_flaw ini_X12 co_yX12_flaw yo_yX12_flaw c1 rfl rfl (Nat.le_of_ble_eq_true rfl) ⟨by decide, by decide, by decide, by decide⟩ (okX12_flaw hw) (k_V fun h71 hw => ?_)
              refine g_goto (tgt := 102) O dX12_readLine_74 rfl ?_
              exact okX12_readLine_j102 O hw
    · have hw := hw.2 q23
      refine g_aload_n O dX12_readLine_26 rfl ?_
      refine g_callV (As := []) (rest := []) O ci_12 rfl dX12_readLine_27 ml_X12_329 im_yX12_readMachine se_yX12_readMachine ini_X12 co_yX12_readMachine yo_yX12_readMachine c1 rfl rfl (Nat.le_of_ble_eq_true rfl) ⟨by decide, by decide, by decide, by decide⟩ (okX12_readMachine hw) (k_V fun h27 hw => ?_)
      exact g_return O dX12_readLine_30 ⟨rfl, rfl, rfl, hw⟩
  · have hw := hw.2 q4
    exact g_return O dX12_readLine_7 ⟨rfl, rfl, rfl, hw⟩
theorem dX12_readAll_0 : decode cX12_readAll 0 = .ok (.aload_n 0, 1) := by decide +kernel
theorem dX12_readAll_1 : decode cX12_readAll 1 = .ok (.iconst 0, 1) := by decide +kernel
theorem dX12_readAll_2 : decode cX12_readAll 2 = .ok (.putfield 252, 3) := by decide +kernel
theorem dX12_readAll_5 : decode cX12_readAll 5 = .ok (.aload_n 0, 1) := by decide +kernel
theorem dX12_readAll_6 : decode cX12_readAll 6 = .ok (.iconst 0, 1) := by decide +kernel
theorem dX12_readAll_7 : decode cX12_readAll 7 = .ok (.putfield 239, 3) := by decide +kernel
theorem dX12_readAll_10 : decode cX12_readAll 10 = .ok (.aload_n 0, 1) := by decide +kernel
theorem dX12_readAll_11 : decode cX12_readAll 11 = .ok (.invokevirtual 198, 3) := by decide +kernel
theorem dX12_readAll_14 : decode cX12_readAll 14 = .ok (.aload_n 0, 1) := by decide +kernel
theorem dX12_readAll_15 : decode cX12_readAll 15 = .ok (.invokevirtual 344, 3) := by decide +kernel
theorem dX12_readAll_18 : decode cX12_readAll 18 = .ok (.aload_n 0, 1) := by decide +kernel
theorem dX12_readAll_19 : decode cX12_readAll 19 = .ok (.bipush 59, 2) := by decide +kernel
theorem dX12_readAll_21 : decode cX12_readAll 21 = .ok (.invokevirtual 281, 3) := by decide +kernel
theorem dX12_readAll_24 : decode cX12_readAll 24 = .ok (.ifCond .eq 10, 3) := by decide +kernel
theorem dX12_readAll_27 : decode cX12_readAll 27 = .ok (.aload_n 0, 1) := by decide +kernel
theorem dX12_readAll_28 : decode cX12_readAll 28 = .ok (.invokevirtual 344, 3) := by decide +kernel
theorem dX12_readAll_31 : decode cX12_readAll 31 = .ok (.goto (-13), 3) := by decide +kernel
theorem dX12_readAll_34 : decode cX12_readAll 34 = .ok (.aload_n 0, 1) := by decide +kernel
theorem dX12_readAll_35 : decode cX12_readAll 35 = .ok (.getfield 130, 3) := by decide +kernel
theorem dX12_readAll_38 : decode cX12_readAll 38 = .ok (.ifCond .ne 16, 3) := by decide +kernel
theorem dX12_readAll_41 : decode cX12_readAll 41 = .ok (.aload_n 0, 1) := by decide +kernel
theorem dX12_readAll_42 : decode cX12_readAll 42 = .ok (.getfield 149, 3) := by decide +kernel
theorem dX12_readAll_45 : decode cX12_readAll 45 = .ok (.iconst 1, 1) := by decide +kernel
theorem dX12_readAll_46 : decode cX12_readAll 46 = .ok (.if_icmp .eq 8, 3) := by decide +kernel
theorem dX12_readAll_49 : decode cX12_readAll 49 = .ok (.aload_n 0, 1) := by decide +kernel
theorem dX12_readAll_50 : decode cX12_readAll 50 = .ok (.iconst 1, 1) := by decide +kernel
theorem dX12_readAll_51 : decode cX12_readAll 51 = .ok (.invokevirtual 194, 3) := by decide +kernel
theorem dX12_readAll_54 : decode cX12_readAll 54 = .ok (.aload_n 0, 1) := by decide +kernel
theorem dX12_readAll_55 : decode cX12_readAll 55 = .ok (.getfield 130, 3) := by decide +kernel
theorem dX12_readAll_58 : decode cX12_readAll 58 = .ok (.ifCond .ne 31, 3) := by decide +kernel
theorem dX12_readAll_61 : decode cX12_readAll 61 = .ok (.aload_n 0, 1) := by decide +kernel
theorem dX12_readAll_62 : decode cX12_readAll 62 = .ok (.getfield 252, 3) := by decide +kernel
theorem dX12_readAll_65 : decode cX12_readAll 65 = .ok (.ifCond .eq 19, 3) := by decide +kernel
theorem dX12_readAll_68 : decode cX12_readAll 68 = .ok (.aload_n 0, 1) := by decide +kernel
theorem dX12_readAll_69 : decode cX12_readAll 69 = .ok (.getfield 27, 3) := by decide +kernel
theorem dX12_readAll_72 : decode cX12_readAll 72 = .ok (.iconst 3, 1) := by decide +kernel
theorem dX12_readAll_73 : decode cX12_readAll 73 = .ok (.aload_n 0, 1) := by decide +kernel
theorem dX12_readAll_74 : decode cX12_readAll 74 = .ok (.getfield 252, 3) := by decide +kernel
theorem dX12_readAll_77 : decode cX12_readAll 77 = .ok (.iadd, 1) := by decide +kernel
theorem dX12_readAll_78 : decode cX12_readAll 78 = .ok (.iconst 1, 1) := by decide +kernel
theorem dX12_readAll_79 : decode cX12_readAll 79 = .ok (.isub, 1) := by decide +kernel
theorem dX12_readAll_80 : decode cX12_readAll 80 = .ok (.iaload, 1) := by decide +kernel
theorem dX12_readAll_81 : decode cX12_readAll 81 = .ok (.ifCond .ne 8, 3) := by decide +kernel
theorem dX12_readAll_84 : decode cX12_readAll 84 = .ok (.aload_n 0, 1) := by decide +kernel
theorem dX12_readAll_85 : decode cX12_readAll 85 = .ok (.iconst 5, 1) := by decide +kernel
theorem dX12_readAll_86 : decode cX12_readAll 86 = .ok (.invokevirtual 194, 3) := by decide +kernel
theorem dX12_readAll_89 : decode cX12_readAll 89 = .ok (.return_, 1) := by decide +kernel
theorem okX12_readAll_j54 {E : Ev} {X : Cx} {S : Sh} {Z : Option Nat} {Q : Hp → Prop} {h : Hp} {a0 : Nat} (O : Ok E X yX12_readAll cX12_readAll 1 none 75 2862 0 0 (qV S Z Q)) (hw : wX12_readAll_j54 S (fun i => E.2.2.2.2.1 i + 1) h a0 Q) : G E X 0 0 S Z h 54 [some (vr a0)] [] := by
  unfold wX12_readAll_j54 at hw
  refine g_aload_n O dX12_readAll_54 rfl ?_
  obtain ⟨c55, hw⟩ := hw
  refine gf_X12_fault O dX12_readAll_55 fl_X12_130 c55 ?_
  refine g_if_ne (tgt := 89) O dX12_readAll_58 rfl (fun q58 => ?_) (fun q58 => ?_)
  · have hw := hw.1 q58
    exact g_return O dX12_readAll_89 ⟨rfl, rfl, rfl, hw⟩
  · have hw := hw.2 q58
    refine g_aload_n O dX12_readAll_61 rfl ?_
    refine gf_X12_readMany O dX12_readAll_62 fl_X12_252 c55 ?_
    refine g_if_eq (tgt := 84) O dX12_readAll_65 rfl (fun q65 => ?_) (fun q65 => ?_)
    · have hw := hw.1 q65
      refine g_aload_n O dX12_readAll_84 rfl ?_
      refine g_iconst O dX12_readAll_85 kv_5 ?_
      refine g_callV (As := [vi (5 : Int32)]) (rest := []) O ci_12 rfl dX12_readAll_86 ml_X12_194 im_yX12_flaw se_yX12_flaw ini_X12 co_yX12_flaw yo_yX12_flaw c55 rfl rfl (Nat.le_of_ble_eq_true rfl) ⟨by decide, by decide, by decide, by decide⟩ (okX12_flaw hw) (k_V fun h86 hw => ?_)
      exact g_return O dX12_readAll_89 ⟨rfl, rfl, rfl, hw⟩
    · have hw := hw.2 q65
      refine g_aload_n O dX12_readAll_68 rfl ?_
      refine gf_X12_varMany O dX12_readAll_69 fl_X12_27 c55 ?_
      refine g_iconst O dX12_readAll_72 kv_3 ?_
      refine g_aload_n O dX12_readAll_73 rfl ?_
      refine gf_X12_readMany O dX12_readAll_74 fl_X12_252 c55 ?_
      refine g_iadd O dX12_readAll_77 ?_
      refine g_iconst O dX12_readAll_78 kv_1 ?_
      refine g_isub O dX12_readAll_79 ?_
      obtain ⟨c80, hw⟩ := hw
      refine g_iaload O dX12_readAll_80 c80.1 c80.2 ?_
      refine g_if_ne (tgt := 89) O dX12_readAll_81 rfl (fun q81 => ?_) (fun q81 => ?_)
      · have hw := hw.1 q81
        exact g_return O dX12_readAll_89 ⟨rfl, rfl, rfl, hw⟩
      · have hw := hw.2 q81
        refine g_aload_n O dX12_readAll_84 rfl ?_
        refine g_iconst O dX12_readAll_85 kv_5 ?_
        refine g_callV (As := [vi (5 : Int32)]) (rest := []) O ci_12 rfl dX12_readAll_86 ml_X12_194 im_yX12_flaw se_yX12_flaw ini_X12 co_yX12_flaw yo_yX12_flaw c55 rfl rfl (Nat.le_of_ble_eq_true rfl) ⟨by decide, by decide, by decide, by decide⟩ (okX12_flaw hw) (k_V fun h86 hw => ?_)
        exact g_return O dX12_readAll_89 ⟨rfl, rfl, rfl, hw⟩
theorem okX12_readAll_j34 {E : Ev} {X : Cx} {S : Sh} {Z : Option Nat} {Q : Hp → Prop} {h : Hp} {a0 : Nat} (O : Ok E X yX12_readAll cX12_readAll 1 none 75 2862 0 0 (qV S Z Q)) (hw : wX12_readAll_j34 S (fun i => E.2.2.2.2.1 i + 1) h a0 Q) : G E X 0 0 S Z h 34 [some (vr a0)] [] := by
  unfold wX12_readAll_j34 at hw
  refine g_aload_n O dX12_readAll_34 rfl ?_
  obtain ⟨c35, hw⟩ := hw
  refine gf_X12_fault O dX12_readAll_35 fl_X12_130 c35 ?_
  refine g_if_ne (tgt := 54) O dX12_readAll_38 rfl (fun q38 => ?_) (fun q38 => ?_)
  · have hw := hw.1 q38
    exact okX12_readAll_j54 O hw
  · have hw := hw.2 q38
    refine g_aload_n O dX12_readAll_41 rfl ?_
    refine gf_X12_token O dX12_readAll_42 fl_X12_149 c35 ?_
    refine g_iconst O dX12_readAll_45 kv_1 ?_
    refine g_icmp_eq (tgt := 54) O dX12_readAll_46 rfl (fun q46 => ?_) (fun q46 => ?_)
    · have hw := hw.1 q46
      exact okX12_readAll_j54 O hw
    · have hw := hw.2 q46
      refine g_aload_n O dX12_readAll_49 rfl ?_
      refine g_iconst O dX12_readAll_50 kv_1 ?_
      refine g_callV (As := [vi (1 : Int32)]) (rest := []) O ci_12 rfl dX12_readAll_51 ml_X12_194 im_yX12_flaw se_yX12_flaw ini_X12 co_yX12_flaw yo_yX12_flaw c35 rfl rfl (Nat.le_of_ble_eq_true rfl) ⟨by decide, by decide, by decide, by decide⟩ (okX12_flaw hw) (k_V fun h51 hw => ?_)
      exact okX12_readAll_j54 O hw
theorem okX12_readAll_18 {E : Ev} {X : Cx} {S : Sh} {Z : Option Nat} {Q : Hp → Prop} {a0 : Nat} (O : Ok E X yX12_readAll cX12_readAll 1 none 75 2862 0 0 (qV S Z Q)) : ∀ (n : Nat) (h : Hp), wX12_readAll_18 S (fun i => E.2.2.2.2.1 i + 1) a0 Q n h → G E X 0 0 S Z h 18 [some (vr a0)] [] := by
  intro n
  induction n with
  | zero => intro h hw; exact hw.elim
  | succ n hB18 =>
    intro h hw
    have hw : wX12_readAll_18b S (fun i => E.2.2.2.2.1 i + 1) a0 Q (wX12_readAll_18 S (fun i => E.2.2.2.2.1 i + 1) a0 Q n) h := hw
    unfold wX12_readAll_18b at hw
    refine g_aload_n O dX12_readAll_18 rfl ?_
    refine g_bipush O dX12_readAll_19 kb_59 ?_
    obtain ⟨c21, hw⟩ := hw
    refine g_callV (As := [vi (59 : Int32)]) (rest := []) O ci_12 rfl dX12_readAll_21 ml_X12_281 im_yX12_passesSign se_yX12_passesSign ini_X12 co_yX12_passesSign yo_yX12_passesSign c21 rfl rfl (Nat.le_of_ble_eq_true rfl) ⟨by decide, by decide, by decide, by decide⟩ (okX12_passesSign hw) (k_I fun r21 h21 hw => ?_)
    refine g_if_eq (tgt := 34) O dX12_readAll_24 rfl (fun q24 => ?_) (fun q24 => ?_)
    · have hw := hw.1 q24
      exact okX12_readAll_j34 O hw
    · have hw := hw.2 q24
      refine g_aload_n O dX12_readAll_27 rfl ?_
      refine g_callV (As := []) (rest := []) O ci_12 rfl dX12_readAll_28 ml_X12_344 im_yX12_readLine se_yX12_readLine ini_X12 co_yX12_readLine yo_yX12_readLine c21 rfl rfl (Nat.le_of_ble_eq_true rfl) ⟨by decide, by decide, by decide, by decide⟩ (okX12_readLine hw) (k_V fun h28 hw => ?_)
      refine g_goto (tgt := 18) O dX12_readAll_31 rfl ?_
      exact hB18 _ hw
theorem okX12_readAll {E : Ev} {S : Sh} {Z : Option Nat} {Q : Hp → Prop} {h : Hp} {a0 : Nat} (hw : wX12_readAll S (fun i => E.2.2.2.2.1 i + 1) h a0 Q) : Ct E yX12_readAll cX12_readAll 1 none 75 2862 0 0 S Z h [vr a0] (qV S Z Q) := by
  refine Ct.of (by decide) (lc := [some (vr a0)]) (Nat.le_of_ble_eq_true rfl) rfl (fun X O => ?_)
  unfold wX12_readAll at hw
  refine g_aload_n O dX12_readAll_0 rfl ?_
  refine g_iconst O dX12_readAll_1 kv_0 ?_
  obtain ⟨c2, hw⟩ := hw
  refine pf_X12_readMany O dX12_readAll_2 fl_X12_252 c2 ?_
  refine g_nmH (fun h2 e2 => ?_)
  have hw := hw h2 e2
  refine g_aload_n O dX12_readAll_5 rfl ?_
  refine g_iconst O dX12_readAll_6 kv_0 ?_
  refine pf_X12_steps O dX12_readAll_7 fl_X12_239 c2 ?_
  refine g_aload_n O dX12_readAll_10 rfl ?_
  refine g_callV (As := []) (rest := []) O ci_12 rfl dX12_readAll_11 ml_X12_198 im_yX12_goOn se_yX12_goOn ini_X12 co_yX12_goOn yo_yX12_goOn c2 rfl rfl (Nat.le_of_ble_eq_true rfl) ⟨by decide, by decide, by decide, by decide⟩ (okX12_goOn hw) (k_V fun h11 hw => ?_)
  refine g_aload_n O dX12_readAll_14 rfl ?_
  refine g_callV (As := []) (rest := []) O ci_12 rfl dX12_readAll_15 ml_X12_344 im_yX12_readLine se_yX12_readLine ini_X12 co_yX12_readLine yo_yX12_readLine c2 rfl rfl (Nat.le_of_ble_eq_true rfl) ⟨by decide, by decide, by decide, by decide⟩ (okX12_readLine hw) (k_V fun h15 hw => ?_)
  obtain ⟨n18, hw⟩ := hw
  exact okX12_readAll_18 O n18 _ hw
