theorem dX6_fromFalsum_17 : decode cX6_fromFalsum 17 = .ok (.getfield 15, 3) := by decide +kernel
theorem dX6_fromFalsum_20 : decode cX6_fromFalsum 20 = .ok (.aload_n 0, 1) := by decide +kernel
theorem dX6_fromFalsum_21 : decode cX6_fromFalsum 21 = .ok (.getfield 21, 3) := by decide +kernel
theorem dX6_fromFalsum_24 : decode cX6_fromFalsum 24 = .ok (.iload_n 1, 1) := by decide +kernel
theorem dX6_fromFalsum_25 : decode cX6_fromFalsum 25 = .ok (.invokevirtual 128, 3) := by decide +kernel
theorem dX6_fromFalsum_28 : decode cX6_fromFalsum 28 = .ok (.invokevirtual 138, 3) := by decide +kernel
theorem dX6_fromFalsum_31 : decode cX6_fromFalsum 31 = .ok (.bipush 70, 2) := by decide +kernel
theorem dX6_fromFalsum_33 : decode cX6_fromFalsum 33 = .ok (.if_icmp .ne 7, 3) := by decide +kernel
theorem dX6_fromFalsum_36 : decode cX6_fromFalsum 36 = .ok (.iconst 1, 1) := by decide +kernel
theorem dX6_fromFalsum_37 : decode cX6_fromFalsum 37 = .ok (.goto 4, 3) := by decide +kernel
theorem dX6_fromFalsum_40 : decode cX6_fromFalsum 40 = .ok (.iconst 0, 1) := by decide +kernel
theorem dX6_fromFalsum_41 : decode cX6_fromFalsum 41 = .ok (.invokevirtual 100, 3) := by decide +kernel
theorem dX6_fromFalsum_44 : decode cX6_fromFalsum 44 = .ok (.aload_n 0, 1) := by decide +kernel
theorem dX6_fromFalsum_45 : decode cX6_fromFalsum 45 = .ok (.invokevirtual 104, 3) := by decide +kernel
theorem dX6_fromFalsum_48 : decode cX6_fromFalsum 48 = .ok (.aload_n 0, 1) := by decide +kernel
theorem dX6_fromFalsum_49 : decode cX6_fromFalsum 49 = .ok (.getfield 21, 3) := by decide +kernel
theorem dX6_fromFalsum_52 : decode cX6_fromFalsum 52 = .ok (.iload_n 2, 1) := by decide +kernel
theorem dX6_fromFalsum_53 : decode cX6_fromFalsum 53 = .ok (.bipush 120, 2) := by decide +kernel
theorem dX6_fromFalsum_55 : decode cX6_fromFalsum 55 = .ok (.iload_n 1, 1) := by decide +kernel
theorem dX6_fromFalsum_56 : decode cX6_fromFalsum 56 = .ok (.iconst (-1), 1) := by decide +kernel
theorem dX6_fromFalsum_57 : decode cX6_fromFalsum 57 = .ok (.invokevirtual 131, 3) := by decide +kernel
theorem dX6_fromFalsum_60 : decode cX6_fromFalsum 60 = .ok (.ireturn, 1) := by decide +kernel
theorem dX6_doubleNegation_0 : decode cX6_doubleNegation 0 = .ok (.aload_n 0, 1) := by decide +kernel
theorem dX6_doubleNegation_1 : decode cX6_doubleNegation 1 = .ok (.iload_n 1, 1) := by decide +kernel
theorem dX6_doubleNegation_2 : decode cX6_doubleNegation 2 = .ok (.invokevirtual 122, 3) := by decide +kernel
theorem dX6_doubleNegation_5 : decode cX6_doubleNegation 5 = .ok (.aload_n 0, 1) := by decide +kernel
theorem dX6_doubleNegation_6 : decode cX6_doubleNegation 6 = .ok (.iload_n 1, 1) := by decide +kernel
theorem dX6_doubleNegation_7 : decode cX6_doubleNegation 7 = .ok (.invokevirtual 125, 3) := by decide +kernel
theorem dX6_doubleNegation_10 : decode cX6_doubleNegation 10 = .ok (.aload_n 0, 1) := by decide +kernel
theorem dX6_doubleNegation_11 : decode cX6_doubleNegation 11 = .ok (.getfield 21, 3) := by decide +kernel
theorem dX6_doubleNegation_14 : decode cX6_doubleNegation 14 = .ok (.iload_n 1, 1) := by decide +kernel
theorem dX6_doubleNegation_15 : decode cX6_doubleNegation 15 = .ok (.invokevirtual 128, 3) := by decide +kernel
theorem dX6_doubleNegation_18 : decode cX6_doubleNegation 18 = .ok (.istore_n 2, 1) := by decide +kernel
theorem dX6_doubleNegation_19 : decode cX6_doubleNegation 19 = .ok (.aload_n 0, 1) := by decide +kernel
theorem dX6_doubleNegation_20 : decode cX6_doubleNegation 20 = .ok (.getfield 15, 3) := by decide +kernel
theorem dX6_doubleNegation_23 : decode cX6_doubleNegation 23 = .ok (.iload_n 2, 1) := by decide +kernel
theorem dX6_doubleNegation_24 : decode cX6_doubleNegation 24 = .ok (.invokevirtual 145, 3) := by decide +kernel
theorem dX6_doubleNegation_27 : decode cX6_doubleNegation 27 = .ok (.istore_n 3, 1) := by decide +kernel
theorem dX6_doubleNegation_28 : decode cX6_doubleNegation 28 = .ok (.aload_n 0, 1) := by decide +kernel
theorem dX6_doubleNegation_29 : decode cX6_doubleNegation 29 = .ok (.aload_n 0, 1) := by decide +kernel
theorem dX6_doubleNegation_30 : decode cX6_doubleNegation 30 = .ok (.getfield 15, 3) := by decide +kernel
theorem dX6_doubleNegation_33 : decode cX6_doubleNegation 33 = .ok (.iload_n 2, 1) := by decide +kernel
theorem dX6_doubleNegation_34 : decode cX6_doubleNegation 34 = .ok (.invokevirtual 138, 3) := by decide +kernel
theorem dX6_doubleNegation_37 : decode cX6_doubleNegation 37 = .ok (.bipush 78, 2) := by decide +kernel
theorem dX6_doubleNegation_39 : decode cX6_doubleNegation 39 = .ok (.if_icmp .ne 20, 3) := by decide +kernel
theorem dX6_doubleNegation_42 : decode cX6_doubleNegation 42 = .ok (.aload_n 0, 1) := by decide +kernel
theorem dX6_doubleNegation_43 : decode cX6_doubleNegation 43 = .ok (.getfield 15, 3) := by decide +kernel
theorem dX6_doubleNegation_46 : decode cX6_doubleNegation 46 = .ok (.iload_n 3, 1) := by decide +kernel
theorem dX6_doubleNegation_47 : decode cX6_doubleNegation 47 = .ok (.invokevirtual 138, 3) := by decide +kernel
theorem dX6_doubleNegation_50 : decode cX6_doubleNegation 50 = .ok (.bipush 78, 2) := by decide +kernel
theorem dX6_doubleNegation_52 : decode cX6_doubleNegation 52 = .ok (.if_icmp .ne 7, 3) := by decide +kernel
theorem dX6_doubleNegation_55 : decode cX6_doubleNegation 55 = .ok (.iconst 1, 1) := by decide +kernel
theorem dX6_doubleNegation_56 : decode cX6_doubleNegation 56 = .ok (.goto 4, 3) := by decide +kernel
theorem dX6_doubleNegation_59 : decode cX6_doubleNegation 59 = .ok (.iconst 0, 1) := by decide +kernel
theorem dX6_doubleNegation_60 : decode cX6_doubleNegation 60 = .ok (.invokevirtual 100, 3) := by decide +kernel
theorem dX6_doubleNegation_63 : decode cX6_doubleNegation 63 = .ok (.aload_n 0, 1) := by decide +kernel
theorem dX6_doubleNegation_64 : decode cX6_doubleNegation 64 = .ok (.invokevirtual 104, 3) := by decide +kernel
theorem dX6_doubleNegation_67 : decode cX6_doubleNegation 67 = .ok (.aload_n 0, 1) := by decide +kernel
theorem dX6_doubleNegation_68 : decode cX6_doubleNegation 68 = .ok (.getfield 21, 3) := by decide +kernel
theorem dX6_doubleNegation_71 : decode cX6_doubleNegation 71 = .ok (.aload_n 0, 1) := by decide +kernel
theorem dX6_doubleNegation_72 : decode cX6_doubleNegation 72 = .ok (.getfield 15, 3) := by decide +kernel
theorem dX6_doubleNegation_75 : decode cX6_doubleNegation 75 = .ok (.iload_n 3, 1) := by decide +kernel
theorem dX6_doubleNegation_76 : decode cX6_doubleNegation 76 = .ok (.invokevirtual 145, 3) := by decide +kernel
theorem dX6_doubleNegation_79 : decode cX6_doubleNegation 79 = .ok (.bipush 100, 2) := by decide +kernel
theorem dX6_doubleNegation_81 : decode cX6_doubleNegation 81 = .ok (.iload_n 1, 1) := by decide +kernel
theorem dX6_doubleNegation_82 : decode cX6_doubleNegation 82 = .ok (.iconst (-1), 1) := by decide +kernel
theorem dX6_doubleNegation_83 : decode cX6_doubleNegation 83 = .ok (.invokevirtual 131, 3) := by decide +kernel
theorem dX6_doubleNegation_86 : decode cX6_doubleNegation 86 = .ok (.ireturn, 1) := by decide +kernel
theorem dX6_newProof_0 : decode cX6_newProof 0 = .ok (.aload_n 0, 1) := by decide +kernel
theorem dX6_newProof_1 : decode cX6_newProof 1 = .ok (.getfield 21, 3) := by decide +kernel
theorem dX6_newProof_4 : decode cX6_newProof 4 = .ok (.getfield 164, 3) := by decide +kernel
theorem dX6_newProof_7 : decode cX6_newProof 7 = .ok (.istore_n 1, 1) := by decide +kernel
theorem dX6_newProof_8 : decode cX6_newProof 8 = .ok (.aload_n 0, 1) := by decide +kernel
theorem dX6_newProof_9 : decode cX6_newProof 9 = .ok (.getfield 21, 3) := by decide +kernel
theorem dX6_newProof_12 : decode cX6_newProof 12 = .ok (.invokevirtual 167, 3) := by decide +kernel
theorem dX6_newProof_15 : decode cX6_newProof 15 = .ok (.iload_n 1, 1) := by decide +kernel
theorem dX6_newProof_16 : decode cX6_newProof 16 = .ok (.ireturn, 1) := by decide +kernel
theorem dX6_keepLemma_0 : decode cX6_keepLemma 0 = .ok (.aload_n 0, 1) := by decide +kernel
theorem dX6_keepLemma_1 : decode cX6_keepLemma 1 = .ok (.invokevirtual 170, 3) := by decide +kernel
theorem dX6_keepLemma_4 : decode cX6_keepLemma 4 = .ok (.aload_n 0, 1) := by decide +kernel
theorem dX6_keepLemma_5 : decode cX6_keepLemma 5 = .ok (.aload_n 0, 1) := by decide +kernel
theorem dX6_keepLemma_6 : decode cX6_keepLemma 6 = .ok (.getfield 21, 3) := by decide +kernel
theorem dX6_keepLemma_9 : decode cX6_keepLemma 9 = .ok (.aload_n 0, 1) := by decide +kernel
theorem dX6_keepLemma_10 : decode cX6_keepLemma 10 = .ok (.getfield 21, 3) := by decide +kernel
theorem dX6_keepLemma_13 : decode cX6_keepLemma 13 = .ok (.getfield 164, 3) := by decide +kernel
theorem dX6_keepLemma_16 : decode cX6_keepLemma 16 = .ok (.iconst 1, 1) := by decide +kernel
theorem dX6_keepLemma_17 : decode cX6_keepLemma 17 = .ok (.isub, 1) := by decide +kernel
theorem dX6_keepLemma_18 : decode cX6_keepLemma 18 = .ok (.invokevirtual 173, 3) := by decide +kernel
theorem dX6_keepLemma_21 : decode cX6_keepLemma 21 = .ok (.iconst (-1), 1) := by decide +kernel
theorem dX6_keepLemma_22 : decode cX6_keepLemma 22 = .ok (.if_icmp .ne 7, 3) := by decide +kernel
theorem dX6_keepLemma_25 : decode cX6_keepLemma 25 = .ok (.iconst 1, 1) := by decide +kernel
theorem dX6_keepLemma_26 : decode cX6_keepLemma 26 = .ok (.goto 4, 3) := by decide +kernel
theorem dX6_keepLemma_29 : decode cX6_keepLemma 29 = .ok (.iconst 0, 1) := by decide +kernel
theorem dX6_keepLemma_30 : decode cX6_keepLemma 30 = .ok (.invokevirtual 100, 3) := by decide +kernel
theorem dX6_keepLemma_33 : decode cX6_keepLemma 33 = .ok (.aload_n 0, 1) := by decide +kernel
theorem dX6_keepLemma_34 : decode cX6_keepLemma 34 = .ok (.aload_n 0, 1) := by decide +kernel
theorem dX6_keepLemma_35 : decode cX6_keepLemma 35 = .ok (.getfield 21, 3) := by decide +kernel
theorem dX6_keepLemma_38 : decode cX6_keepLemma 38 = .ok (.invokevirtual 176, 3) := by decide +kernel
theorem dX6_keepLemma_41 : decode cX6_keepLemma 41 = .ok (.iconst 2, 1) := by decide +kernel
theorem dX6_keepLemma_42 : decode cX6_keepLemma 42 = .ok (.if_icmp .gt 7, 3) := by decide +kernel
theorem dX6_keepLemma_45 : decode cX6_keepLemma 45 = .ok (.iconst 1, 1) := by decide +kernel
theorem dX6_keepLemma_46 : decode cX6_keepLemma 46 = .ok (.goto 4, 3) := by decide +kernel
theorem dX6_keepLemma_49 : decode cX6_keepLemma 49 = .ok (.iconst 0, 1) := by decide +kernel
theorem dX6_keepLemma_50 : decode cX6_keepLemma 50 = .ok (.invokevirtual 100, 3) := by decide +kernel
theorem dX6_keepLemma_53 : decode cX6_keepLemma 53 = .ok (.aload_n 0, 1) := by decide +kernel
theorem dX6_keepLemma_54 : decode cX6_keepLemma 54 = .ok (.getfield 28, 3) := by decide +kernel
theorem dX6_keepLemma_57 : decode cX6_keepLemma 57 = .ok (.getfield 179, 3) := by decide +kernel
theorem dX6_keepLemma_60 : decode cX6_keepLemma 60 = .ok (.bipush 8, 2) := by decide +kernel
theorem dX6_keepLemma_62 : decode cX6_keepLemma 62 = .ok (.if_icmp .lt 13, 3) := by decide +kernel
theorem dX6_keepLemma_65 : decode cX6_keepLemma 65 = .ok (.new 113, 3) := by decide +kernel
theorem dX6_keepLemma_68 : decode cX6_keepLemma 68 = .ok (.dup, 1) := by decide +kernel
theorem dX6_keepLemma_69 : decode cX6_keepLemma 69 = .ok (.ldc 180, 2) := by decide +kernel
theorem dX6_keepLemma_71 : decode cX6_keepLemma 71 = .ok (.invokespecial 117, 3) := by decide +kernel
theorem dX6_keepLemma_74 : decode cX6_keepLemma 74 = .ok (.athrow, 1) := by decide +kernel
theorem dX6_keepLemma_75 : decode cX6_keepLemma 75 = .ok (.aload_n 0, 1) := by decide +kernel
theorem dX6_keepLemma_76 : decode cX6_keepLemma 76 = .ok (.getfield 28, 3) := by decide +kernel
theorem dX6_keepLemma_79 : decode cX6_keepLemma 79 = .ok (.aload_n 0, 1) := by decide +kernel
theorem dX6_keepLemma_80 : decode cX6_keepLemma 80 = .ok (.getfield 21, 3) := by decide +kernel
theorem dX6_keepLemma_83 : decode cX6_keepLemma 83 = .ok (.invokevirtual 182, 3) := by decide +kernel
theorem dX6_keepLemma_86 : decode cX6_keepLemma 86 = .ok (.ireturn, 1) := by decide +kernel
theorem dX6_useLemma_0 : decode cX6_useLemma 0 = .ok (.aload_n 0, 1) := by decide +kernel
theorem dX6_useLemma_1 : decode cX6_useLemma 1 = .ok (.iload_n 1, 1) := by decide +kernel
theorem dX6_useLemma_2 : decode cX6_useLemma 2 = .ok (.invokevirtual 186, 3) := by decide +kernel
theorem dX6_useLemma_5 : decode cX6_useLemma 5 = .ok (.aload_n 0, 1) := by decide +kernel
theorem dX6_useLemma_6 : decode cX6_useLemma 6 = .ok (.getfield 28, 3) := by decide +kernel
theorem dX6_useLemma_9 : decode cX6_useLemma 9 = .ok (.iload_n 1, 1) := by decide +kernel
theorem dX6_useLemma_10 : decode cX6_useLemma 10 = .ok (.invokevirtual 189, 3) := by decide +kernel
theorem dX6_useLemma_13 : decode cX6_useLemma 13 = .ok (.ifCond .le 7, 3) := by decide +kernel
theorem dX6_useLemma_16 : decode cX6_useLemma 16 = .ok (.iconst 1, 1) := by decide +kernel
theorem dX6_useLemma_17 : decode cX6_useLemma 17 = .ok (.goto 4, 3) := by decide +kernel
theorem dX6_useLemma_20 : decode cX6_useLemma 20 = .ok (.iconst 0, 1) := by decide +kernel
theorem dX6_useLemma_21 : decode cX6_useLemma 21 = .ok (.istore 4, 2) := by decide +kernel
theorem dX6_useLemma_23 : decode cX6_useLemma 23 = .ok (.aload_n 0, 1) := by decide +kernel
theorem dX6_useLemma_24 : decode cX6_useLemma 24 = .ok (.getfield 28, 3) := by decide +kernel
theorem dX6_useLemma_27 : decode cX6_useLemma 27 = .ok (.iload_n 1, 1) := by decide +kernel
theorem dX6_useLemma_28 : decode cX6_useLemma 28 = .ok (.invokevirtual 189, 3) := by decide +kernel
theorem dX6_useLemma_31 : decode cX6_useLemma 31 = .ok (.iconst 1, 1) := by decide +kernel
theorem dX6_useLemma_32 : decode cX6_useLemma 32 = .ok (.if_icmp .le 7, 3) := by decide +kernel
theorem dX6_useLemma_35 : decode cX6_useLemma 35 = .ok (.iconst 1, 1) := by decide +kernel
theorem dX6_useLemma_36 : decode cX6_useLemma 36 = .ok (.goto 4, 3) := by decide +kernel
theorem dX6_useLemma_39 : decode cX6_useLemma 39 = .ok (.iconst 0, 1) := by decide +kernel
theorem dX6_useLemma_40 : decode cX6_useLemma 40 = .ok (.istore 5, 2) := by decide +kernel
theorem dX6_useLemma_42 : decode cX6_useLemma 42 = .ok (.iload 4, 2) := by decide +kernel
theorem dX6_useLemma_44 : decode cX6_useLemma 44 = .ok (.ifCond .eq 8, 3) := by decide +kernel
theorem dX6_useLemma_47 : decode cX6_useLemma 47 = .ok (.aload_n 0, 1) := by decide +kernel
theorem dX6_useLemma_48 : decode cX6_useLemma 48 = .ok (.iload_n 2, 1) := by decide +kernel
theorem dX6_useLemma_49 : decode cX6_useLemma 49 = .ok (.invokevirtual 122, 3) := by decide +kernel
theorem dX6_useLemma_52 : decode cX6_useLemma 52 = .ok (.iload 5, 2) := by decide +kernel
theorem dX6_useLemma_54 : decode cX6_useLemma 54 = .ok (.ifCond .eq 8, 3) := by decide +kernel
theorem dX6_useLemma_57 : decode cX6_useLemma 57 = .ok (.aload_n 0, 1) := by decide +kernel
theorem dX6_useLemma_58 : decode cX6_useLemma 58 = .ok (.iload_n 3, 1) := by decide +kernel
theorem dX6_useLemma_59 : decode cX6_useLemma 59 = .ok (.invokevirtual 122, 3) := by decide +kernel
theorem dX6_useLemma_62 : decode cX6_useLemma 62 = .ok (.iload 4, 2) := by decide +kernel
theorem dX6_useLemma_64 : decode cX6_useLemma 64 = .ok (.ifCond .eq 8, 3) := by decide +kernel
theorem dX6_useLemma_67 : decode cX6_useLemma 67 = .ok (.aload_n 0, 1) := by decide +kernel
theorem dX6_useLemma_68 : decode cX6_useLemma 68 = .ok (.iload_n 2, 1) := by decide +kernel
theorem dX6_useLemma_69 : decode cX6_useLemma 69 = .ok (.invokevirtual 125, 3) := by decide +kernel
theorem dX6_useLemma_72 : decode cX6_useLemma 72 = .ok (.iload 5, 2) := by decide +kernel
theorem dX6_useLemma_74 : decode cX6_useLemma 74 = .ok (.ifCond .eq 8, 3) := by decide +kernel
theorem dX6_useLemma_77 : decode cX6_useLemma 77 = .ok (.aload_n 0, 1) := by decide +kernel
theorem dX6_useLemma_78 : decode cX6_useLemma 78 = .ok (.iload_n 3, 1) := by decide +kernel
theorem dX6_useLemma_79 : decode cX6_useLemma 79 = .ok (.invokevirtual 125, 3) := by decide +kernel
theorem dX6_useLemma_82 : decode cX6_useLemma 82 = .ok (.iload 4, 2) := by decide +kernel
theorem dX6_useLemma_84 : decode cX6_useLemma 84 = .ok (.ifCond .eq 7, 3) := by decide +kernel
theorem dX6_useLemma_87 : decode cX6_useLemma 87 = .ok (.iload_n 2, 1) := by decide +kernel
theorem dX6_useLemma_88 : decode cX6_useLemma 88 = .ok (.goto 4, 3) := by decide +kernel
theorem dX6_useLemma_91 : decode cX6_useLemma 91 = .ok (.iconst (-1), 1) := by decide +kernel
theorem dX6_useLemma_92 : decode cX6_useLemma 92 = .ok (.istore 6, 2) := by decide +kernel
theorem dX6_useLemma_94 : decode cX6_useLemma 94 = .ok (.iload 5, 2) := by decide +kernel
theorem dX6_useLemma_96 : decode cX6_useLemma 96 = .ok (.ifCond .eq 7, 3) := by decide +kernel
theorem dX6_useLemma_99 : decode cX6_useLemma 99 = .ok (.iload_n 3, 1) := by decide +kernel
theorem dX6_useLemma_100 : decode cX6_useLemma 100 = .ok (.goto 4, 3) := by decide +kernel
theorem dX6_useLemma_103 : decode cX6_useLemma 103 = .ok (.iconst (-1), 1) := by decide +kernel
theorem dX6_useLemma_104 : decode cX6_useLemma 104 = .ok (.istore 7, 2) := by decide +kernel
theorem dX6_useLemma_106 : decode cX6_useLemma 106 = .ok (.aload_n 0, 1) := by decide +kernel
theorem dX6_useLemma_107 : decode cX6_useLemma 107 = .ok (.aload_n 0, 1) := by decide +kernel
theorem dX6_useLemma_108 : decode cX6_useLemma 108 = .ok (.getfield 28, 3) := by decide +kernel
theorem dX6_useLemma_111 : decode cX6_useLemma 111 = .ok (.iload_n 1, 1) := by decide +kernel
theorem dX6_useLemma_112 : decode cX6_useLemma 112 = .ok (.aload_n 0, 1) := by decide +kernel
theorem dX6_useLemma_113 : decode cX6_useLemma 113 = .ok (.getfield 21, 3) := by decide +kernel
theorem dX6_useLemma_116 : decode cX6_useLemma 116 = .ok (.iload 6, 2) := by decide +kernel
theorem dX6_useLemma_118 : decode cX6_useLemma 118 = .ok (.invokevirtual 128, 3) := by decide +kernel
theorem dX6_useLemma_121 : decode cX6_useLemma 121 = .ok (.aload_n 0, 1) := by decide +kernel
theorem dX6_useLemma_122 : decode cX6_useLemma 122 = .ok (.getfield 21, 3) := by decide +kernel
theorem dX6_useLemma_125 : decode cX6_useLemma 125 = .ok (.iload 7, 2) := by decide +kernel
theorem dX6_useLemma_127 : decode cX6_useLemma 127 = .ok (.invokevirtual 128, 3) := by decide +kernel
theorem dX6_useLemma_130 : decode cX6_useLemma 130 = .ok (.invokevirtual 191, 3) := by decide +kernel
theorem dX6_useLemma_133 : decode cX6_useLemma 133 = .ok (.invokevirtual 100, 3) := by decide +kernel
theorem dX6_useLemma_136 : decode cX6_useLemma 136 = .ok (.aload_n 0, 1) := by decide +kernel
theorem dX6_useLemma_137 : decode cX6_useLemma 137 = .ok (.invokevirtual 104, 3) := by decide +kernel
theorem dX6_useLemma_140 : decode cX6_useLemma 140 = .ok (.aload_n 0, 1) := by decide +kernel
theorem dX6_useLemma_141 : decode cX6_useLemma 141 = .ok (.getfield 28, 3) := by decide +kernel
theorem dX6_useLemma_144 : decode cX6_useLemma 144 = .ok (.iload_n 1, 1) := by decide +kernel
theorem dX6_useLemma_145 : decode cX6_useLemma 145 = .ok (.aload_n 0, 1) := by decide +kernel
theorem dX6_useLemma_146 : decode cX6_useLemma 146 = .ok (.getfield 44, 3) := by decide +kernel
theorem dX6_useLemma_149 : decode cX6_useLemma 149 = .ok (.invokevirtual 195, 3) := by decide +kernel
theorem dX6_useLemma_152 : decode cX6_useLemma 152 = .ok (.aload_n 0, 1) := by decide +kernel
theorem dX6_useLemma_153 : decode cX6_useLemma 153 = .ok (.getfield 21, 3) := by decide +kernel
theorem dX6_useLemma_156 : decode cX6_useLemma 156 = .ok (.aload_n 0, 1) := by decide +kernel
theorem dX6_useLemma_157 : decode cX6_useLemma 157 = .ok (.getfield 15, 3) := by decide +kernel
theorem dX6_useLemma_160 : decode cX6_useLemma 160 = .ok (.aload_n 0, 1) := by decide +kernel
theorem dX6_useLemma_161 : decode cX6_useLemma 161 = .ok (.getfield 44, 3) := by decide +kernel
theorem dX6_useLemma_164 : decode cX6_useLemma 164 = .ok (.invokevirtual 199, 3) := by decide +kernel
theorem dX6_useLemma_167 : decode cX6_useLemma 167 = .ok (.invokestatic 56, 3) := by decide +kernel
theorem dX6_useLemma_170 : decode cX6_useLemma 170 = .ok (.bipush 76, 2) := by decide +kernel
theorem dX6_useLemma_172 : decode cX6_useLemma 172 = .ok (.iload 6, 2) := by decide +kernel
theorem dX6_useLemma_174 : decode cX6_useLemma 174 = .ok (.iload 7, 2) := by decide +kernel
theorem dX6_useLemma_176 : decode cX6_useLemma 176 = .ok (.invokevirtual 131, 3) := by decide +kernel
theorem dX6_useLemma_179 : decode cX6_useLemma 179 = .ok (.ireturn, 1) := by decide +kernel
theorem dX6_lemmas_0 : decode cX6_lemmas 0 = .ok (.aload_n 0, 1) := by decide +kernel
theorem dX6_lemmas_1 : decode cX6_lemmas 1 = .ok (.getfield 28, 3) := by decide +kernel
theorem dX6_lemmas_4 : decode cX6_lemmas 4 = .ok (.getfield 179, 3) := by decide +kernel
theorem dX6_lemmas_7 : decode cX6_lemmas 7 = .ok (.ireturn, 1) := by decide +kernel
theorem dX6_lines_0 : decode cX6_lines 0 = .ok (.aload_n 0, 1) := by decide +kernel
theorem dX6_lines_1 : decode cX6_lines 1 = .ok (.getfield 21, 3) := by decide +kernel
theorem dX6_lines_4 : decode cX6_lines 4 = .ok (.getfield 164, 3) := by decide +kernel
theorem dX6_lines_7 : decode cX6_lines 7 = .ok (.ireturn, 1) := by decide +kernel
theorem dX6_formulaOf_0 : decode cX6_formulaOf 0 = .ok (.aload_n 0, 1) := by decide +kernel
theorem dX6_formulaOf_1 : decode cX6_formulaOf 1 = .ok (.iload_n 1, 1) := by decide +kernel
theorem dX6_formulaOf_2 : decode cX6_formulaOf 2 = .ok (.invokevirtual 122, 3) := by decide +kernel
theorem dX6_formulaOf_5 : decode cX6_formulaOf 5 = .ok (.aload_n 0, 1) := by decide +kernel
theorem dX6_formulaOf_6 : decode cX6_formulaOf 6 = .ok (.getfield 21, 3) := by decide +kernel
theorem dX6_formulaOf_9 : decode cX6_formulaOf 9 = .ok (.iload_n 1, 1) := by decide +kernel
theorem dX6_formulaOf_10 : decode cX6_formulaOf 10 = .ok (.invokevirtual 128, 3) := by decide +kernel
theorem dX6_formulaOf_13 : decode cX6_formulaOf 13 = .ok (.ireturn, 1) := by decide +kernel
theorem dX6_ruleOf_0 : decode cX6_ruleOf 0 = .ok (.aload_n 0, 1) := by decide +kernel
theorem dX6_ruleOf_1 : decode cX6_ruleOf 1 = .ok (.iload_n 1, 1) := by decide +kernel
theorem dX6_ruleOf_2 : decode cX6_ruleOf 2 = .ok (.invokevirtual 122, 3) := by decide +kernel
theorem dX6_ruleOf_5 : decode cX6_ruleOf 5 = .ok (.aload_n 0, 1) := by decide +kernel
theorem dX6_ruleOf_6 : decode cX6_ruleOf 6 = .ok (.getfield 21, 3) := by decide +kernel
theorem dX6_ruleOf_9 : decode cX6_ruleOf 9 = .ok (.iload_n 1, 1) := by decide +kernel
theorem dX6_ruleOf_10 : decode cX6_ruleOf 10 = .ok (.invokevirtual 206, 3) := by decide +kernel
theorem dX6_ruleOf_13 : decode cX6_ruleOf 13 = .ok (.ireturn, 1) := by decide +kernel
theorem dX6_depthOf_0 : decode cX6_depthOf 0 = .ok (.aload_n 0, 1) := by decide +kernel
theorem dX6_depthOf_1 : decode cX6_depthOf 1 = .ok (.iload_n 1, 1) := by decide +kernel
theorem dX6_depthOf_2 : decode cX6_depthOf 2 = .ok (.invokevirtual 122, 3) := by decide +kernel
theorem dX6_depthOf_5 : decode cX6_depthOf 5 = .ok (.aload_n 0, 1) := by decide +kernel
theorem dX6_depthOf_6 : decode cX6_depthOf 6 = .ok (.getfield 21, 3) := by decide +kernel
theorem dX6_depthOf_9 : decode cX6_depthOf 9 = .ok (.iload_n 1, 1) := by decide +kernel
theorem dX6_depthOf_10 : decode cX6_depthOf 10 = .ok (.invokevirtual 209, 3) := by decide +kernel
theorem dX6_depthOf_13 : decode cX6_depthOf 13 = .ok (.ireturn, 1) := by decide +kernel
theorem dX6_canCite_0 : decode cX6_canCite 0 = .ok (.aload_n 0, 1) := by decide +kernel
theorem dX6_canCite_1 : decode cX6_canCite 1 = .ok (.iload_n 1, 1) := by decide +kernel
theorem dX6_canCite_2 : decode cX6_canCite 2 = .ok (.invokevirtual 122, 3) := by decide +kernel
theorem dX6_canCite_5 : decode cX6_canCite 5 = .ok (.aload_n 0, 1) := by decide +kernel
theorem dX6_canCite_6 : decode cX6_canCite 6 = .ok (.getfield 21, 3) := by decide +kernel
theorem dX6_canCite_9 : decode cX6_canCite 9 = .ok (.iload_n 1, 1) := by decide +kernel
theorem dX6_canCite_10 : decode cX6_canCite 10 = .ok (.invokevirtual 212, 3) := by decide +kernel
theorem dX6_canCite_13 : decode cX6_canCite 13 = .ok (.ireturn, 1) := by decide +kernel
theorem dX6_boxes_0 : decode cX6_boxes 0 = .ok (.aload_n 0, 1) := by decide +kernel
theorem dX6_boxes_1 : decode cX6_boxes 1 = .ok (.getfield 21, 3) := by decide +kernel
theorem dX6_boxes_4 : decode cX6_boxes 4 = .ok (.getfield 216, 3) := by decide +kernel
theorem dX6_boxes_7 : decode cX6_boxes 7 = .ok (.ireturn, 1) := by decide +kernel
theorem dX6_canCiteBox_0 : decode cX6_canCiteBox 0 = .ok (.aload_n 0, 1) := by decide +kernel
theorem dX6_canCiteBox_1 : decode cX6_canCiteBox 1 = .ok (.iload_n 1, 1) := by decide +kernel
theorem dX6_canCiteBox_2 : decode cX6_canCiteBox 2 = .ok (.invokevirtual 148, 3) := by decide +kernel
theorem dX6_canCiteBox_5 : decode cX6_canCiteBox 5 = .ok (.aload_n 0, 1) := by decide +kernel
theorem dX6_canCiteBox_6 : decode cX6_canCiteBox 6 = .ok (.getfield 21, 3) := by decide +kernel
theorem dX6_canCiteBox_9 : decode cX6_canCiteBox 9 = .ok (.iload_n 1, 1) := by decide +kernel
theorem dX6_canCiteBox_10 : decode cX6_canCiteBox 10 = .ok (.invokevirtual 219, 3) := by decide +kernel
theorem dX6_canCiteBox_13 : decode cX6_canCiteBox 13 = .ok (.ireturn, 1) := by decide +kernel
theorem dX6_resultOf_0 : decode cX6_resultOf 0 = .ok (.aload_n 0, 1) := by decide +kernel
theorem dX6_resultOf_1 : decode cX6_resultOf 1 = .ok (.iload_n 1, 1) := by decide +kernel
theorem dX6_resultOf_2 : decode cX6_resultOf 2 = .ok (.invokevirtual 148, 3) := by decide +kernel
theorem dX6_resultOf_5 : decode cX6_resultOf 5 = .ok (.aload_n 0, 1) := by decide +kernel
theorem dX6_resultOf_6 : decode cX6_resultOf 6 = .ok (.getfield 21, 3) := by decide +kernel
theorem dX6_resultOf_9 : decode cX6_resultOf 9 = .ok (.iload_n 1, 1) := by decide +kernel
theorem dX6_resultOf_10 : decode cX6_resultOf 10 = .ok (.invokevirtual 157, 3) := by decide +kernel
theorem dX6_resultOf_13 : decode cX6_resultOf 13 = .ok (.ireturn, 1) := by decide +kernel
theorem dX6_needed_0 : decode cX6_needed 0 = .ok (.aload_n 0, 1) := by decide +kernel
theorem dX6_needed_1 : decode cX6_needed 1 = .ok (.invokevirtual 170, 3) := by decide +kernel
theorem dX6_needed_4 : decode cX6_needed 4 = .ok (.aload_n 0, 1) := by decide +kernel
theorem dX6_needed_5 : decode cX6_needed 5 = .ok (.getfield 21, 3) := by decide +kernel
theorem dX6_needed_8 : decode cX6_needed 8 = .ok (.invokevirtual 222, 3) := by decide +kernel
theorem dX6_needed_11 : decode cX6_needed 11 = .ok (.ireturn, 1) := by decide +kernel
theorem dX6_distance_0 : decode cX6_distance 0 = .ok (.aload_n 0, 1) := by decide +kernel
theorem dX6_distance_1 : decode cX6_distance 1 = .ok (.iload_n 1, 1) := by decide +kernel
theorem dX6_distance_2 : decode cX6_distance 2 = .ok (.invokevirtual 60, 3) := by decide +kernel
theorem dX6_distance_5 : decode cX6_distance 5 = .ok (.aload_n 0, 1) := by decide +kernel
theorem dX6_distance_6 : decode cX6_distance 6 = .ok (.getfield 37, 3) := by decide +kernel
theorem dX6_distance_9 : decode cX6_distance 9 = .ok (.iload_n 1, 1) := by decide +kernel
theorem dX6_distance_10 : decode cX6_distance 10 = .ok (.invokevirtual 225, 3) := by decide +kernel
theorem dX6_distance_13 : decode cX6_distance 13 = .ok (.invokestatic 228, 3) := by decide +kernel
theorem dX6_distance_16 : decode cX6_distance 16 = .ok (.ireturn, 1) := by decide +kernel
theorem dX6_distanceByRounds_0 : decode cX6_distanceByRounds 0 = .ok (.aload_n 0, 1) := by decide +kernel
theorem dX6_distanceByRounds_1 : decode cX6_distanceByRounds 1 = .ok (.iload_n 1, 1) := by decide +kernel
theorem dX6_distanceByRounds_2 : decode cX6_distanceByRounds 2 = .ok (.invokevirtual 60, 3) := by decide +kernel
theorem dX6_distanceByRounds_5 : decode cX6_distanceByRounds 5 = .ok (.aload_n 0, 1) := by decide +kernel
theorem dX6_distanceByRounds_6 : decode cX6_distanceByRounds 6 = .ok (.getfield 37, 3) := by decide +kernel
theorem dX6_distanceByRounds_9 : decode cX6_distanceByRounds 9 = .ok (.iload_n 1, 1) := by decide +kernel
theorem dX6_distanceByRounds_10 : decode cX6_distanceByRounds 10 = .ok (.invokevirtual 231, 3) := by decide +kernel
theorem dX6_distanceByRounds_13 : decode cX6_distanceByRounds 13 = .ok (.invokestatic 228, 3) := by decide +kernel
theorem dX6_distanceByRounds_16 : decode cX6_distanceByRounds 16 = .ok (.ireturn, 1) := by decide +kernel
theorem dX6_normalStep_0 : decode cX6_normalStep 0 = .ok (.aload_n 0, 1) := by decide +kernel
theorem dX6_normalStep_1 : decode cX6_normalStep 1 = .ok (.iload_n 1, 1) := by decide +kernel
theorem dX6_normalStep_2 : decode cX6_normalStep 2 = .ok (.invokevirtual 60, 3) := by decide +kernel
theorem dX6_normalStep_5 : decode cX6_normalStep 5 = .ok (.aload_n 0, 1) := by decide +kernel
theorem dX6_normalStep_6 : decode cX6_normalStep 6 = .ok (.getfield 44, 3) := by decide +kernel
theorem dX6_normalStep_9 : decode cX6_normalStep 9 = .ok (.aload_n 0, 1) := by decide +kernel
theorem dX6_normalStep_10 : decode cX6_normalStep 10 = .ok (.getfield 15, 3) := by decide +kernel
theorem dX6_normalStep_13 : decode cX6_normalStep 13 = .ok (.iload_n 1, 1) := by decide +kernel
theorem dX6_normalStep_14 : decode cX6_normalStep 14 = .ok (.invokevirtual 234, 3) := by decide +kernel
theorem dX6_normalStep_17 : decode cX6_normalStep 17 = .ok (.aload_n 0, 1) := by decide +kernel
theorem dX6_normalStep_18 : decode cX6_normalStep 18 = .ok (.getfield 44, 3) := by decide +kernel
theorem dX6_normalStep_21 : decode cX6_normalStep 21 = .ok (.invokevirtual 238, 3) := by decide +kernel
theorem dX6_normalStep_24 : decode cX6_normalStep 24 = .ok (.ifCond .ne 13, 3) := by decide +kernel
theorem dX6_normalStep_27 : decode cX6_normalStep 27 = .ok (.new 73, 3) := by decide +kernel
theorem dX6_normalStep_30 : decode cX6_normalStep 30 = .ok (.dup, 1) := by decide +kernel
theorem dX6_normalStep_31 : decode cX6_normalStep 31 = .ok (.ldc 242, 2) := by decide +kernel
theorem dX6_normalStep_33 : decode cX6_normalStep 33 = .ok (.invokespecial 77, 3) := by decide +kernel
theorem dX6_normalStep_36 : decode cX6_normalStep 36 = .ok (.athrow, 1) := by decide +kernel
theorem dX6_normalStep_37 : decode cX6_normalStep 37 = .ok (.aload_n 0, 1) := by decide +kernel
theorem dX6_normalStep_38 : decode cX6_normalStep 38 = .ok (.getfield 15, 3) := by decide +kernel
theorem dX6_normalStep_41 : decode cX6_normalStep 41 = .ok (.aload_n 0, 1) := by decide +kernel
theorem dX6_normalStep_42 : decode cX6_normalStep 42 = .ok (.getfield 44, 3) := by decide +kernel
theorem dX6_normalStep_45 : decode cX6_normalStep 45 = .ok (.invokevirtual 199, 3) := by decide +kernel
theorem dX6_normalStep_48 : decode cX6_normalStep 48 = .ok (.invokestatic 56, 3) := by decide +kernel
theorem dX6_normalStep_51 : decode cX6_normalStep 51 = .ok (.ireturn, 1) := by decide +kernel
theorem dX6_normalSteps_0 : decode cX6_normalSteps 0 = .ok (.aload_n 0, 1) := by decide +kernel
theorem dX6_normalSteps_1 : decode cX6_normalSteps 1 = .ok (.iload_n 1, 1) := by decide +kernel
theorem dX6_normalSteps_2 : decode cX6_normalSteps 2 = .ok (.invokevirtual 60, 3) := by decide +kernel
theorem dX6_normalSteps_5 : decode cX6_normalSteps 5 = .ok (.aload_n 0, 1) := by decide +kernel
theorem dX6_normalSteps_6 : decode cX6_normalSteps 6 = .ok (.getfield 44, 3) := by decide +kernel
theorem dX6_normalSteps_9 : decode cX6_normalSteps 9 = .ok (.aload_n 0, 1) := by decide +kernel
theorem dX6_normalSteps_10 : decode cX6_normalSteps 10 = .ok (.getfield 15, 3) := by decide +kernel
theorem dX6_normalSteps_13 : decode cX6_normalSteps 13 = .ok (.iload_n 1, 1) := by decide +kernel
theorem dX6_normalSteps_14 : decode cX6_normalSteps 14 = .ok (.invokevirtual 234, 3) := by decide +kernel
theorem dX6_normalSteps_17 : decode cX6_normalSteps 17 = .ok (.aload_n 0, 1) := by decide +kernel
theorem dX6_normalSteps_18 : decode cX6_normalSteps 18 = .ok (.getfield 44, 3) := by decide +kernel
theorem dX6_normalSteps_21 : decode cX6_normalSteps 21 = .ok (.invokevirtual 244, 3) := by decide +kernel
theorem dX6_normalSteps_24 : decode cX6_normalSteps 24 = .ok (.ireturn, 1) := by decide +kernel
theorem dX6_normalForm_0 : decode cX6_normalForm 0 = .ok (.aload_n 0, 1) := by decide +kernel
theorem dX6_normalForm_1 : decode cX6_normalForm 1 = .ok (.iload_n 1, 1) := by decide +kernel
theorem dX6_normalForm_2 : decode cX6_normalForm 2 = .ok (.invokevirtual 60, 3) := by decide +kernel
theorem dX6_normalForm_5 : decode cX6_normalForm 5 = .ok (.aload_n 0, 1) := by decide +kernel
theorem dX6_normalForm_6 : decode cX6_normalForm 6 = .ok (.getfield 44, 3) := by decide +kernel
theorem dX6_normalForm_9 : decode cX6_normalForm 9 = .ok (.aload_n 0, 1) := by decide +kernel
theorem dX6_normalForm_10 : decode cX6_normalForm 10 = .ok (.getfield 15, 3) := by decide +kernel
theorem dX6_normalForm_13 : decode cX6_normalForm 13 = .ok (.iload_n 1, 1) := by decide +kernel
theorem dX6_normalForm_14 : decode cX6_normalForm 14 = .ok (.invokevirtual 234, 3) := by decide +kernel
theorem dX6_normalForm_17 : decode cX6_normalForm 17 = .ok (.aload_n 0, 1) := by decide +kernel
theorem dX6_normalForm_18 : decode cX6_normalForm 18 = .ok (.getfield 44, 3) := by decide +kernel
theorem dX6_normalForm_21 : decode cX6_normalForm 21 = .ok (.invokevirtual 244, 3) := by decide +kernel
theorem dX6_normalForm_24 : decode cX6_normalForm 24 = .ok (.pop, 1) := by decide +kernel
theorem dX6_normalForm_25 : decode cX6_normalForm 25 = .ok (.aload_n 0, 1) := by decide +kernel
theorem dX6_normalForm_26 : decode cX6_normalForm 26 = .ok (.getfield 15, 3) := by decide +kernel
theorem dX6_normalForm_29 : decode cX6_normalForm 29 = .ok (.aload_n 0, 1) := by decide +kernel
theorem dX6_normalForm_30 : decode cX6_normalForm 30 = .ok (.getfield 44, 3) := by decide +kernel
theorem dX6_normalForm_33 : decode cX6_normalForm 33 = .ok (.invokevirtual 199, 3) := by decide +kernel
theorem dX6_normalForm_36 : decode cX6_normalForm 36 = .ok (.invokestatic 56, 3) := by decide +kernel
theorem dX6_normalForm_39 : decode cX6_normalForm 39 = .ok (.ireturn, 1) := by decide +kernel
theorem dX6_models_0 : decode cX6_models 0 = .ok (.aload_n 0, 1) := by decide +kernel
theorem dX6_models_1 : decode cX6_models 1 = .ok (.iload_n 1, 1) := by decide +kernel
theorem dX6_models_2 : decode cX6_models 2 = .ok (.invokevirtual 60, 3) := by decide +kernel
theorem dX6_models_5 : decode cX6_models 5 = .ok (.aload_n 0, 1) := by decide +kernel
theorem dX6_models_6 : decode cX6_models 6 = .ok (.getfield 15, 3) := by decide +kernel
theorem dX6_models_9 : decode cX6_models 9 = .ok (.iload_n 1, 1) := by decide +kernel
theorem dX6_models_10 : decode cX6_models 10 = .ok (.invokevirtual 247, 3) := by decide +kernel
theorem dX6_models_13 : decode cX6_models 13 = .ok (.invokestatic 250, 3) := by decide +kernel
theorem dX6_models_16 : decode cX6_models 16 = .ok (.ireturn, 1) := by decide +kernel
theorem dX6_modelsByRows_0 : decode cX6_modelsByRows 0 = .ok (.aload_n 0, 1) := by decide +kernel
theorem dX6_modelsByRows_1 : decode cX6_modelsByRows 1 = .ok (.iload_n 1, 1) := by decide +kernel
theorem dX6_modelsByRows_2 : decode cX6_modelsByRows 2 = .ok (.invokevirtual 60, 3) := by decide +kernel
theorem dX6_modelsByRows_5 : decode cX6_modelsByRows 5 = .ok (.iconst 0, 1) := by decide +kernel
theorem dX6_modelsByRows_6 : decode cX6_modelsByRows 6 = .ok (.istore_n 2, 1) := by decide +kernel
theorem dX6_modelsByRows_7 : decode cX6_modelsByRows 7 = .ok (.iconst 0, 1) := by decide +kernel
theorem dX6_modelsByRows_8 : decode cX6_modelsByRows 8 = .ok (.istore_n 3, 1) := by decide +kernel
theorem dX6_modelsByRows_9 : decode cX6_modelsByRows 9 = .ok (.iload_n 3, 1) := by decide +kernel
theorem dX6_modelsByRows_10 : decode cX6_modelsByRows 10 = .ok (.bipush 32, 2) := by decide +kernel
theorem dX6_modelsByRows_12 : decode cX6_modelsByRows 12 = .ok (.if_icmp .ge 24, 3) := by decide +kernel
theorem dX6_modelsByRows_15 : decode cX6_modelsByRows 15 = .ok (.aload_n 0, 1) := by decide +kernel
theorem dX6_modelsByRows_16 : decode cX6_modelsByRows 16 = .ok (.getfield 15, 3) := by decide +kernel
theorem dX6_modelsByRows_19 : decode cX6_modelsByRows 19 = .ok (.iload_n 1, 1) := by decide +kernel
theorem dX6_modelsByRows_20 : decode cX6_modelsByRows 20 = .ok (.iload_n 3, 1) := by decide +kernel
theorem dX6_modelsByRows_21 : decode cX6_modelsByRows 21 = .ok (.invokevirtual 255, 3) := by decide +kernel
theorem dX6_modelsByRows_24 : decode cX6_modelsByRows 24 = .ok (.ifCond .eq 6, 3) := by decide +kernel
theorem dX6_modelsByRows_27 : decode cX6_modelsByRows 27 = .ok (.iinc 2 1, 3) := by decide +kernel
theorem dX6_modelsByRows_30 : decode cX6_modelsByRows 30 = .ok (.iinc 3 1, 3) := by decide +kernel
theorem dX6_modelsByRows_33 : decode cX6_modelsByRows 33 = .ok (.goto (-24), 3) := by decide +kernel
theorem dX6_modelsByRows_36 : decode cX6_modelsByRows 36 = .ok (.iload_n 2, 1) := by decide +kernel
theorem dX6_modelsByRows_37 : decode cX6_modelsByRows 37 = .ok (.ireturn, 1) := by decide +kernel
theorem dX6_follows_0 : decode cX6_follows 0 = .ok (.aload_n 0, 1) := by decide +kernel
theorem dX6_follows_1 : decode cX6_follows 1 = .ok (.iload_n 1, 1) := by decide +kernel
theorem dX6_follows_2 : decode cX6_follows 2 = .ok (.invokevirtual 60, 3) := by decide +kernel
theorem dX6_follows_5 : decode cX6_follows 5 = .ok (.aload_n 0, 1) := by decide +kernel
theorem dX6_follows_6 : decode cX6_follows 6 = .ok (.aload_n 0, 1) := by decide +kernel
theorem dX6_follows_7 : decode cX6_follows 7 = .ok (.getfield 21, 3) := by decide +kernel
theorem dX6_follows_10 : decode cX6_follows 10 = .ok (.invokevirtual 259, 3) := by decide +kernel
theorem dX6_follows_13 : decode cX6_follows 13 = .ok (.iload_n 1, 1) := by decide +kernel
theorem dX6_follows_14 : decode cX6_follows 14 = .ok (.invokevirtual 262, 3) := by decide +kernel
theorem dX6_follows_17 : decode cX6_follows 17 = .ok (.ireturn, 1) := by decide +kernel
theorem dX6_isSound_0 : decode cX6_isSound 0 = .ok (.aload_n 0, 1) := by decide +kernel
theorem dX6_isSound_1 : decode cX6_isSound 1 = .ok (.iload_n 1, 1) := by decide +kernel
theorem dX6_isSound_2 : decode cX6_isSound 2 = .ok (.invokevirtual 122, 3) := by decide +kernel
theorem dX6_isSound_5 : decode cX6_isSound 5 = .ok (.aload_n 0, 1) := by decide +kernel
theorem dX6_isSound_6 : decode cX6_isSound 6 = .ok (.aload_n 0, 1) := by decide +kernel
theorem dX6_isSound_7 : decode cX6_isSound 7 = .ok (.getfield 21, 3) := by decide +kernel
theorem dX6_isSound_10 : decode cX6_isSound 10 = .ok (.invokevirtual 265, 3) := by decide +kernel
theorem dX6_isSound_13 : decode cX6_isSound 13 = .ok (.aload_n 0, 1) := by decide +kernel
theorem dX6_isSound_14 : decode cX6_isSound 14 = .ok (.getfield 21, 3) := by decide +kernel
theorem dX6_isSound_17 : decode cX6_isSound 17 = .ok (.iload_n 1, 1) := by decide +kernel
theorem dX6_isSound_18 : decode cX6_isSound 18 = .ok (.invokevirtual 268, 3) := by decide +kernel
theorem dX6_isSound_21 : decode cX6_isSound 21 = .ok (.iand, 1) := by decide +kernel
theorem dX6_isSound_22 : decode cX6_isSound 22 = .ok (.aload_n 0, 1) := by decide +kernel
theorem dX6_isSound_23 : decode cX6_isSound 23 = .ok (.getfield 21, 3) := by decide +kernel
theorem dX6_isSound_26 : decode cX6_isSound 26 = .ok (.iload_n 1, 1) := by decide +kernel
theorem dX6_isSound_27 : decode cX6_isSound 27 = .ok (.invokevirtual 128, 3) := by decide +kernel
theorem dX6_isSound_30 : decode cX6_isSound 30 = .ok (.invokevirtual 262, 3) := by decide +kernel
theorem dX6_isSound_33 : decode cX6_isSound 33 = .ok (.ireturn, 1) := by decide +kernel
theorem dX6_share_0 : decode cX6_share 0 = .ok (.aload_n 0, 1) := by decide +kernel
theorem dX6_share_1 : decode cX6_share 1 = .ok (.iload_n 1, 1) := by decide +kernel
theorem dX6_share_2 : decode cX6_share 2 = .ok (.invokevirtual 60, 3) := by decide +kernel
theorem dX6_share_5 : decode cX6_share 5 = .ok (.aload_n 0, 1) := by decide +kernel
theorem dX6_share_6 : decode cX6_share 6 = .ok (.getfield 15, 3) := by decide +kernel
theorem dX6_share_9 : decode cX6_share 9 = .ok (.iload_n 1, 1) := by decide +kernel
theorem dX6_share_10 : decode cX6_share 10 = .ok (.invokevirtual 247, 3) := by decide +kernel
theorem dX6_share_13 : decode cX6_share 13 = .ok (.invokestatic 250, 3) := by decide +kernel
theorem dX6_share_16 : decode cX6_share 16 = .ok (.i2f, 1) := by decide +kernel
theorem dX6_share_17 : decode cX6_share 17 = .ok (.ldc_w 271, 3) := by decide +kernel
theorem dX6_share_20 : decode cX6_share 20 = .ok (.fdiv, 1) := by decide +kernel
theorem dX6_share_21 : decode cX6_share 21 = .ok (.freturn, 1) := by decide +kernel
theorem dX6_meanSize_0 : decode cX6_meanSize 0 = .ok (.aload_n 0, 1) := by decide +kernel
theorem dX6_meanSize_1 : decode cX6_meanSize 1 = .ok (.getfield 21, 3) := by decide +kernel
theorem dX6_meanSize_4 : decode cX6_meanSize 4 = .ok (.getfield 164, 3) := by decide +kernel
theorem dX6_meanSize_7 : decode cX6_meanSize 7 = .ok (.ifCond .ne 14, 3) := by decide +kernel
theorem dX6_meanSize_10 : decode cX6_meanSize 10 = .ok (.new 272, 3) := by decide +kernel
theorem dX6_meanSize_13 : decode cX6_meanSize 13 = .ok (.dup, 1) := by decide +kernel
theorem dX6_meanSize_14 : decode cX6_meanSize 14 = .ok (.ldc_w 274, 3) := by decide +kernel
theorem dX6_meanSize_17 : decode cX6_meanSize 17 = .ok (.invokespecial 276, 3) := by decide +kernel
theorem dX6_meanSize_20 : decode cX6_meanSize 20 = .ok (.athrow, 1) := by decide +kernel
theorem dX6_meanSize_21 : decode cX6_meanSize 21 = .ok (.aload_n 0, 1) := by decide +kernel
theorem dX6_meanSize_22 : decode cX6_meanSize 22 = .ok (.getfield 21, 3) := by decide +kernel
theorem dX6_meanSize_25 : decode cX6_meanSize 25 = .ok (.invokevirtual 277, 3) := by decide +kernel
theorem dX6_meanSize_28 : decode cX6_meanSize 28 = .ok (.i2d, 1) := by decide +kernel
theorem dX6_meanSize_29 : decode cX6_meanSize 29 = .ok (.aload_n 0, 1) := by decide +kernel
theorem dX6_meanSize_30 : decode cX6_meanSize 30 = .ok (.getfield 21, 3) := by decide +kernel
theorem dX6_meanSize_33 : decode cX6_meanSize 33 = .ok (.getfield 164, 3) := by decide +kernel
theorem dX6_meanSize_36 : decode cX6_meanSize 36 = .ok (.i2d, 1) := by decide +kernel
theorem dX6_meanSize_37 : decode cX6_meanSize 37 = .ok (.ddiv, 1) := by decide +kernel
theorem dX6_meanSize_38 : decode cX6_meanSize 38 = .ok (.dreturn, 1) := by decide +kernel
theorem dX6_connected_0 : decode cX6_connected 0 = .ok (.aload_n 0, 1) := by decide +kernel
theorem dX6_connected_1 : decode cX6_connected 1 = .ok (.iload_n 2, 1) := by decide +kernel
theorem dX6_connected_2 : decode cX6_connected 2 = .ok (.invokevirtual 60, 3) := by decide +kernel
theorem dX6_connected_5 : decode cX6_connected 5 = .ok (.aload_n 0, 1) := by decide +kernel
theorem dX6_connected_6 : decode cX6_connected 6 = .ok (.iload_n 3, 1) := by decide +kernel
theorem dX6_connected_7 : decode cX6_connected 7 = .ok (.invokevirtual 60, 3) := by decide +kernel
theorem dX6_connected_10 : decode cX6_connected 10 = .ok (.aload_n 0, 1) := by decide +kernel
theorem dX6_connected_11 : decode cX6_connected 11 = .ok (.getfield 15, 3) := by decide +kernel
theorem dX6_connected_14 : decode cX6_connected 14 = .ok (.iload_n 1, 1) := by decide +kernel
theorem dX6_connected_15 : decode cX6_connected 15 = .ok (.iload_n 2, 1) := by decide +kernel
theorem dX6_connected_16 : decode cX6_connected 16 = .ok (.iload_n 3, 1) := by decide +kernel
theorem dX6_connected_17 : decode cX6_connected 17 = .ok (.invokevirtual 52, 3) := by decide +kernel
theorem dX6_connected_20 : decode cX6_connected 20 = .ok (.invokestatic 56, 3) := by decide +kernel
theorem dX6_connected_23 : decode cX6_connected 23 = .ok (.ireturn, 1) := by decide +kernel
theorem dX6_isCovered_0 : decode cX6_isCovered 0 = .ok (.iload_n 1, 1) := by decide +kernel
theorem dX6_isCovered_1 : decode cX6_isCovered 1 = .ok (.aload_n 0, 1) := by decide +kernel
theorem dX6_isCovered_2 : decode cX6_isCovered 2 = .ok (.getfield 15, 3) := by decide +kernel
theorem dX6_isCovered_5 : decode cX6_isCovered 5 = .ok (.iload_n 2, 1) := by decide +kernel
theorem dX6_isCovered_6 : decode cX6_isCovered 6 = .ok (.invokevirtual 247, 3) := by decide +kernel
theorem dX6_isCovered_9 : decode cX6_isCovered 9 = .ok (.iconst (-1), 1) := by decide +kernel
theorem dX6_isCovered_10 : decode cX6_isCovered 10 = .ok (.ixor, 1) := by decide +kernel
theorem dX6_isCovered_11 : decode cX6_isCovered 11 = .ok (.iand, 1) := by decide +kernel
theorem dX6_isCovered_12 : decode cX6_isCovered 12 = .ok (.ifCond .ne 7, 3) := by decide +kernel
theorem dX6_isCovered_15 : decode cX6_isCovered 15 = .ok (.iconst 1, 1) := by decide +kernel
theorem dX6_isCovered_16 : decode cX6_isCovered 16 = .ok (.goto 4, 3) := by decide +kernel
theorem dX6_isCovered_19 : decode cX6_isCovered 19 = .ok (.iconst 0, 1) := by decide +kernel
theorem dX6_isCovered_20 : decode cX6_isCovered 20 = .ok (.ireturn, 1) := by decide +kernel
theorem dX6_requireLetter_0 : decode cX6_requireLetter 0 = .ok (.iload_n 1, 1) := by decide +kernel
theorem dX6_requireLetter_1 : decode cX6_requireLetter 1 = .ok (.ifCond .lt 8, 3) := by decide +kernel
theorem dX6_requireLetter_4 : decode cX6_requireLetter 4 = .ok (.iload_n 1, 1) := by decide +kernel
theorem dX6_requireLetter_5 : decode cX6_requireLetter 5 = .ok (.iconst 5, 1) := by decide +kernel
theorem dX6_requireLetter_6 : decode cX6_requireLetter 6 = .ok (.if_icmp .lt 14, 3) := by decide +kernel
theorem dX6_requireLetter_9 : decode cX6_requireLetter 9 = .ok (.new 280, 3) := by decide +kernel
theorem dX6_requireLetter_12 : decode cX6_requireLetter 12 = .ok (.dup, 1) := by decide +kernel
theorem dX6_requireLetter_13 : decode cX6_requireLetter 13 = .ok (.ldc_w 282, 3) := by decide +kernel
theorem dX6_requireLetter_16 : decode cX6_requireLetter 16 = .ok (.invokespecial 284, 3) := by decide +kernel
theorem dX6_requireLetter_19 : decode cX6_requireLetter 19 = .ok (.athrow, 1) := by decide +kernel
theorem dX6_requireLetter_20 : decode cX6_requireLetter 20 = .ok (.return_, 1) := by decide +kernel
theorem dX6_requireFormula_0 : decode cX6_requireFormula 0 = .ok (.aload_n 0, 1) := by decide +kernel
theorem dX6_requireFormula_1 : decode cX6_requireFormula 1 = .ok (.getfield 15, 3) := by decide +kernel
theorem dX6_requireFormula_4 : decode cX6_requireFormula 4 = .ok (.iload_n 1, 1) := by decide +kernel
theorem dX6_requireFormula_5 : decode cX6_requireFormula 5 = .ok (.invokevirtual 285, 3) := by decide +kernel
theorem dX6_requireFormula_8 : decode cX6_requireFormula 8 = .ok (.ifCond .ne 14, 3) := by decide +kernel
theorem dX6_requireFormula_11 : decode cX6_requireFormula 11 = .ok (.new 288, 3) := by decide +kernel
theorem dX6_requireFormula_14 : decode cX6_requireFormula 14 = .ok (.dup, 1) := by decide +kernel
theorem dX6_requireFormula_15 : decode cX6_requireFormula 15 = .ok (.ldc_w 290, 3) := by decide +kernel
theorem dX6_requireFormula_18 : decode cX6_requireFormula 18 = .ok (.invokespecial 292, 3) := by decide +kernel
theorem dX6_requireFormula_21 : decode cX6_requireFormula 21 = .ok (.athrow, 1) := by decide +kernel
theorem dX6_requireFormula_22 : decode cX6_requireFormula 22 = .ok (.return_, 1) := by decide +kernel
theorem dX6_requireLine_0 : decode cX6_requireLine 0 = .ok (.aload_n 0, 1) := by decide +kernel
theorem dX6_requireLine_1 : decode cX6_requireLine 1 = .ok (.getfield 21, 3) := by decide +kernel
theorem dX6_requireLine_4 : decode cX6_requireLine 4 = .ok (.iload_n 1, 1) := by decide +kernel
theorem dX6_requireLine_5 : decode cX6_requireLine 5 = .ok (.invokevirtual 293, 3) := by decide +kernel
theorem dX6_requireLine_8 : decode cX6_requireLine 8 = .ok (.ifCond .ne 14, 3) := by decide +kernel
theorem dX6_requireLine_11 : decode cX6_requireLine 11 = .ok (.new 288, 3) := by decide +kernel
theorem dX6_requireLine_14 : decode cX6_requireLine 14 = .ok (.dup, 1) := by decide +kernel
theorem dX6_requireLine_15 : decode cX6_requireLine 15 = .ok (.ldc_w 296, 3) := by decide +kernel
theorem dX6_requireLine_18 : decode cX6_requireLine 18 = .ok (.invokespecial 292, 3) := by decide +kernel
theorem dX6_requireLine_21 : decode cX6_requireLine 21 = .ok (.athrow, 1) := by decide +kernel
theorem dX6_requireLine_22 : decode cX6_requireLine 22 = .ok (.return_, 1) := by decide +kernel
theorem dX6_requireBox_0 : decode cX6_requireBox 0 = .ok (.aload_n 0, 1) := by decide +kernel
theorem dX6_requireBox_1 : decode cX6_requireBox 1 = .ok (.getfield 21, 3) := by decide +kernel
theorem dX6_requireBox_4 : decode cX6_requireBox 4 = .ok (.iload_n 1, 1) := by decide +kernel
theorem dX6_requireBox_5 : decode cX6_requireBox 5 = .ok (.invokevirtual 298, 3) := by decide +kernel
theorem dX6_requireBox_8 : decode cX6_requireBox 8 = .ok (.ifCond .ne 14, 3) := by decide +kernel
theorem dX6_requireBox_11 : decode cX6_requireBox 11 = .ok (.new 288, 3) := by decide +kernel
theorem dX6_requireBox_14 : decode cX6_requireBox 14 = .ok (.dup, 1) := by decide +kernel
theorem dX6_requireBox_15 : decode cX6_requireBox 15 = .ok (.ldc_w 301, 3) := by decide +kernel
theorem dX6_requireBox_18 : decode cX6_requireBox 18 = .ok (.invokespecial 292, 3) := by decide +kernel
theorem dX6_requireBox_21 : decode cX6_requireBox 21 = .ok (.athrow, 1) := by decide +kernel
theorem dX6_requireBox_22 : decode cX6_requireBox 22 = .ok (.return_, 1) := by decide +kernel
theorem dX6_requireLemma_0 : decode cX6_requireLemma 0 = .ok (.aload_n 0, 1) := by decide +kernel
theorem dX6_requireLemma_1 : decode cX6_requireLemma 1 = .ok (.getfield 28, 3) := by decide +kernel
theorem dX6_requireLemma_4 : decode cX6_requireLemma 4 = .ok (.iload_n 1, 1) := by decide +kernel
theorem dX6_requireLemma_5 : decode cX6_requireLemma 5 = .ok (.invokevirtual 303, 3) := by decide +kernel
theorem dX6_requireLemma_8 : decode cX6_requireLemma 8 = .ok (.ifCond .ne 14, 3) := by decide +kernel
theorem dX6_requireLemma_11 : decode cX6_requireLemma 11 = .ok (.new 288, 3) := by decide +kernel
theorem dX6_requireLemma_14 : decode cX6_requireLemma 14 = .ok (.dup, 1) := by decide +kernel
theorem dX6_requireLemma_15 : decode cX6_requireLemma 15 = .ok (.ldc_w 304, 3) := by decide +kernel
theorem dX6_requireLemma_18 : decode cX6_requireLemma 18 = .ok (.invokespecial 292, 3) := by decide +kernel
theorem dX6_requireLemma_21 : decode cX6_requireLemma 21 = .ok (.athrow, 1) := by decide +kernel
theorem dX6_requireLemma_22 : decode cX6_requireLemma 22 = .ok (.return_, 1) := by decide +kernel
theorem dX6_requireCitable_0 : decode cX6_requireCitable 0 = .ok (.aload_n 0, 1) := by decide +kernel
theorem dX6_requireCitable_1 : decode cX6_requireCitable 1 = .ok (.getfield 21, 3) := by decide +kernel
theorem dX6_requireCitable_4 : decode cX6_requireCitable 4 = .ok (.iload_n 1, 1) := by decide +kernel
theorem dX6_requireCitable_5 : decode cX6_requireCitable 5 = .ok (.invokevirtual 212, 3) := by decide +kernel
theorem dX6_requireCitable_8 : decode cX6_requireCitable 8 = .ok (.ifCond .ne 14, 3) := by decide +kernel
theorem dX6_requireCitable_11 : decode cX6_requireCitable 11 = .ok (.new 73, 3) := by decide +kernel
theorem dX6_requireCitable_14 : decode cX6_requireCitable 14 = .ok (.dup, 1) := by decide +kernel
theorem dX6_requireCitable_15 : decode cX6_requireCitable 15 = .ok (.ldc_w 306, 3) := by decide +kernel
theorem dX6_requireCitable_18 : decode cX6_requireCitable 18 = .ok (.invokespecial 77, 3) := by decide +kernel
theorem dX6_requireCitable_21 : decode cX6_requireCitable 21 = .ok (.athrow, 1) := by decide +kernel
theorem dX6_requireCitable_22 : decode cX6_requireCitable 22 = .ok (.return_, 1) := by decide +kernel
theorem dX6_requireCitableBox_0 : decode cX6_requireCitableBox 0 = .ok (.aload_n 0, 1) := by decide +kernel
theorem dX6_requireCitableBox_1 : decode cX6_requireCitableBox 1 = .ok (.getfield 21, 3) := by decide +kernel
theorem dX6_requireCitableBox_4 : decode cX6_requireCitableBox 4 = .ok (.iload_n 1, 1) := by decide +kernel
theorem dX6_requireCitableBox_5 : decode cX6_requireCitableBox 5 = .ok (.invokevirtual 219, 3) := by decide +kernel
theorem dX6_requireCitableBox_8 : decode cX6_requireCitableBox 8 = .ok (.ifCond .ne 14, 3) := by decide +kernel
theorem dX6_requireCitableBox_11 : decode cX6_requireCitableBox 11 = .ok (.new 73, 3) := by decide +kernel
theorem dX6_requireCitableBox_14 : decode cX6_requireCitableBox 14 = .ok (.dup, 1) := by decide +kernel
theorem dX6_requireCitableBox_15 : decode cX6_requireCitableBox 15 = .ok (.ldc_w 308, 3) := by decide +kernel
theorem dX6_requireCitableBox_18 : decode cX6_requireCitableBox 18 = .ok (.invokespecial 77, 3) := by decide +kernel
theorem dX6_requireCitableBox_21 : decode cX6_requireCitableBox 21 = .ok (.athrow, 1) := by decide +kernel
theorem dX6_requireCitableBox_22 : decode cX6_requireCitableBox 22 = .ok (.return_, 1) := by decide +kernel
theorem dX6_requireTwoLines_0 : decode cX6_requireTwoLines 0 = .ok (.aload_n 0, 1) := by decide +kernel
theorem dX6_requireTwoLines_1 : decode cX6_requireTwoLines 1 = .ok (.iload_n 1, 1) := by decide +kernel
theorem dX6_requireTwoLines_2 : decode cX6_requireTwoLines 2 = .ok (.invokevirtual 122, 3) := by decide +kernel
theorem dX6_requireTwoLines_5 : decode cX6_requireTwoLines 5 = .ok (.aload_n 0, 1) := by decide +kernel
theorem dX6_requireTwoLines_6 : decode cX6_requireTwoLines 6 = .ok (.iload_n 2, 1) := by decide +kernel
theorem dX6_requireTwoLines_7 : decode cX6_requireTwoLines 7 = .ok (.invokevirtual 122, 3) := by decide +kernel
theorem dX6_requireTwoLines_10 : decode cX6_requireTwoLines 10 = .ok (.aload_n 0, 1) := by decide +kernel
theorem dX6_requireTwoLines_11 : decode cX6_requireTwoLines 11 = .ok (.iload_n 1, 1) := by decide +kernel
theorem dX6_requireTwoLines_12 : decode cX6_requireTwoLines 12 = .ok (.invokevirtual 125, 3) := by decide +kernel
theorem dX6_requireTwoLines_15 : decode cX6_requireTwoLines 15 = .ok (.aload_n 0, 1) := by decide +kernel
theorem dX6_requireTwoLines_16 : decode cX6_requireTwoLines 16 = .ok (.iload_n 2, 1) := by decide +kernel
theorem dX6_requireTwoLines_17 : decode cX6_requireTwoLines 17 = .ok (.invokevirtual 125, 3) := by decide +kernel
theorem dX6_requireTwoLines_20 : decode cX6_requireTwoLines 20 = .ok (.return_, 1) := by decide +kernel
theorem dX6_requireLines_0 : decode cX6_requireLines 0 = .ok (.aload_n 0, 1) := by decide +kernel
theorem dX6_requireLines_1 : decode cX6_requireLines 1 = .ok (.getfield 21, 3) := by decide +kernel
theorem dX6_requireLines_4 : decode cX6_requireLines 4 = .ok (.getfield 164, 3) := by decide +kernel
theorem dX6_requireLines_7 : decode cX6_requireLines 7 = .ok (.ifCond .ne 14, 3) := by decide +kernel
theorem dX6_requireLines_10 : decode cX6_requireLines 10 = .ok (.new 73, 3) := by decide +kernel
theorem dX6_requireLines_13 : decode cX6_requireLines 13 = .ok (.dup, 1) := by decide +kernel
theorem dX6_requireLines_14 : decode cX6_requireLines 14 = .ok (.ldc_w 274, 3) := by decide +kernel
theorem dX6_requireLines_17 : decode cX6_requireLines 17 = .ok (.invokespecial 77, 3) := by decide +kernel
theorem dX6_requireLines_20 : decode cX6_requireLines 20 = .ok (.athrow, 1) := by decide +kernel
theorem dX6_requireLines_21 : decode cX6_requireLines 21 = .ok (.return_, 1) := by decide +kernel
theorem dX6_requireShape_0 : decode cX6_requireShape 0 = .ok (.iload_n 1, 1) := by decide +kernel
theorem dX6_requireShape_1 : decode cX6_requireShape 1 = .ok (.ifCond .ne 14, 3) := by decide +kernel
theorem dX6_requireShape_4 : decode cX6_requireShape 4 = .ok (.new 310, 3) := by decide +kernel
theorem dX6_requireShape_7 : decode cX6_requireShape 7 = .ok (.dup, 1) := by decide +kernel
theorem dX6_requireShape_8 : decode cX6_requireShape 8 = .ok (.ldc_w 312, 3) := by decide +kernel
theorem dX6_requireShape_11 : decode cX6_requireShape 11 = .ok (.invokespecial 314, 3) := by decide +kernel
theorem dX6_requireShape_14 : decode cX6_requireShape 14 = .ok (.athrow, 1) := by decide +kernel
theorem dX6_requireShape_15 : decode cX6_requireShape 15 = .ok (.return_, 1) := by decide +kernel
theorem dX6_requireRoom_0 : decode cX6_requireRoom 0 = .ok (.aload_n 0, 1) := by decide +kernel
theorem dX6_requireRoom_1 : decode cX6_requireRoom 1 = .ok (.getfield 21, 3) := by decide +kernel
theorem dX6_requireRoom_4 : decode cX6_requireRoom 4 = .ok (.getfield 164, 3) := by decide +kernel
theorem dX6_requireRoom_7 : decode cX6_requireRoom 7 = .ok (.bipush 60, 2) := by decide +kernel
theorem dX6_requireRoom_9 : decode cX6_requireRoom 9 = .ok (.if_icmp .lt 14, 3) := by decide +kernel
theorem dX6_requireRoom_12 : decode cX6_requireRoom 12 = .ok (.new 113, 3) := by decide +kernel
theorem dX6_requireRoom_15 : decode cX6_requireRoom 15 = .ok (.dup, 1) := by decide +kernel
theorem dX6_requireRoom_16 : decode cX6_requireRoom 16 = .ok (.ldc_w 315, 3) := by decide +kernel
theorem dX6_requireRoom_19 : decode cX6_requireRoom 19 = .ok (.invokespecial 117, 3) := by decide +kernel
theorem dX6_requireRoom_22 : decode cX6_requireRoom 22 = .ok (.athrow, 1) := by decide +kernel
theorem dX6_requireRoom_23 : decode cX6_requireRoom 23 = .ok (.return_, 1) := by decide +kernel
theorem dX6_made_0 : decode cX6_made 0 = .ok (.iload_n 0, 1) := by decide +kernel
theorem dX6_made_1 : decode cX6_made 1 = .ok (.iconst (-1), 1) := by decide +kernel
theorem dX6_made_2 : decode cX6_made 2 = .ok (.if_icmp .ne 14, 3) := by decide +kernel
theorem dX6_made_5 : decode cX6_made 5 = .ok (.new 113, 3) := by decide +kernel
theorem dX6_made_8 : decode cX6_made 8 = .ok (.dup, 1) := by decide +kernel
theorem dX6_made_9 : decode cX6_made 9 = .ok (.ldc_w 317, 3) := by decide +kernel
theorem dX6_made_12 : decode cX6_made 12 = .ok (.invokespecial 117, 3) := by decide +kernel
theorem dX6_made_15 : decode cX6_made 15 = .ok (.athrow, 1) := by decide +kernel
theorem dX6_made_16 : decode cX6_made 16 = .ok (.iload_n 0, 1) := by decide +kernel
theorem dX6_made_17 : decode cX6_made 17 = .ok (.ireturn, 1) := by decide +kernel
theorem dX6_found_0 : decode cX6_found 0 = .ok (.iload_n 0, 1) := by decide +kernel
theorem dX6_found_1 : decode cX6_found 1 = .ok (.iconst (-1), 1) := by decide +kernel
theorem dX6_found_2 : decode cX6_found 2 = .ok (.if_icmp .ne 14, 3) := by decide +kernel
theorem dX6_found_5 : decode cX6_found 5 = .ok (.new 73, 3) := by decide +kernel
theorem dX6_found_8 : decode cX6_found 8 = .ok (.dup, 1) := by decide +kernel
theorem dX6_found_9 : decode cX6_found 9 = .ok (.ldc_w 319, 3) := by decide +kernel
theorem dX6_found_12 : decode cX6_found 12 = .ok (.invokespecial 77, 3) := by decide +kernel
theorem dX6_found_15 : decode cX6_found 15 = .ok (.athrow, 1) := by decide +kernel
theorem dX6_found_16 : decode cX6_found 16 = .ok (.iload_n 0, 1) := by decide +kernel
theorem dX6_found_17 : decode cX6_found 17 = .ok (.ireturn, 1) := by decide +kernel
theorem dJx00060_init_a7421_0 : decode cJx00060_init_a7421 0 = .ok (.aload_n 0, 1) := by decide +kernel
theorem dJx00060_init_a7421_1 : decode cJx00060_init_a7421 1 = .ok (.aload_n 1, 1) := by decide +kernel
theorem dJx00060_init_a7421_2 : decode cJx00060_init_a7421 2 = .ok (.invokespecial 7, 3) := by decide +kernel
theorem dJx00060_init_a7421_5 : decode cJx00060_init_a7421 5 = .ok (.return_, 1) := by decide +kernel
theorem dJ6_bitCount_0f7a4_0 : decode cJ6_bitCount_0f7a4 0 = .ok (.iload_n 0, 1) := by decide +kernel
theorem dJ6_bitCount_0f7a4_1 : decode cJ6_bitCount_0f7a4 1 = .ok (.iload_n 0, 1) := by decide +kernel
theorem dJ6_bitCount_0f7a4_2 : decode cJ6_bitCount_0f7a4 2 = .ok (.iconst 1, 1) := by decide +kernel
theorem dJ6_bitCount_0f7a4_3 : decode cJ6_bitCount_0f7a4 3 = .ok (.iushr, 1) := by decide +kernel
theorem dJ6_bitCount_0f7a4_4 : decode cJ6_bitCount_0f7a4 4 = .ok (.ldc_w 265, 3) := by decide +kernel
theorem dJ6_bitCount_0f7a4_7 : decode cJ6_bitCount_0f7a4 7 = .ok (.iand, 1) := by decide +kernel
theorem dJ6_bitCount_0f7a4_8 : decode cJ6_bitCount_0f7a4 8 = .ok (.isub, 1) := by decide +kernel
theorem dJ6_bitCount_0f7a4_9 : decode cJ6_bitCount_0f7a4 9 = .ok (.istore_n 0, 1) := by decide +kernel
theorem dJ6_bitCount_0f7a4_10 : decode cJ6_bitCount_0f7a4 10 = .ok (.iload_n 0, 1) := by decide +kernel
theorem dJ6_bitCount_0f7a4_11 : decode cJ6_bitCount_0f7a4 11 = .ok (.ldc_w 266, 3) := by decide +kernel
theorem dJ6_bitCount_0f7a4_14 : decode cJ6_bitCount_0f7a4 14 = .ok (.iand, 1) := by decide +kernel
theorem dJ6_bitCount_0f7a4_15 : decode cJ6_bitCount_0f7a4 15 = .ok (.iload_n 0, 1) := by decide +kernel
theorem dJ6_bitCount_0f7a4_16 : decode cJ6_bitCount_0f7a4 16 = .ok (.iconst 2, 1) := by decide +kernel
theorem dJ6_bitCount_0f7a4_17 : decode cJ6_bitCount_0f7a4 17 = .ok (.iushr, 1) := by decide +kernel
theorem dJ6_bitCount_0f7a4_18 : decode cJ6_bitCount_0f7a4 18 = .ok (.ldc_w 266, 3) := by decide +kernel
theorem dJ6_bitCount_0f7a4_21 : decode cJ6_bitCount_0f7a4 21 = .ok (.iand, 1) := by decide +kernel
theorem dJ6_bitCount_0f7a4_22 : decode cJ6_bitCount_0f7a4 22 = .ok (.iadd, 1) := by decide +kernel
theorem dJ6_bitCount_0f7a4_23 : decode cJ6_bitCount_0f7a4 23 = .ok (.istore_n 0, 1) := by decide +kernel
theorem dJ6_bitCount_0f7a4_24 : decode cJ6_bitCount_0f7a4 24 = .ok (.iload_n 0, 1) := by decide +kernel
theorem dJ6_bitCount_0f7a4_25 : decode cJ6_bitCount_0f7a4 25 = .ok (.iload_n 0, 1) := by decide +kernel
theorem dJ6_bitCount_0f7a4_26 : decode cJ6_bitCount_0f7a4 26 = .ok (.iconst 4, 1) := by decide +kernel
theorem dJ6_bitCount_0f7a4_27 : decode cJ6_bitCount_0f7a4 27 = .ok (.iushr, 1) := by decide +kernel
theorem dJ6_bitCount_0f7a4_28 : decode cJ6_bitCount_0f7a4 28 = .ok (.iadd, 1) := by decide +kernel
theorem dJ6_bitCount_0f7a4_29 : decode cJ6_bitCount_0f7a4 29 = .ok (.ldc_w 267, 3) := by decide +kernel
theorem dJ6_bitCount_0f7a4_32 : decode cJ6_bitCount_0f7a4 32 = .ok (.iand, 1) := by decide +kernel
theorem dJ6_bitCount_0f7a4_33 : decode cJ6_bitCount_0f7a4 33 = .ok (.istore_n 0, 1) := by decide +kernel
theorem dJ6_bitCount_0f7a4_34 : decode cJ6_bitCount_0f7a4 34 = .ok (.iload_n 0, 1) := by decide +kernel
theorem dJ6_bitCount_0f7a4_35 : decode cJ6_bitCount_0f7a4 35 = .ok (.iload_n 0, 1) := by decide +kernel
theorem dJ6_bitCount_0f7a4_36 : decode cJ6_bitCount_0f7a4 36 = .ok (.bipush 8, 2) := by decide +kernel
theorem dJ6_bitCount_0f7a4_38 : decode cJ6_bitCount_0f7a4 38 = .ok (.iushr, 1) := by decide +kernel
theorem dJ6_bitCount_0f7a4_39 : decode cJ6_bitCount_0f7a4 39 = .ok (.iadd, 1) := by decide +kernel
theorem dJ6_bitCount_0f7a4_40 : decode cJ6_bitCount_0f7a4 40 = .ok (.istore_n 0, 1) := by decide +kernel
theorem dJ6_bitCount_0f7a4_41 : decode cJ6_bitCount_0f7a4 41 = .ok (.iload_n 0, 1) := by decide +kernel
theorem dJ6_bitCount_0f7a4_42 : decode cJ6_bitCount_0f7a4 42 = .ok (.iload_n 0, 1) := by decide +kernel
theorem dJ6_bitCount_0f7a4_43 : decode cJ6_bitCount_0f7a4 43 = .ok (.bipush 16, 2) := by decide +kernel
theorem dJ6_bitCount_0f7a4_45 : decode cJ6_bitCount_0f7a4 45 = .ok (.iushr, 1) := by decide +kernel
theorem dJ6_bitCount_0f7a4_46 : decode cJ6_bitCount_0f7a4 46 = .ok (.iadd, 1) := by decide +kernel
theorem dJ6_bitCount_0f7a4_47 : decode cJ6_bitCount_0f7a4 47 = .ok (.istore_n 0, 1) := by decide +kernel
theorem dJ6_bitCount_0f7a4_48 : decode cJ6_bitCount_0f7a4 48 = .ok (.iload_n 0, 1) := by decide +kernel
theorem dJ6_bitCount_0f7a4_49 : decode cJ6_bitCount_0f7a4 49 = .ok (.bipush 63, 2) := by decide +kernel
theorem dJ6_bitCount_0f7a4_51 : decode cJ6_bitCount_0f7a4 51 = .ok (.iand, 1) := by decide +kernel
theorem dJ6_bitCount_0f7a4_52 : decode cJ6_bitCount_0f7a4 52 = .ok (.ireturn, 1) := by decide +kernel
theorem dJ9_max_7cf53_0 : decode cJ9_max_7cf53 0 = .ok (.iload_n 0, 1) := by decide +kernel
theorem dJ9_max_7cf53_1 : decode cJ9_max_7cf53 1 = .ok (.iload_n 1, 1) := by decide +kernel
theorem dJ9_max_7cf53_2 : decode cJ9_max_7cf53 2 = .ok (.if_icmp .lt 7, 3) := by decide +kernel
theorem dJ9_max_7cf53_5 : decode cJ9_max_7cf53 5 = .ok (.iload_n 0, 1) := by decide +kernel
theorem dJ9_max_7cf53_6 : decode cJ9_max_7cf53 6 = .ok (.goto 4, 3) := by decide +kernel
theorem dJ9_max_7cf53_9 : decode cJ9_max_7cf53 9 = .ok (.iload_n 1, 1) := by decide +kernel
theorem dJ9_max_7cf53_10 : decode cJ9_max_7cf53 10 = .ok (.ireturn, 1) := by decide +kernel
theorem dJ0_charAt_5068e_0 : decode cJ0_charAt_5068e 0 = .ok (.aload_n 0, 1) := by decide +kernel
theorem dJ0_charAt_5068e_1 : decode cJ0_charAt_5068e 1 = .ok (.invokevirtual 492, 3) := by decide +kernel
theorem dJ0_charAt_5068e_4 : decode cJ0_charAt_5068e 4 = .ok (.ifCond .eq 12, 3) := by decide +kernel
theorem dJ0_charAt_5068e_7 : decode cJ0_charAt_5068e 7 = .ok (.aload_n 0, 1) := by decide +kernel
theorem dJ0_charAt_5068e_8 : decode cJ0_charAt_5068e 8 = .ok (.getfield 9, 3) := by decide +kernel
theorem dJ0_charAt_5068e_11 : decode cJ0_charAt_5068e 11 = .ok (.iload_n 1, 1) := by decide +kernel
theorem dJ0_charAt_5068e_12 : decode cJ0_charAt_5068e 12 = .ok (.invokestatic 495, 3) := by decide +kernel
theorem dJ0_charAt_5068e_15 : decode cJ0_charAt_5068e 15 = .ok (.ireturn, 1) := by decide +kernel
theorem dJ0_charAt_5068e_16 : decode cJ0_charAt_5068e 16 = .ok (.aload_n 0, 1) := by decide +kernel
theorem dJ0_charAt_5068e_17 : decode cJ0_charAt_5068e 17 = .ok (.getfield 9, 3) := by decide +kernel
theorem dJ0_charAt_5068e_20 : decode cJ0_charAt_5068e 20 = .ok (.iload_n 1, 1) := by decide +kernel
theorem dJ0_charAt_5068e_21 : decode cJ0_charAt_5068e 21 = .ok (.invokestatic 498, 3) := by decide +kernel
theorem dJ0_charAt_5068e_24 : decode cJ0_charAt_5068e 24 = .ok (.ireturn, 1) := by decide +kernel
theorem dJ0_isLatin1_aae02_0 : decode cJ0_isLatin1_aae02 0 = .ok (.getstatic 38, 3) := by decide +kernel
theorem dJ0_isLatin1_aae02_3 : decode cJ0_isLatin1_aae02 3 = .ok (.ifCond .eq 14, 3) := by decide +kernel
theorem dJ0_isLatin1_aae02_6 : decode cJ0_isLatin1_aae02 6 = .ok (.aload_n 0, 1) := by decide +kernel
theorem dJ0_isLatin1_aae02_7 : decode cJ0_isLatin1_aae02 7 = .ok (.getfield 15, 3) := by decide +kernel
theorem dJ0_isLatin1_aae02_10 : decode cJ0_isLatin1_aae02 10 = .ok (.ifCond .ne 7, 3) := by decide +kernel
theorem dJ0_isLatin1_aae02_13 : decode cJ0_isLatin1_aae02 13 = .ok (.iconst 1, 1) := by decide +kernel
theorem dJ0_isLatin1_aae02_14 : decode cJ0_isLatin1_aae02 14 = .ok (.goto 4, 3) := by decide +kernel
theorem dJ0_isLatin1_aae02_17 : decode cJ0_isLatin1_aae02 17 = .ok (.iconst 0, 1) := by decide +kernel
theorem dJ0_isLatin1_aae02_18 : decode cJ0_isLatin1_aae02 18 = .ok (.ireturn, 1) := by decide +kernel
theorem dJ0_checkIndex_df160_0 : decode cJ0_checkIndex_df160 0 = .ok (.iload_n 0, 1) := by decide +kernel
theorem dJ0_checkIndex_df160_1 : decode cJ0_checkIndex_df160 1 = .ok (.iload_n 1, 1) := by decide +kernel
theorem dJ0_checkIndex_df160_2 : decode cJ0_checkIndex_df160 2 = .ok (.getstatic 1053, 3) := by decide +kernel
theorem dJ0_checkIndex_df160_5 : decode cJ0_checkIndex_df160 5 = .ok (.invokestatic 1059, 3) := by decide +kernel
theorem dJ0_checkIndex_df160_8 : decode cJ0_checkIndex_df160 8 = .ok (.pop, 1) := by decide +kernel
theorem dJ0_checkIndex_df160_9 : decode cJ0_checkIndex_df160 9 = .ok (.return_, 1) := by decide +kernel
theorem dJ1_charAt_3b067_0 : decode cJ1_charAt_3b067 0 = .ok (.iload_n 1, 1) := by decide +kernel
theorem dJ1_charAt_3b067_1 : decode cJ1_charAt_3b067 1 = .ok (.aload_n 0, 1) := by decide +kernel
theorem dJ1_charAt_3b067_2 : decode cJ1_charAt_3b067 2 = .ok (.arraylength, 1) := by decide +kernel
theorem dJ1_charAt_3b067_3 : decode cJ1_charAt_3b067 3 = .ok (.invokestatic 9, 3) := by decide +kernel
theorem dJ1_charAt_3b067_6 : decode cJ1_charAt_3b067 6 = .ok (.aload_n 0, 1) := by decide +kernel
theorem dJ1_charAt_3b067_7 : decode cJ1_charAt_3b067 7 = .ok (.iload_n 1, 1) := by decide +kernel
theorem dJ1_charAt_3b067_8 : decode cJ1_charAt_3b067 8 = .ok (.baload, 1) := by decide +kernel
theorem dJ1_charAt_3b067_9 : decode cJ1_charAt_3b067 9 = .ok (.sipush 255, 3) := by decide +kernel
theorem dJ1_charAt_3b067_12 : decode cJ1_charAt_3b067 12 = .ok (.iand, 1) := by decide +kernel
theorem dJ1_charAt_3b067_13 : decode cJ1_charAt_3b067 13 = .ok (.i2c, 1) := by decide +kernel
theorem dJ1_charAt_3b067_14 : decode cJ1_charAt_3b067 14 = .ok (.ireturn, 1) := by decide +kernel
theorem dJ2_getChar_3b067_0 : decode cJ2_getChar_3b067 0 = .ok (.getstatic 44, 3) := by decide +kernel
theorem dJ2_getChar_3b067_3 : decode cJ2_getChar_3b067 3 = .ok (.ifCond .ne 25, 3) := by decide +kernel
theorem dJ2_getChar_3b067_6 : decode cJ2_getChar_3b067 6 = .ok (.iload_n 1, 1) := by decide +kernel
theorem dJ2_getChar_3b067_7 : decode cJ2_getChar_3b067 7 = .ok (.ifCond .lt 11, 3) := by decide +kernel
theorem dJ2_getChar_3b067_10 : decode cJ2_getChar_3b067 10 = .ok (.iload_n 1, 1) := by decide +kernel
theorem dJ2_getChar_3b067_11 : decode cJ2_getChar_3b067 11 = .ok (.aload_n 0, 1) := by decide +kernel
theorem dJ2_getChar_3b067_12 : decode cJ2_getChar_3b067 12 = .ok (.invokestatic 48, 3) := by decide +kernel
theorem dJ2_getChar_3b067_15 : decode cJ2_getChar_3b067 15 = .ok (.if_icmp .lt 13, 3) := by decide +kernel
theorem dJ2_getChar_3b067_18 : decode cJ2_getChar_3b067 18 = .ok (.new 52, 3) := by decide +kernel
theorem dJ2_getChar_3b067_21 : decode cJ2_getChar_3b067 21 = .ok (.dup, 1) := by decide +kernel
theorem dJ2_getChar_3b067_22 : decode cJ2_getChar_3b067 22 = .ok (.ldc 54, 2) := by decide +kernel
theorem dJ2_getChar_3b067_24 : decode cJ2_getChar_3b067 24 = .ok (.invokespecial 56, 3) := by decide +kernel
theorem dJ2_getChar_3b067_27 : decode cJ2_getChar_3b067 27 = .ok (.athrow, 1) := by decide +kernel
theorem dJ2_getChar_3b067_28 : decode cJ2_getChar_3b067 28 = .ok (.iload_n 1, 1) := by decide +kernel
theorem dJ2_getChar_3b067_29 : decode cJ2_getChar_3b067 29 = .ok (.iconst 1, 1) := by decide +kernel
theorem dJ2_getChar_3b067_30 : decode cJ2_getChar_3b067 30 = .ok (.ishl, 1) := by decide +kernel
theorem dJ2_getChar_3b067_31 : decode cJ2_getChar_3b067 31 = .ok (.istore_n 1, 1) := by decide +kernel
theorem dJ2_getChar_3b067_32 : decode cJ2_getChar_3b067 32 = .ok (.aload_n 0, 1) := by decide +kernel
theorem dJ2_getChar_3b067_33 : decode cJ2_getChar_3b067 33 = .ok (.iload_n 1, 1) := by decide +kernel
theorem dJ2_getChar_3b067_34 : decode cJ2_getChar_3b067 34 = .ok (.iinc 1 1, 3) := by decide +kernel
theorem dJ2_getChar_3b067_37 : decode cJ2_getChar_3b067 37 = .ok (.baload, 1) := by decide +kernel
theorem dJ2_getChar_3b067_38 : decode cJ2_getChar_3b067 38 = .ok (.sipush 255, 3) := by decide +kernel
theorem dJ2_getChar_3b067_41 : decode cJ2_getChar_3b067 41 = .ok (.iand, 1) := by decide +kernel
theorem dJ2_getChar_3b067_42 : decode cJ2_getChar_3b067 42 = .ok (.getstatic 59, 3) := by decide +kernel
theorem dJ2_getChar_3b067_45 : decode cJ2_getChar_3b067 45 = .ok (.ishl, 1) := by decide +kernel
theorem dJ2_getChar_3b067_46 : decode cJ2_getChar_3b067 46 = .ok (.aload_n 0, 1) := by decide +kernel
theorem dJ2_getChar_3b067_47 : decode cJ2_getChar_3b067 47 = .ok (.iload_n 1, 1) := by decide +kernel
theorem dJ2_getChar_3b067_48 : decode cJ2_getChar_3b067 48 = .ok (.baload, 1) := by decide +kernel
theorem dJ2_getChar_3b067_49 : decode cJ2_getChar_3b067 49 = .ok (.sipush 255, 3) := by decide +kernel
theorem dJ2_getChar_3b067_52 : decode cJ2_getChar_3b067 52 = .ok (.iand, 1) := by decide +kernel
theorem dJ2_getChar_3b067_53 : decode cJ2_getChar_3b067 53 = .ok (.getstatic 63, 3) := by decide +kernel
theorem dJ2_getChar_3b067_56 : decode cJ2_getChar_3b067 56 = .ok (.ishl, 1) := by decide +kernel
theorem dJ2_getChar_3b067_57 : decode cJ2_getChar_3b067 57 = .ok (.ior, 1) := by decide +kernel
theorem dJ2_getChar_3b067_58 : decode cJ2_getChar_3b067 58 = .ok (.i2c, 1) := by decide +kernel
theorem dJ2_getChar_3b067_59 : decode cJ2_getChar_3b067 59 = .ok (.ireturn, 1) := by decide +kernel
theorem dJ2_length_9d52b_0 : decode cJ2_length_9d52b 0 = .ok (.aload_n 0, 1) := by decide +kernel
theorem dJ2_length_9d52b_1 : decode cJ2_length_9d52b 1 = .ok (.arraylength, 1) := by decide +kernel
theorem dJ2_length_9d52b_2 : decode cJ2_length_9d52b 2 = .ok (.iconst 1, 1) := by decide +kernel
theorem dJ2_length_9d52b_3 : decode cJ2_length_9d52b 3 = .ok (.ishr, 1) := by decide +kernel
theorem dJ2_length_9d52b_4 : decode cJ2_length_9d52b 4 = .ok (.ireturn, 1) := by decide +kernel
theorem dJ2_charAt_3b067_0 : decode cJ2_charAt_3b067 0 = .ok (.iload_n 1, 1) := by decide +kernel
theorem dJ2_charAt_3b067_1 : decode cJ2_charAt_3b067 1 = .ok (.aload_n 0, 1) := by decide +kernel
theorem dJ2_charAt_3b067_2 : decode cJ2_charAt_3b067 2 = .ok (.invokestatic 67, 3) := by decide +kernel
theorem dJ2_charAt_3b067_5 : decode cJ2_charAt_3b067 5 = .ok (.aload_n 0, 1) := by decide +kernel
theorem dJ2_charAt_3b067_6 : decode cJ2_charAt_3b067 6 = .ok (.iload_n 1, 1) := by decide +kernel
theorem dJ2_charAt_3b067_7 : decode cJ2_charAt_3b067 7 = .ok (.invokestatic 71, 3) := by decide +kernel
theorem dJ2_charAt_3b067_10 : decode cJ2_charAt_3b067 10 = .ok (.ireturn, 1) := by decide +kernel
theorem dJ2_checkIndex_2214a_0 : decode cJ2_checkIndex_2214a 0 = .ok (.iload_n 0, 1) := by decide +kernel
theorem dJ2_checkIndex_2214a_1 : decode cJ2_checkIndex_2214a 1 = .ok (.aload_n 1, 1) := by decide +kernel
theorem dJ2_checkIndex_2214a_2 : decode cJ2_checkIndex_2214a 2 = .ok (.invokestatic 48, 3) := by decide +kernel
theorem dJ2_checkIndex_2214a_5 : decode cJ2_checkIndex_2214a 5 = .ok (.invokestatic 414, 3) := by decide +kernel
theorem dJ2_checkIndex_2214a_8 : decode cJ2_checkIndex_2214a 8 = .ok (.return_, 1) := by decide +kernel
theorem dJ3_checkIndex_8e157_0 : decode cJ3_checkIndex_8e157 0 = .ok (.iload_n 0, 1) := by decide +kernel
theorem dJ3_checkIndex_8e157_1 : decode cJ3_checkIndex_8e157 1 = .ok (.ifCond .lt 8, 3) := by decide +kernel
theorem dJ3_checkIndex_8e157_4 : decode cJ3_checkIndex_8e157 4 = .ok (.iload_n 0, 1) := by decide +kernel
theorem dJ3_checkIndex_8e157_5 : decode cJ3_checkIndex_8e157 5 = .ok (.iload_n 1, 1) := by decide +kernel
theorem dJ3_checkIndex_8e157_6 : decode cJ3_checkIndex_8e157 6 = .ok (.if_icmp .lt 10, 3) := by decide +kernel
theorem dJ3_checkIndex_8e157_9 : decode cJ3_checkIndex_8e157 9 = .ok (.aload_n 2, 1) := by decide +kernel
theorem dJ3_checkIndex_8e157_10 : decode cJ3_checkIndex_8e157 10 = .ok (.iload_n 0, 1) := by decide +kernel
theorem dJ3_checkIndex_8e157_11 : decode cJ3_checkIndex_8e157 11 = .ok (.iload_n 1, 1) := by decide +kernel
theorem dJ3_checkIndex_8e157_12 : decode cJ3_checkIndex_8e157 12 = .ok (.invokestatic 95, 3) := by decide +kernel
theorem dJ3_checkIndex_8e157_15 : decode cJ3_checkIndex_8e157 15 = .ok (.athrow, 1) := by decide +kernel
theorem dJ3_checkIndex_8e157_16 : decode cJ3_checkIndex_8e157 16 = .ok (.iload_n 0, 1) := by decide +kernel
theorem dJ3_checkIndex_8e157_17 : decode cJ3_checkIndex_8e157 17 = .ok (.ireturn, 1) := by decide +kernel
theorem dL_at_0 : decode cL_at 0 = .ok (.iload_n 1, 1) := by decide +kernel
theorem dL_at_1 : decode cL_at 1 = .ok (.aload_n 0, 1) := by decide +kernel
theorem dL_at_2 : decode cL_at 2 = .ok (.arraylength, 1) := by decide +kernel
theorem dL_at_3 : decode cL_at 3 = .ok (.if_icmp .ge 9, 3) := by decide +kernel
theorem dL_at_6 : decode cL_at 6 = .ok (.aload_n 0, 1) := by decide +kernel
theorem dL_at_7 : decode cL_at 7 = .ok (.iload_n 1, 1) := by decide +kernel
theorem dL_at_8 : decode cL_at 8 = .ok (.iaload, 1) := by decide +kernel
theorem dL_at_9 : decode cL_at 9 = .ok (.goto 4, 3) := by decide +kernel
theorem dL_at_12 : decode cL_at 12 = .ok (.iconst 0, 1) := by decide +kernel
theorem dL_at_13 : decode cL_at 13 = .ok (.ireturn, 1) := by decide +kernel
theorem dL_some_0 : decode cL_some 0 = .ok (.iload_n 0, 1) := by decide +kernel
theorem dL_some_1 : decode cL_some 1 = .ok (.iload_n 1, 1) := by decide +kernel
theorem dL_some_2 : decode cL_some 2 = .ok (.irem, 1) := by decide +kernel
theorem dL_some_3 : decode cL_some 3 = .ok (.istore_n 2, 1) := by decide +kernel
theorem dL_some_4 : decode cL_some 4 = .ok (.iload_n 2, 1) := by decide +kernel
theorem dL_some_5 : decode cL_some 5 = .ok (.ifCond .ge 9, 3) := by decide +kernel
theorem dL_some_8 : decode cL_some 8 = .ok (.iload_n 2, 1) := by decide +kernel
theorem dL_some_9 : decode cL_some 9 = .ok (.iload_n 1, 1) := by decide +kernel
theorem dL_some_10 : decode cL_some 10 = .ok (.iadd, 1) := by decide +kernel
theorem dL_some_11 : decode cL_some 11 = .ok (.goto 4, 3) := by decide +kernel
theorem dL_some_14 : decode cL_some 14 = .ok (.iload_n 2, 1) := by decide +kernel
theorem dL_some_15 : decode cL_some 15 = .ok (.ireturn, 1) := by decide +kernel
theorem dL_letter_0 : decode cL_letter 0 = .ok (.aload_n 0, 1) := by decide +kernel
theorem dL_letter_1 : decode cL_letter 1 = .ok (.iload_n 1, 1) := by decide +kernel
theorem dL_letter_2 : decode cL_letter 2 = .ok (.invokevirtual 7, 3) := by decide +kernel
theorem dL_letter_5 : decode cL_letter 5 = .ok (.ireturn, 1) := by decide +kernel
theorem dL_letter_6 : decode cL_letter 6 = .ok (.astore_n 2, 1) := by decide +kernel
theorem dL_letter_7 : decode cL_letter 7 = .ok (.sipush (-1001), 3) := by decide +kernel
theorem dL_letter_10 : decode cL_letter 10 = .ok (.ireturn, 1) := by decide +kernel
theorem dL_letter_11 : decode cL_letter 11 = .ok (.astore_n 2, 1) := by decide +kernel
theorem dL_letter_12 : decode cL_letter 12 = .ok (.sipush (-1002), 3) := by decide +kernel
theorem dL_letter_15 : decode cL_letter 15 = .ok (.ireturn, 1) := by decide +kernel
theorem dL_falsum_0 : decode cL_falsum 0 = .ok (.aload_n 0, 1) := by decide +kernel
theorem dL_falsum_1 : decode cL_falsum 1 = .ok (.invokevirtual 17, 3) := by decide +kernel
theorem dL_falsum_4 : decode cL_falsum 4 = .ok (.ireturn, 1) := by decide +kernel
theorem dL_falsum_5 : decode cL_falsum 5 = .ok (.astore_n 1, 1) := by decide +kernel
theorem dL_falsum_6 : decode cL_falsum 6 = .ok (.sipush (-1001), 3) := by decide +kernel
theorem dL_falsum_9 : decode cL_falsum 9 = .ok (.ireturn, 1) := by decide +kernel
theorem dL_joins_0 : decode cL_joins 0 = .ok (.iload_n 1, 1) := by decide +kernel
theorem dL_joins_1 : decode cL_joins 1 = .ok (.bipush 78, 2) := by decide +kernel
theorem dL_joins_3 : decode cL_joins 3 = .ok (.if_icmp .ne 11, 3) := by decide +kernel
theorem dL_joins_6 : decode cL_joins 6 = .ok (.aload_n 0, 1) := by decide +kernel
theorem dL_joins_7 : decode cL_joins 7 = .ok (.iload_n 2, 1) := by decide +kernel
theorem dL_joins_8 : decode cL_joins 8 = .ok (.invokevirtual 21, 3) := by decide +kernel
theorem dL_joins_11 : decode cL_joins 11 = .ok (.goto 39, 3) := by decide +kernel
theorem dL_joins_14 : decode cL_joins 14 = .ok (.iload_n 1, 1) := by decide +kernel
theorem dL_joins_15 : decode cL_joins 15 = .ok (.bipush 75, 2) := by decide +kernel
theorem dL_joins_17 : decode cL_joins 17 = .ok (.if_icmp .ne 12, 3) := by decide +kernel
theorem dL_joins_20 : decode cL_joins 20 = .ok (.aload_n 0, 1) := by decide +kernel
theorem dL_joins_21 : decode cL_joins 21 = .ok (.iload_n 2, 1) := by decide +kernel
theorem dL_joins_22 : decode cL_joins 22 = .ok (.iload_n 3, 1) := by decide +kernel
theorem dL_joins_23 : decode cL_joins 23 = .ok (.invokevirtual 24, 3) := by decide +kernel
theorem dL_joins_26 : decode cL_joins 26 = .ok (.goto 24, 3) := by decide +kernel
theorem dL_joins_29 : decode cL_joins 29 = .ok (.iload_n 1, 1) := by decide +kernel
theorem dL_joins_30 : decode cL_joins 30 = .ok (.bipush 65, 2) := by decide +kernel
theorem dL_joins_32 : decode cL_joins 32 = .ok (.if_icmp .ne 12, 3) := by decide +kernel
theorem dL_joins_35 : decode cL_joins 35 = .ok (.aload_n 0, 1) := by decide +kernel
theorem dL_joins_36 : decode cL_joins 36 = .ok (.iload_n 2, 1) := by decide +kernel
theorem dL_joins_37 : decode cL_joins 37 = .ok (.iload_n 3, 1) := by decide +kernel
theorem dL_joins_38 : decode cL_joins 38 = .ok (.invokevirtual 28, 3) := by decide +kernel
theorem dL_joins_41 : decode cL_joins 41 = .ok (.goto 9, 3) := by decide +kernel
theorem dL_joins_44 : decode cL_joins 44 = .ok (.aload_n 0, 1) := by decide +kernel
theorem dL_joins_45 : decode cL_joins 45 = .ok (.iload_n 2, 1) := by decide +kernel
theorem dL_joins_46 : decode cL_joins 46 = .ok (.iload_n 3, 1) := by decide +kernel
theorem dL_joins_47 : decode cL_joins 47 = .ok (.invokevirtual 31, 3) := by decide +kernel
theorem dL_joins_50 : decode cL_joins 50 = .ok (.ireturn, 1) := by decide +kernel
theorem dL_joins_51 : decode cL_joins 51 = .ok (.astore 4, 2) := by decide +kernel
theorem dL_joins_53 : decode cL_joins 53 = .ok (.sipush (-1001), 3) := by decide +kernel
theorem dL_joins_56 : decode cL_joins 56 = .ok (.ireturn, 1) := by decide +kernel
theorem dL_joins_57 : decode cL_joins 57 = .ok (.astore 4, 2) := by decide +kernel
theorem dL_joins_59 : decode cL_joins 59 = .ok (.sipush (-1002), 3) := by decide +kernel
theorem dL_joins_62 : decode cL_joins 62 = .ok (.ireturn, 1) := by decide +kernel
theorem dL_symbol_0 : decode cL_symbol 0 = .ok (.aload_n 0, 1) := by decide +kernel
theorem dL_symbol_1 : decode cL_symbol 1 = .ok (.iload_n 1, 1) := by decide +kernel
theorem dL_symbol_2 : decode cL_symbol 2 = .ok (.iload_n 2, 1) := by decide +kernel
theorem dL_symbol_3 : decode cL_symbol 3 = .ok (.invokevirtual 36, 3) := by decide +kernel
theorem dL_symbol_6 : decode cL_symbol 6 = .ok (.ireturn, 1) := by decide +kernel
theorem dL_symbol_7 : decode cL_symbol 7 = .ok (.astore_n 3, 1) := by decide +kernel
theorem dL_symbol_8 : decode cL_symbol 8 = .ok (.sipush (-1001), 3) := by decide +kernel
theorem dL_symbol_11 : decode cL_symbol 11 = .ok (.ireturn, 1) := by decide +kernel
theorem dL_symbol_12 : decode cL_symbol 12 = .ok (.astore_n 3, 1) := by decide +kernel
theorem dL_symbol_13 : decode cL_symbol 13 = .ok (.sipush (-1002), 3) := by decide +kernel
theorem dL_symbol_16 : decode cL_symbol 16 = .ok (.ireturn, 1) := by decide +kernel
theorem dL_binds_0 : decode cL_binds 0 = .ok (.aload_n 0, 1) := by decide +kernel
theorem dL_binds_1 : decode cL_binds 1 = .ok (.iload_n 1, 1) := by decide +kernel
theorem dL_binds_2 : decode cL_binds 2 = .ok (.iload_n 2, 1) := by decide +kernel
theorem dL_binds_3 : decode cL_binds 3 = .ok (.invokevirtual 42, 3) := by decide +kernel
theorem dL_binds_6 : decode cL_binds 6 = .ok (.ireturn, 1) := by decide +kernel
theorem dL_binds_7 : decode cL_binds 7 = .ok (.astore_n 3, 1) := by decide +kernel
theorem dL_binds_8 : decode cL_binds 8 = .ok (.sipush (-1002), 3) := by decide +kernel
theorem dL_binds_11 : decode cL_binds 11 = .ok (.ireturn, 1) := by decide +kernel
theorem dL_binds_12 : decode cL_binds 12 = .ok (.astore_n 3, 1) := by decide +kernel
theorem dL_binds_13 : decode cL_binds 13 = .ok (.sipush (-1001), 3) := by decide +kernel
theorem dL_binds_16 : decode cL_binds 16 = .ok (.ireturn, 1) := by decide +kernel
theorem dL_step_0 : decode cL_step 0 = .ok (.aload_n 0, 1) := by decide +kernel
theorem dL_step_1 : decode cL_step 1 = .ok (.iload_n 1, 1) := by decide +kernel
theorem dL_step_2 : decode cL_step 2 = .ok (.invokevirtual 45, 3) := by decide +kernel
theorem dL_step_5 : decode cL_step 5 = .ok (.ireturn, 1) := by decide +kernel
theorem dL_step_6 : decode cL_step 6 = .ok (.astore_n 2, 1) := by decide +kernel
theorem dL_step_7 : decode cL_step 7 = .ok (.sipush (-1001), 3) := by decide +kernel
theorem dL_step_10 : decode cL_step 10 = .ok (.ireturn, 1) := by decide +kernel
theorem dL_step_11 : decode cL_step 11 = .ok (.astore_n 2, 1) := by decide +kernel
theorem dL_step_12 : decode cL_step 12 = .ok (.sipush (-1002), 3) := by decide +kernel
theorem dL_step_15 : decode cL_step 15 = .ok (.ireturn, 1) := by decide +kernel
theorem dL_step_16 : decode cL_step 16 = .ok (.astore_n 2, 1) := by decide +kernel
theorem dL_step_17 : decode cL_step 17 = .ok (.sipush (-1003), 3) := by decide +kernel
theorem dL_step_20 : decode cL_step 20 = .ok (.ireturn, 1) := by decide +kernel
theorem dL_form_0 : decode cL_form 0 = .ok (.aload_n 0, 1) := by decide +kernel
theorem dL_form_1 : decode cL_form 1 = .ok (.iload_n 1, 1) := by decide +kernel
theorem dL_form_2 : decode cL_form 2 = .ok (.invokevirtual 48, 3) := by decide +kernel
theorem dL_form_5 : decode cL_form 5 = .ok (.ireturn, 1) := by decide +kernel
theorem dL_form_6 : decode cL_form 6 = .ok (.astore_n 2, 1) := by decide +kernel
theorem dL_form_7 : decode cL_form 7 = .ok (.sipush (-1001), 3) := by decide +kernel
theorem dL_form_10 : decode cL_form 10 = .ok (.ireturn, 1) := by decide +kernel
theorem dL_form_11 : decode cL_form 11 = .ok (.astore_n 2, 1) := by decide +kernel
theorem dL_form_12 : decode cL_form 12 = .ok (.sipush (-1002), 3) := by decide +kernel
theorem dL_form_15 : decode cL_form 15 = .ok (.ireturn, 1) := by decide +kernel
theorem dL_tells_0 : decode cL_tells 0 = .ok (.iload_n 2, 1) := by decide +kernel
theorem dL_tells_1 : decode cL_tells 1 = .ok (.ifCond .ne 11, 3) := by decide +kernel
theorem dL_tells_4 : decode cL_tells 4 = .ok (.aload_n 0, 1) := by decide +kernel
theorem dL_tells_5 : decode cL_tells 5 = .ok (.iload_n 1, 1) := by decide +kernel
theorem dL_tells_6 : decode cL_tells 6 = .ok (.invokevirtual 51, 3) := by decide +kernel
theorem dL_tells_9 : decode cL_tells 9 = .ok (.goto 34, 3) := by decide +kernel
theorem dL_tells_12 : decode cL_tells 12 = .ok (.iload_n 2, 1) := by decide +kernel
theorem dL_tells_13 : decode cL_tells 13 = .ok (.iconst 1, 1) := by decide +kernel
theorem dL_tells_14 : decode cL_tells 14 = .ok (.if_icmp .ne 11, 3) := by decide +kernel
theorem dL_tells_17 : decode cL_tells 17 = .ok (.aload_n 0, 1) := by decide +kernel
theorem dL_tells_18 : decode cL_tells 18 = .ok (.iload_n 1, 1) := by decide +kernel
theorem dL_tells_19 : decode cL_tells 19 = .ok (.invokevirtual 54, 3) := by decide +kernel
theorem dL_tells_22 : decode cL_tells 22 = .ok (.goto 21, 3) := by decide +kernel
theorem dL_tells_25 : decode cL_tells 25 = .ok (.iload_n 2, 1) := by decide +kernel
theorem dL_tells_26 : decode cL_tells 26 = .ok (.iconst 2, 1) := by decide +kernel
theorem dL_tells_27 : decode cL_tells 27 = .ok (.if_icmp .ne 11, 3) := by decide +kernel
theorem dL_tells_30 : decode cL_tells 30 = .ok (.aload_n 0, 1) := by decide +kernel
theorem dL_tells_31 : decode cL_tells 31 = .ok (.iload_n 1, 1) := by decide +kernel
theorem dL_tells_32 : decode cL_tells 32 = .ok (.invokevirtual 57, 3) := by decide +kernel
theorem dL_tells_35 : decode cL_tells 35 = .ok (.goto 8, 3) := by decide +kernel
theorem dL_tells_38 : decode cL_tells 38 = .ok (.aload_n 0, 1) := by decide +kernel
theorem dL_tells_39 : decode cL_tells 39 = .ok (.iload_n 1, 1) := by decide +kernel
theorem dL_tells_40 : decode cL_tells 40 = .ok (.invokevirtual 60, 3) := by decide +kernel
theorem dL_tells_43 : decode cL_tells 43 = .ok (.ireturn, 1) := by decide +kernel
theorem dL_tells_44 : decode cL_tells 44 = .ok (.astore_n 3, 1) := by decide +kernel
theorem dL_tells_45 : decode cL_tells 45 = .ok (.sipush (-1001), 3) := by decide +kernel
theorem dL_tells_48 : decode cL_tells 48 = .ok (.ireturn, 1) := by decide +kernel
theorem dL_does_0 : decode cL_does 0 = .ok (.iload_n 1, 1) := by decide +kernel
theorem dL_does_1 : decode cL_does 1 = .ok (.tableswitch 194 0 14 #[75, 81, 87, 92, 98, 105, 122, 141, 150, 156, 163, 169, 176, 183, 189], 75) := by decide +kernel
theorem dL_does_76 : decode cL_does 76 = .ok (.aload_n 0, 1) := by decide +kernel
theorem dL_does_77 : decode cL_does 77 = .ok (.iload_n 2, 1) := by decide +kernel
theorem dL_does_78 : decode cL_does 78 = .ok (.invokevirtual 63, 3) := by decide +kernel
theorem dL_does_81 : decode cL_does 81 = .ok (.ireturn, 1) := by decide +kernel
theorem dL_does_82 : decode cL_does 82 = .ok (.aload_n 0, 1) := by decide +kernel
theorem dL_does_83 : decode cL_does 83 = .ok (.iload_n 2, 1) := by decide +kernel
theorem dL_does_84 : decode cL_does 84 = .ok (.invokevirtual 66, 3) := by decide +kernel
theorem dL_does_87 : decode cL_does 87 = .ok (.ireturn, 1) := by decide +kernel
theorem dL_does_88 : decode cL_does 88 = .ok (.aload_n 0, 1) := by decide +kernel
theorem dL_does_89 : decode cL_does 89 = .ok (.invokevirtual 69, 3) := by decide +kernel
theorem dL_does_92 : decode cL_does 92 = .ok (.ireturn, 1) := by decide +kernel
theorem dL_does_93 : decode cL_does 93 = .ok (.aload_n 0, 1) := by decide +kernel
theorem dL_does_94 : decode cL_does 94 = .ok (.iload_n 2, 1) := by decide +kernel
theorem dL_does_95 : decode cL_does 95 = .ok (.invokevirtual 72, 3) := by decide +kernel
theorem dL_does_98 : decode cL_does 98 = .ok (.ireturn, 1) := by decide +kernel
theorem dL_does_99 : decode cL_does 99 = .ok (.aload_n 0, 1) := by decide +kernel
theorem dL_does_100 : decode cL_does 100 = .ok (.iload_n 2, 1) := by decide +kernel
theorem dL_does_101 : decode cL_does 101 = .ok (.iload_n 3, 1) := by decide +kernel
theorem dL_does_102 : decode cL_does 102 = .ok (.invokevirtual 75, 3) := by decide +kernel
theorem dL_does_105 : decode cL_does 105 = .ok (.ireturn, 1) := by decide +kernel
theorem dL_does_106 : decode cL_does 106 = .ok (.aload_n 0, 1) := by decide +kernel
theorem dL_does_107 : decode cL_does 107 = .ok (.iload_n 2, 1) := by decide +kernel
theorem dL_does_108 : decode cL_does 108 = .ok (.iload_n 3, 1) := by decide +kernel
theorem dL_does_109 : decode cL_does 109 = .ok (.iconst 2, 1) := by decide +kernel
theorem dL_does_110 : decode cL_does 110 = .ok (.irem, 1) := by decide +kernel
theorem dL_does_111 : decode cL_does 111 = .ok (.ifCond .eq 7, 3) := by decide +kernel
theorem dL_does_114 : decode cL_does 114 = .ok (.iconst 1, 1) := by decide +kernel
theorem dL_does_115 : decode cL_does 115 = .ok (.goto 4, 3) := by decide +kernel
theorem dL_does_118 : decode cL_does 118 = .ok (.iconst 0, 1) := by decide +kernel
theorem dL_does_119 : decode cL_does 119 = .ok (.invokevirtual 78, 3) := by decide +kernel
theorem dL_does_122 : decode cL_does 122 = .ok (.ireturn, 1) := by decide +kernel
theorem dL_does_123 : decode cL_does 123 = .ok (.aload_n 0, 1) := by decide +kernel
theorem dL_does_124 : decode cL_does 124 = .ok (.iload_n 2, 1) := by decide +kernel
theorem dL_does_125 : decode cL_does 125 = .ok (.iload_n 3, 1) := by decide +kernel
theorem dL_does_126 : decode cL_does 126 = .ok (.iload 4, 2) := by decide +kernel
theorem dL_does_128 : decode cL_does 128 = .ok (.iconst 2, 1) := by decide +kernel
theorem dL_does_129 : decode cL_does 129 = .ok (.irem, 1) := by decide +kernel
theorem dL_does_130 : decode cL_does 130 = .ok (.ifCond .eq 7, 3) := by decide +kernel
theorem dL_does_133 : decode cL_does 133 = .ok (.iconst 1, 1) := by decide +kernel
theorem dL_does_134 : decode cL_does 134 = .ok (.goto 4, 3) := by decide +kernel
theorem dL_does_137 : decode cL_does 137 = .ok (.iconst 0, 1) := by decide +kernel
theorem dL_does_138 : decode cL_does 138 = .ok (.invokevirtual 82, 3) := by decide +kernel
theorem dL_does_141 : decode cL_does 141 = .ok (.ireturn, 1) := by decide +kernel
theorem dL_does_142 : decode cL_does 142 = .ok (.aload_n 0, 1) := by decide +kernel
theorem dL_does_143 : decode cL_does 143 = .ok (.iload_n 2, 1) := by decide +kernel
theorem dL_does_144 : decode cL_does 144 = .ok (.iload_n 3, 1) := by decide +kernel
theorem dL_does_145 : decode cL_does 145 = .ok (.iload 4, 2) := by decide +kernel
theorem dL_does_147 : decode cL_does 147 = .ok (.invokevirtual 86, 3) := by decide +kernel
theorem dL_does_150 : decode cL_does 150 = .ok (.ireturn, 1) := by decide +kernel
theorem dL_does_151 : decode cL_does 151 = .ok (.aload_n 0, 1) := by decide +kernel
theorem dL_does_152 : decode cL_does 152 = .ok (.iload_n 2, 1) := by decide +kernel
theorem dL_does_153 : decode cL_does 153 = .ok (.invokevirtual 90, 3) := by decide +kernel
theorem dL_does_156 : decode cL_does 156 = .ok (.ireturn, 1) := by decide +kernel
theorem dL_does_157 : decode cL_does 157 = .ok (.aload_n 0, 1) := by decide +kernel
theorem dL_does_158 : decode cL_does 158 = .ok (.iload_n 2, 1) := by decide +kernel
theorem dL_does_159 : decode cL_does 159 = .ok (.iload_n 3, 1) := by decide +kernel
theorem dL_does_160 : decode cL_does 160 = .ok (.invokevirtual 93, 3) := by decide +kernel
theorem dL_does_163 : decode cL_does 163 = .ok (.ireturn, 1) := by decide +kernel
theorem dL_does_164 : decode cL_does 164 = .ok (.aload_n 0, 1) := by decide +kernel
theorem dL_does_165 : decode cL_does 165 = .ok (.iload_n 2, 1) := by decide +kernel
theorem dL_does_166 : decode cL_does 166 = .ok (.invokevirtual 96, 3) := by decide +kernel
theorem dL_does_169 : decode cL_does 169 = .ok (.ireturn, 1) := by decide +kernel
theorem dL_does_170 : decode cL_does 170 = .ok (.aload_n 0, 1) := by decide +kernel
theorem dL_does_171 : decode cL_does 171 = .ok (.iload_n 2, 1) := by decide +kernel
theorem dL_does_172 : decode cL_does 172 = .ok (.iload_n 3, 1) := by decide +kernel
theorem dL_does_173 : decode cL_does 173 = .ok (.invokevirtual 99, 3) := by decide +kernel
theorem dL_does_176 : decode cL_does 176 = .ok (.ireturn, 1) := by decide +kernel
theorem dL_does_177 : decode cL_does 177 = .ok (.aload_n 0, 1) := by decide +kernel
theorem dL_does_178 : decode cL_does 178 = .ok (.iload_n 2, 1) := by decide +kernel
theorem dL_does_179 : decode cL_does 179 = .ok (.iload_n 3, 1) := by decide +kernel
theorem dL_does_180 : decode cL_does 180 = .ok (.invokevirtual 102, 3) := by decide +kernel
theorem dL_does_183 : decode cL_does 183 = .ok (.ireturn, 1) := by decide +kernel
theorem dL_does_184 : decode cL_does 184 = .ok (.aload_n 0, 1) := by decide +kernel
theorem dL_does_185 : decode cL_does 185 = .ok (.iload_n 2, 1) := by decide +kernel
theorem dL_does_186 : decode cL_does 186 = .ok (.invokevirtual 105, 3) := by decide +kernel
theorem dL_does_189 : decode cL_does 189 = .ok (.ireturn, 1) := by decide +kernel
theorem dL_does_190 : decode cL_does 190 = .ok (.aload_n 0, 1) := by decide +kernel
theorem dL_does_191 : decode cL_does 191 = .ok (.invokevirtual 108, 3) := by decide +kernel
theorem dL_does_194 : decode cL_does 194 = .ok (.ireturn, 1) := by decide +kernel
theorem dL_does_195 : decode cL_does 195 = .ok (.aload_n 0, 1) := by decide +kernel
theorem dL_does_196 : decode cL_does 196 = .ok (.iload_n 2, 1) := by decide +kernel
theorem dL_does_197 : decode cL_does 197 = .ok (.iload_n 3, 1) := by decide +kernel
theorem dL_does_198 : decode cL_does 198 = .ok (.iload 4, 2) := by decide +kernel
theorem dL_does_200 : decode cL_does 200 = .ok (.invokevirtual 111, 3) := by decide +kernel
theorem dL_does_203 : decode cL_does 203 = .ok (.ireturn, 1) := by decide +kernel
theorem dL_does_204 : decode cL_does 204 = .ok (.astore 5, 2) := by decide +kernel
theorem dL_does_206 : decode cL_does 206 = .ok (.sipush (-1001), 3) := by decide +kernel
theorem dL_does_209 : decode cL_does 209 = .ok (.ireturn, 1) := by decide +kernel
theorem dL_does_210 : decode cL_does 210 = .ok (.astore 5, 2) := by decide +kernel
theorem dL_does_212 : decode cL_does 212 = .ok (.sipush (-1002), 3) := by decide +kernel
theorem dL_does_215 : decode cL_does 215 = .ok (.ireturn, 1) := by decide +kernel
theorem dL_does_216 : decode cL_does 216 = .ok (.astore 5, 2) := by decide +kernel
theorem dL_does_218 : decode cL_does 218 = .ok (.sipush (-1003), 3) := by decide +kernel
theorem dL_does_221 : decode cL_does 221 = .ok (.ireturn, 1) := by decide +kernel
theorem dL_does_222 : decode cL_does 222 = .ok (.astore 5, 2) := by decide +kernel
theorem dL_does_224 : decode cL_does 224 = .ok (.sipush (-1004), 3) := by decide +kernel
theorem dL_does_227 : decode cL_does 227 = .ok (.ireturn, 1) := by decide +kernel
theorem dL_distance_0 : decode cL_distance 0 = .ok (.iload_n 2, 1) := by decide +kernel
theorem dL_distance_1 : decode cL_distance 1 = .ok (.ifCond .eq 11, 3) := by decide +kernel
theorem dL_distance_4 : decode cL_distance 4 = .ok (.aload_n 0, 1) := by decide +kernel
theorem dL_distance_5 : decode cL_distance 5 = .ok (.iload_n 1, 1) := by decide +kernel
theorem dL_distance_6 : decode cL_distance 6 = .ok (.invokevirtual 116, 3) := by decide +kernel
theorem dL_distance_9 : decode cL_distance 9 = .ok (.goto 8, 3) := by decide +kernel
theorem dL_distance_12 : decode cL_distance 12 = .ok (.aload_n 0, 1) := by decide +kernel
theorem dL_distance_13 : decode cL_distance 13 = .ok (.iload_n 1, 1) := by decide +kernel
theorem dL_distance_14 : decode cL_distance 14 = .ok (.invokevirtual 119, 3) := by decide +kernel
theorem dL_distance_17 : decode cL_distance 17 = .ok (.ireturn, 1) := by decide +kernel
theorem dL_distance_18 : decode cL_distance 18 = .ok (.astore_n 3, 1) := by decide +kernel
theorem dL_distance_19 : decode cL_distance 19 = .ok (.sipush (-1001), 3) := by decide +kernel
theorem dL_distance_22 : decode cL_distance 22 = .ok (.ireturn, 1) := by decide +kernel
theorem dL_distance_23 : decode cL_distance 23 = .ok (.astore_n 3, 1) := by decide +kernel
theorem dL_distance_24 : decode cL_distance 24 = .ok (.sipush (-1002), 3) := by decide +kernel
theorem dL_distance_27 : decode cL_distance 27 = .ok (.ireturn, 1) := by decide +kernel
theorem dL_needed_0 : decode cL_needed 0 = .ok (.aload_n 0, 1) := by decide +kernel
theorem dL_needed_1 : decode cL_needed 1 = .ok (.invokevirtual 122, 3) := by decide +kernel
theorem dL_needed_4 : decode cL_needed 4 = .ok (.ireturn, 1) := by decide +kernel
theorem dL_needed_5 : decode cL_needed 5 = .ok (.astore_n 1, 1) := by decide +kernel
theorem dL_needed_6 : decode cL_needed 6 = .ok (.sipush (-1001), 3) := by decide +kernel
theorem dL_needed_9 : decode cL_needed 9 = .ok (.ireturn, 1) := by decide +kernel
theorem dL_mean_0 : decode cL_mean 0 = .ok (.aload_n 0, 1) := by decide +kernel
theorem dL_mean_1 : decode cL_mean 1 = .ok (.invokevirtual 125, 3) := by decide +kernel
theorem dL_mean_4 : decode cL_mean 4 = .ok (.dreturn, 1) := by decide +kernel
theorem dL_mean_5 : decode cL_mean 5 = .ok (.astore_n 1, 1) := by decide +kernel
theorem dL_mean_6 : decode cL_mean 6 = .ok (.ldc2_w 131, 3) := by decide +kernel
theorem dL_mean_9 : decode cL_mean 9 = .ok (.dreturn, 1) := by decide +kernel
theorem dL_line_0 : decode cL_line 0 = .ok (.iload_n 2, 1) := by decide +kernel
theorem dL_line_1 : decode cL_line 1 = .ok (.ifCond .ne 11, 3) := by decide +kernel
theorem dL_line_4 : decode cL_line 4 = .ok (.aload_n 0, 1) := by decide +kernel
theorem dL_line_5 : decode cL_line 5 = .ok (.iload_n 1, 1) := by decide +kernel
theorem dL_line_6 : decode cL_line 6 = .ok (.invokevirtual 133, 3) := by decide +kernel
theorem dL_line_9 : decode cL_line 9 = .ok (.goto 63, 3) := by decide +kernel
theorem dL_line_12 : decode cL_line 12 = .ok (.iload_n 2, 1) := by decide +kernel
theorem dL_line_13 : decode cL_line 13 = .ok (.iconst 1, 1) := by decide +kernel
theorem dL_line_14 : decode cL_line 14 = .ok (.if_icmp .ne 11, 3) := by decide +kernel
theorem dL_line_17 : decode cL_line 17 = .ok (.aload_n 0, 1) := by decide +kernel
theorem dL_line_18 : decode cL_line 18 = .ok (.iload_n 1, 1) := by decide +kernel
theorem dL_line_19 : decode cL_line 19 = .ok (.invokevirtual 136, 3) := by decide +kernel
theorem dL_line_22 : decode cL_line 22 = .ok (.goto 50, 3) := by decide +kernel
theorem dL_line_25 : decode cL_line 25 = .ok (.iload_n 2, 1) := by decide +kernel
theorem dL_line_26 : decode cL_line 26 = .ok (.iconst 2, 1) := by decide +kernel
theorem dL_line_27 : decode cL_line 27 = .ok (.if_icmp .ne 11, 3) := by decide +kernel
theorem dL_line_30 : decode cL_line 30 = .ok (.aload_n 0, 1) := by decide +kernel
theorem dL_line_31 : decode cL_line 31 = .ok (.iload_n 1, 1) := by decide +kernel
theorem dL_line_32 : decode cL_line 32 = .ok (.invokevirtual 140, 3) := by decide +kernel
theorem dL_line_35 : decode cL_line 35 = .ok (.goto 37, 3) := by decide +kernel
theorem dL_line_38 : decode cL_line 38 = .ok (.iload_n 2, 1) := by decide +kernel
theorem dL_line_39 : decode cL_line 39 = .ok (.iconst 3, 1) := by decide +kernel
theorem dL_line_40 : decode cL_line 40 = .ok (.if_icmp .ne 19, 3) := by decide +kernel
theorem dL_line_43 : decode cL_line 43 = .ok (.aload_n 0, 1) := by decide +kernel
theorem dL_line_44 : decode cL_line 44 = .ok (.iload_n 1, 1) := by decide +kernel
theorem dL_line_45 : decode cL_line 45 = .ok (.invokevirtual 143, 3) := by decide +kernel
theorem dL_line_48 : decode cL_line 48 = .ok (.ifCond .eq 7, 3) := by decide +kernel
theorem dL_line_51 : decode cL_line 51 = .ok (.iconst 1, 1) := by decide +kernel
theorem dL_line_52 : decode cL_line 52 = .ok (.goto 20, 3) := by decide +kernel
theorem dL_line_55 : decode cL_line 55 = .ok (.iconst 0, 1) := by decide +kernel
theorem dL_line_56 : decode cL_line 56 = .ok (.goto 16, 3) := by decide +kernel
theorem dL_line_59 : decode cL_line 59 = .ok (.aload_n 0, 1) := by decide +kernel
theorem dL_line_60 : decode cL_line 60 = .ok (.iload_n 1, 1) := by decide +kernel
theorem dL_line_61 : decode cL_line 61 = .ok (.invokevirtual 147, 3) := by decide +kernel
theorem dL_line_64 : decode cL_line 64 = .ok (.ifCond .eq 7, 3) := by decide +kernel
theorem dL_line_67 : decode cL_line 67 = .ok (.iconst 1, 1) := by decide +kernel
theorem dL_line_68 : decode cL_line 68 = .ok (.goto 4, 3) := by decide +kernel
theorem dL_line_71 : decode cL_line 71 = .ok (.iconst 0, 1) := by decide +kernel
theorem dL_line_72 : decode cL_line 72 = .ok (.ireturn, 1) := by decide +kernel
theorem dL_line_73 : decode cL_line 73 = .ok (.astore_n 3, 1) := by decide +kernel
theorem dL_line_74 : decode cL_line 74 = .ok (.sipush (-1001), 3) := by decide +kernel
theorem dL_line_77 : decode cL_line 77 = .ok (.ireturn, 1) := by decide +kernel
theorem dL_box_0 : decode cL_box 0 = .ok (.iload_n 2, 1) := by decide +kernel
theorem dL_box_1 : decode cL_box 1 = .ok (.ifCond .eq 11, 3) := by decide +kernel
theorem dL_box_4 : decode cL_box 4 = .ok (.aload_n 0, 1) := by decide +kernel
theorem dL_box_5 : decode cL_box 5 = .ok (.iload_n 1, 1) := by decide +kernel
theorem dL_box_6 : decode cL_box 6 = .ok (.invokevirtual 150, 3) := by decide +kernel
theorem dL_box_9 : decode cL_box 9 = .ok (.goto 16, 3) := by decide +kernel
theorem dL_box_12 : decode cL_box 12 = .ok (.aload_n 0, 1) := by decide +kernel
theorem dL_box_13 : decode cL_box 13 = .ok (.iload_n 1, 1) := by decide +kernel
theorem dL_box_14 : decode cL_box 14 = .ok (.invokevirtual 153, 3) := by decide +kernel
theorem dL_box_17 : decode cL_box 17 = .ok (.ifCond .eq 7, 3) := by decide +kernel
theorem dL_box_20 : decode cL_box 20 = .ok (.iconst 1, 1) := by decide +kernel
theorem dL_box_21 : decode cL_box 21 = .ok (.goto 4, 3) := by decide +kernel
theorem dL_box_24 : decode cL_box 24 = .ok (.iconst 0, 1) := by decide +kernel
theorem dL_box_25 : decode cL_box 25 = .ok (.ireturn, 1) := by decide +kernel
theorem dL_box_26 : decode cL_box 26 = .ok (.astore_n 3, 1) := by decide +kernel
theorem dL_box_27 : decode cL_box 27 = .ok (.sipush (-1001), 3) := by decide +kernel
theorem dL_box_30 : decode cL_box 30 = .ok (.ireturn, 1) := by decide +kernel
theorem dL_sum_0 : decode cL_sum 0 = .ok (.aload_n 0, 1) := by decide +kernel
theorem dL_sum_1 : decode cL_sum 1 = .ok (.invokevirtual 156, 3) := by decide +kernel
theorem dL_sum_4 : decode cL_sum 4 = .ok (.i2l, 1) := by decide +kernel
theorem dL_sum_5 : decode cL_sum 5 = .ok (.ldc2_w 159, 3) := by decide +kernel
theorem dL_sum_8 : decode cL_sum 8 = .ok (.aload_n 0, 1) := by decide +kernel
theorem dL_sum_9 : decode cL_sum 9 = .ok (.invokevirtual 161, 3) := by decide +kernel
theorem dL_sum_12 : decode cL_sum 12 = .ok (.i2l, 1) := by decide +kernel
theorem dL_sum_13 : decode cL_sum 13 = .ok (.lmul, 1) := by decide +kernel
theorem dL_sum_14 : decode cL_sum 14 = .ok (.ladd, 1) := by decide +kernel
theorem dL_sum_15 : decode cL_sum 15 = .ok (.ldc2_w 164, 3) := by decide +kernel
theorem dL_sum_18 : decode cL_sum 18 = .ok (.aload_n 0, 1) := by decide +kernel
theorem dL_sum_19 : decode cL_sum 19 = .ok (.invokevirtual 166, 3) := by decide +kernel
theorem dL_sum_22 : decode cL_sum 22 = .ok (.i2l, 1) := by decide +kernel
theorem dL_sum_23 : decode cL_sum 23 = .ok (.lmul, 1) := by decide +kernel
theorem dL_sum_24 : decode cL_sum 24 = .ok (.ladd, 1) := by decide +kernel
theorem dL_sum_25 : decode cL_sum 25 = .ok (.ldc2_w 169, 3) := by decide +kernel
theorem dL_sum_28 : decode cL_sum 28 = .ok (.aload_n 0, 1) := by decide +kernel
theorem dL_sum_29 : decode cL_sum 29 = .ok (.invokevirtual 171, 3) := by decide +kernel
theorem dL_sum_32 : decode cL_sum 32 = .ok (.i2l, 1) := by decide +kernel
theorem dL_sum_33 : decode cL_sum 33 = .ok (.lmul, 1) := by decide +kernel
theorem dL_sum_34 : decode cL_sum 34 = .ok (.ladd, 1) := by decide +kernel
theorem dL_sum_35 : decode cL_sum 35 = .ok (.ldc2_w 174, 3) := by decide +kernel
theorem dL_sum_38 : decode cL_sum 38 = .ok (.aload_n 0, 1) := by decide +kernel
theorem dL_sum_39 : decode cL_sum 39 = .ok (.invokestatic 176, 3) := by decide +kernel
theorem dL_sum_42 : decode cL_sum 42 = .ok (.i2l, 1) := by decide +kernel
theorem dL_sum_43 : decode cL_sum 43 = .ok (.lmul, 1) := by decide +kernel
theorem dL_sum_44 : decode cL_sum 44 = .ok (.ladd, 1) := by decide +kernel
theorem dL_sum_45 : decode cL_sum 45 = .ok (.lstore_n 1, 1) := by decide +kernel
theorem dL_sum_46 : decode cL_sum 46 = .ok (.iconst 0, 1) := by decide +kernel
theorem dL_sum_47 : decode cL_sum 47 = .ok (.istore_n 3, 1) := by decide +kernel
theorem dL_sum_48 : decode cL_sum 48 = .ok (.iload_n 3, 1) := by decide +kernel
theorem dL_sum_49 : decode cL_sum 49 = .ok (.aload_n 0, 1) := by decide +kernel
theorem dL_sum_50 : decode cL_sum 50 = .ok (.invokevirtual 156, 3) := by decide +kernel
theorem dL_sum_53 : decode cL_sum 53 = .ok (.if_icmp .ge 43, 3) := by decide +kernel
theorem dL_sum_56 : decode cL_sum 56 = .ok (.ldc2_w 159, 3) := by decide +kernel
theorem dL_sum_59 : decode cL_sum 59 = .ok (.lload_n 1, 1) := by decide +kernel
theorem dL_sum_60 : decode cL_sum 60 = .ok (.lmul, 1) := by decide +kernel
theorem dL_sum_61 : decode cL_sum 61 = .ok (.aload_n 0, 1) := by decide +kernel
theorem dL_sum_62 : decode cL_sum 62 = .ok (.iload_n 3, 1) := by decide +kernel
theorem dL_sum_63 : decode cL_sum 63 = .ok (.iconst 0, 1) := by decide +kernel
theorem dL_sum_64 : decode cL_sum 64 = .ok (.invokestatic 181, 3) := by decide +kernel
theorem dL_sum_67 : decode cL_sum 67 = .ok (.i2l, 1) := by decide +kernel
theorem dL_sum_68 : decode cL_sum 68 = .ok (.ladd, 1) := by decide +kernel
theorem dL_sum_69 : decode cL_sum 69 = .ok (.ldc2_w 185, 3) := by decide +kernel
theorem dL_sum_72 : decode cL_sum 72 = .ok (.aload_n 0, 1) := by decide +kernel
theorem dL_sum_73 : decode cL_sum 73 = .ok (.iload_n 3, 1) := by decide +kernel
theorem dL_sum_74 : decode cL_sum 74 = .ok (.iconst 1, 1) := by decide +kernel
theorem dL_sum_75 : decode cL_sum 75 = .ok (.invokestatic 181, 3) := by decide +kernel
theorem dL_sum_78 : decode cL_sum 78 = .ok (.i2l, 1) := by decide +kernel
theorem dL_sum_79 : decode cL_sum 79 = .ok (.lmul, 1) := by decide +kernel
theorem dL_sum_80 : decode cL_sum 80 = .ok (.ladd, 1) := by decide +kernel
theorem dL_sum_81 : decode cL_sum 81 = .ok (.aload_n 0, 1) := by decide +kernel
theorem dL_sum_82 : decode cL_sum 82 = .ok (.iload_n 3, 1) := by decide +kernel
theorem dL_sum_83 : decode cL_sum 83 = .ok (.iconst 1, 1) := by decide +kernel
theorem dL_sum_84 : decode cL_sum 84 = .ok (.invokestatic 187, 3) := by decide +kernel
theorem dL_sum_87 : decode cL_sum 87 = .ok (.i2l, 1) := by decide +kernel
theorem dL_sum_88 : decode cL_sum 88 = .ok (.ladd, 1) := by decide +kernel
theorem dL_sum_89 : decode cL_sum 89 = .ok (.lstore_n 1, 1) := by decide +kernel
theorem dL_sum_90 : decode cL_sum 90 = .ok (.iinc 3 1, 3) := by decide +kernel
theorem dL_sum_93 : decode cL_sum 93 = .ok (.goto (-45), 3) := by decide +kernel
theorem dL_sum_96 : decode cL_sum 96 = .ok (.iconst 0, 1) := by decide +kernel
theorem dL_sum_97 : decode cL_sum 97 = .ok (.istore_n 3, 1) := by decide +kernel
theorem dL_sum_98 : decode cL_sum 98 = .ok (.iload_n 3, 1) := by decide +kernel
theorem dL_sum_99 : decode cL_sum 99 = .ok (.aload_n 0, 1) := by decide +kernel
theorem dL_sum_100 : decode cL_sum 100 = .ok (.invokevirtual 161, 3) := by decide +kernel
theorem dL_sum_103 : decode cL_sum 103 = .ok (.if_icmp .ge 59, 3) := by decide +kernel
theorem dL_sum_106 : decode cL_sum 106 = .ok (.ldc2_w 159, 3) := by decide +kernel
theorem dL_sum_109 : decode cL_sum 109 = .ok (.lload_n 1, 1) := by decide +kernel
theorem dL_sum_110 : decode cL_sum 110 = .ok (.lmul, 1) := by decide +kernel
theorem dL_sum_111 : decode cL_sum 111 = .ok (.aload_n 0, 1) := by decide +kernel
theorem dL_sum_112 : decode cL_sum 112 = .ok (.iload_n 3, 1) := by decide +kernel
theorem dL_sum_113 : decode cL_sum 113 = .ok (.iconst 0, 1) := by decide +kernel
theorem dL_sum_114 : decode cL_sum 114 = .ok (.invokestatic 190, 3) := by decide +kernel
theorem dL_sum_117 : decode cL_sum 117 = .ok (.i2l, 1) := by decide +kernel
theorem dL_sum_118 : decode cL_sum 118 = .ok (.ladd, 1) := by decide +kernel
theorem dL_sum_119 : decode cL_sum 119 = .ok (.ldc2_w 185, 3) := by decide +kernel
theorem dL_sum_122 : decode cL_sum 122 = .ok (.aload_n 0, 1) := by decide +kernel
theorem dL_sum_123 : decode cL_sum 123 = .ok (.iload_n 3, 1) := by decide +kernel
theorem dL_sum_124 : decode cL_sum 124 = .ok (.iconst 1, 1) := by decide +kernel
theorem dL_sum_125 : decode cL_sum 125 = .ok (.invokestatic 190, 3) := by decide +kernel
theorem dL_sum_128 : decode cL_sum 128 = .ok (.i2l, 1) := by decide +kernel
theorem dL_sum_129 : decode cL_sum 129 = .ok (.lmul, 1) := by decide +kernel
theorem dL_sum_130 : decode cL_sum 130 = .ok (.ladd, 1) := by decide +kernel
theorem dL_sum_131 : decode cL_sum 131 = .ok (.ldc2_w 193, 3) := by decide +kernel
theorem dL_sum_134 : decode cL_sum 134 = .ok (.aload_n 0, 1) := by decide +kernel
theorem dL_sum_135 : decode cL_sum 135 = .ok (.iload_n 3, 1) := by decide +kernel
theorem dL_sum_136 : decode cL_sum 136 = .ok (.iconst 2, 1) := by decide +kernel
theorem dL_sum_137 : decode cL_sum 137 = .ok (.invokestatic 190, 3) := by decide +kernel
theorem dL_sum_140 : decode cL_sum 140 = .ok (.i2l, 1) := by decide +kernel
theorem dL_sum_141 : decode cL_sum 141 = .ok (.lmul, 1) := by decide +kernel
theorem dL_sum_142 : decode cL_sum 142 = .ok (.ladd, 1) := by decide +kernel
theorem dL_sum_143 : decode cL_sum 143 = .ok (.ldc2_w 169, 3) := by decide +kernel
theorem dL_sum_146 : decode cL_sum 146 = .ok (.aload_n 0, 1) := by decide +kernel
theorem dL_sum_147 : decode cL_sum 147 = .ok (.iload_n 3, 1) := by decide +kernel
theorem dL_sum_148 : decode cL_sum 148 = .ok (.iconst 3, 1) := by decide +kernel
theorem dL_sum_149 : decode cL_sum 149 = .ok (.invokestatic 190, 3) := by decide +kernel
theorem dL_sum_152 : decode cL_sum 152 = .ok (.i2l, 1) := by decide +kernel
theorem dL_sum_153 : decode cL_sum 153 = .ok (.lmul, 1) := by decide +kernel
theorem dL_sum_154 : decode cL_sum 154 = .ok (.ladd, 1) := by decide +kernel
theorem dL_sum_155 : decode cL_sum 155 = .ok (.lstore_n 1, 1) := by decide +kernel
theorem dL_sum_156 : decode cL_sum 156 = .ok (.iinc 3 1, 3) := by decide +kernel
theorem dL_sum_159 : decode cL_sum 159 = .ok (.goto (-61), 3) := by decide +kernel
theorem dL_sum_162 : decode cL_sum 162 = .ok (.iconst 0, 1) := by decide +kernel
theorem dL_sum_163 : decode cL_sum 163 = .ok (.istore_n 3, 1) := by decide +kernel
theorem dL_sum_164 : decode cL_sum 164 = .ok (.iload_n 3, 1) := by decide +kernel
theorem dL_sum_165 : decode cL_sum 165 = .ok (.aload_n 0, 1) := by decide +kernel
theorem dL_sum_166 : decode cL_sum 166 = .ok (.invokevirtual 166, 3) := by decide +kernel
theorem dL_sum_169 : decode cL_sum 169 = .ok (.if_icmp .ge 35, 3) := by decide +kernel
theorem dL_sum_172 : decode cL_sum 172 = .ok (.ldc2_w 159, 3) := by decide +kernel
theorem dL_sum_175 : decode cL_sum 175 = .ok (.lload_n 1, 1) := by decide +kernel
theorem dL_sum_176 : decode cL_sum 176 = .ok (.lmul, 1) := by decide +kernel
theorem dL_sum_177 : decode cL_sum 177 = .ok (.aload_n 0, 1) := by decide +kernel
theorem dL_sum_178 : decode cL_sum 178 = .ok (.iload_n 3, 1) := by decide +kernel
theorem dL_sum_179 : decode cL_sum 179 = .ok (.iconst 1, 1) := by decide +kernel
theorem dL_sum_180 : decode cL_sum 180 = .ok (.invokestatic 195, 3) := by decide +kernel
theorem dL_sum_183 : decode cL_sum 183 = .ok (.i2l, 1) := by decide +kernel
theorem dL_sum_184 : decode cL_sum 184 = .ok (.ladd, 1) := by decide +kernel
theorem dL_sum_185 : decode cL_sum 185 = .ok (.ldc2_w 185, 3) := by decide +kernel
theorem dL_sum_188 : decode cL_sum 188 = .ok (.aload_n 0, 1) := by decide +kernel
theorem dL_sum_189 : decode cL_sum 189 = .ok (.iload_n 3, 1) := by decide +kernel
theorem dL_sum_190 : decode cL_sum 190 = .ok (.iconst 0, 1) := by decide +kernel
theorem dL_sum_191 : decode cL_sum 191 = .ok (.invokestatic 195, 3) := by decide +kernel
theorem dL_sum_194 : decode cL_sum 194 = .ok (.i2l, 1) := by decide +kernel
theorem dL_sum_195 : decode cL_sum 195 = .ok (.lmul, 1) := by decide +kernel
theorem dL_sum_196 : decode cL_sum 196 = .ok (.ladd, 1) := by decide +kernel
theorem dL_sum_197 : decode cL_sum 197 = .ok (.lstore_n 1, 1) := by decide +kernel
theorem dL_sum_198 : decode cL_sum 198 = .ok (.iinc 3 1, 3) := by decide +kernel
theorem dL_sum_201 : decode cL_sum 201 = .ok (.goto (-37), 3) := by decide +kernel
theorem dL_sum_204 : decode cL_sum 204 = .ok (.lload_n 1, 1) := by decide +kernel
theorem dL_sum_205 : decode cL_sum 205 = .ok (.lreturn, 1) := by decide +kernel
theorem dL_isSound_0 : decode cL_isSound 0 = .ok (.iconst 0, 1) := by decide +kernel
theorem dL_isSound_1 : decode cL_isSound 1 = .ok (.istore_n 1, 1) := by decide +kernel
theorem dL_isSound_2 : decode cL_isSound 2 = .ok (.iload_n 1, 1) := by decide +kernel
theorem dL_isSound_3 : decode cL_isSound 3 = .ok (.aload_n 0, 1) := by decide +kernel
theorem dL_isSound_4 : decode cL_isSound 4 = .ok (.invokevirtual 161, 3) := by decide +kernel
theorem dL_isSound_7 : decode cL_isSound 7 = .ok (.if_icmp .ge 64, 3) := by decide +kernel
theorem dL_isSound_10 : decode cL_isSound 10 = .ok (.aload_n 0, 1) := by decide +kernel
theorem dL_isSound_11 : decode cL_isSound 11 = .ok (.iload_n 1, 1) := by decide +kernel
theorem dL_isSound_12 : decode cL_isSound 12 = .ok (.iconst 0, 1) := by decide +kernel
theorem dL_isSound_13 : decode cL_isSound 13 = .ok (.invokestatic 190, 3) := by decide +kernel
theorem dL_isSound_16 : decode cL_isSound 16 = .ok (.istore_n 2, 1) := by decide +kernel
theorem dL_isSound_17 : decode cL_isSound 17 = .ok (.aload_n 0, 1) := by decide +kernel
theorem dL_isSound_18 : decode cL_isSound 18 = .ok (.iload_n 1, 1) := by decide +kernel
theorem dL_isSound_19 : decode cL_isSound 19 = .ok (.iconst 4, 1) := by decide +kernel
theorem dL_isSound_20 : decode cL_isSound 20 = .ok (.invokestatic 190, 3) := by decide +kernel
theorem dL_isSound_23 : decode cL_isSound 23 = .ok (.iconst 1, 1) := by decide +kernel
theorem dL_isSound_24 : decode cL_isSound 24 = .ok (.if_icmp .ne 39, 3) := by decide +kernel
theorem dL_isSound_27 : decode cL_isSound 27 = .ok (.aload_n 0, 1) := by decide +kernel
theorem dL_isSound_28 : decode cL_isSound 28 = .ok (.iload_n 1, 1) := by decide +kernel
theorem dL_isSound_29 : decode cL_isSound 29 = .ok (.iconst 3, 1) := by decide +kernel
theorem dL_isSound_30 : decode cL_isSound 30 = .ok (.invokestatic 190, 3) := by decide +kernel
theorem dL_isSound_33 : decode cL_isSound 33 = .ok (.iconst 1, 1) := by decide +kernel
theorem dL_isSound_34 : decode cL_isSound 34 = .ok (.if_icmp .ne 31, 3) := by decide +kernel
theorem dL_isSound_37 : decode cL_isSound 37 = .ok (.aload_n 0, 1) := by decide +kernel
theorem dL_isSound_38 : decode cL_isSound 38 = .ok (.iload_n 2, 1) := by decide +kernel
theorem dL_isSound_39 : decode cL_isSound 39 = .ok (.invokevirtual 199, 3) := by decide +kernel
theorem dL_isSound_42 : decode cL_isSound 42 = .ok (.ifCond .eq 21, 3) := by decide +kernel
theorem dL_isSound_45 : decode cL_isSound 45 = .ok (.aload_n 0, 1) := by decide +kernel
theorem dL_isSound_46 : decode cL_isSound 46 = .ok (.iload_n 2, 1) := by decide +kernel
theorem dL_isSound_47 : decode cL_isSound 47 = .ok (.iconst 0, 1) := by decide +kernel
theorem dL_isSound_48 : decode cL_isSound 48 = .ok (.invokestatic 202, 3) := by decide +kernel
theorem dL_isSound_51 : decode cL_isSound 51 = .ok (.ifCond .ne 12, 3) := by decide +kernel
theorem dL_isSound_54 : decode cL_isSound 54 = .ok (.aload_n 0, 1) := by decide +kernel
theorem dL_isSound_55 : decode cL_isSound 55 = .ok (.iload_n 2, 1) := by decide +kernel
theorem dL_isSound_56 : decode cL_isSound 56 = .ok (.iconst 1, 1) := by decide +kernel
theorem dL_isSound_57 : decode cL_isSound 57 = .ok (.invokestatic 202, 3) := by decide +kernel
theorem dL_isSound_60 : decode cL_isSound 60 = .ok (.ifCond .eq 5, 3) := by decide +kernel
theorem dL_isSound_63 : decode cL_isSound 63 = .ok (.iconst 0, 1) := by decide +kernel
theorem dL_isSound_64 : decode cL_isSound 64 = .ok (.ireturn, 1) := by decide +kernel
theorem dL_isSound_65 : decode cL_isSound 65 = .ok (.iinc 1 1, 3) := by decide +kernel
theorem dL_isSound_68 : decode cL_isSound 68 = .ok (.goto (-66), 3) := by decide +kernel
theorem dL_isSound_71 : decode cL_isSound 71 = .ok (.iconst 0, 1) := by decide +kernel
theorem dL_isSound_72 : decode cL_isSound 72 = .ok (.istore_n 1, 1) := by decide +kernel
theorem dL_isSound_73 : decode cL_isSound 73 = .ok (.iload_n 1, 1) := by decide +kernel
theorem dL_isSound_74 : decode cL_isSound 74 = .ok (.aload_n 0, 1) := by decide +kernel
theorem dL_isSound_75 : decode cL_isSound 75 = .ok (.invokevirtual 156, 3) := by decide +kernel
theorem dL_isSound_78 : decode cL_isSound 78 = .ok (.if_icmp .ge 109, 3) := by decide +kernel
theorem dL_isSound_81 : decode cL_isSound 81 = .ok (.aload_n 0, 1) := by decide +kernel
theorem dL_isSound_82 : decode cL_isSound 82 = .ok (.iload_n 1, 1) := by decide +kernel
theorem dL_isSound_83 : decode cL_isSound 83 = .ok (.iconst 1, 1) := by decide +kernel
theorem dL_isSound_84 : decode cL_isSound 84 = .ok (.invokestatic 181, 3) := by decide +kernel
theorem dL_isSound_87 : decode cL_isSound 87 = .ok (.istore_n 2, 1) := by decide +kernel
theorem dL_isSound_88 : decode cL_isSound 88 = .ok (.aload_n 0, 1) := by decide +kernel
theorem dL_isSound_89 : decode cL_isSound 89 = .ok (.iload_n 1, 1) := by decide +kernel
theorem dL_isSound_90 : decode cL_isSound 90 = .ok (.iconst 0, 1) := by decide +kernel
theorem dL_isSound_91 : decode cL_isSound 91 = .ok (.invokestatic 202, 3) := by decide +kernel
theorem dL_isSound_94 : decode cL_isSound 94 = .ok (.istore_n 3, 1) := by decide +kernel
theorem dL_isSound_95 : decode cL_isSound 95 = .ok (.iload_n 2, 1) := by decide +kernel
theorem dL_isSound_96 : decode cL_isSound 96 = .ok (.aload_n 0, 1) := by decide +kernel
theorem dL_isSound_97 : decode cL_isSound 97 = .ok (.iload_n 1, 1) := by decide +kernel
theorem dL_isSound_98 : decode cL_isSound 98 = .ok (.iconst 2, 1) := by decide +kernel
theorem dL_isSound_99 : decode cL_isSound 99 = .ok (.invokestatic 181, 3) := by decide +kernel
theorem dL_isSound_102 : decode cL_isSound 102 = .ok (.if_icmp .ne 77, 3) := by decide +kernel
theorem dL_isSound_105 : decode cL_isSound 105 = .ok (.iload_n 3, 1) := by decide +kernel
theorem dL_isSound_106 : decode cL_isSound 106 = .ok (.aload_n 0, 1) := by decide +kernel
theorem dL_isSound_107 : decode cL_isSound 107 = .ok (.iload_n 1, 1) := by decide +kernel
theorem dL_isSound_108 : decode cL_isSound 108 = .ok (.iconst 1, 1) := by decide +kernel
theorem dL_isSound_109 : decode cL_isSound 109 = .ok (.invokestatic 202, 3) := by decide +kernel
theorem dL_isSound_112 : decode cL_isSound 112 = .ok (.if_icmp .ne 67, 3) := by decide +kernel
theorem dL_isSound_115 : decode cL_isSound 115 = .ok (.iload_n 3, 1) := by decide +kernel
theorem dL_isSound_116 : decode cL_isSound 116 = .ok (.ifCond .lt 11, 3) := by decide +kernel
theorem dL_isSound_119 : decode cL_isSound 119 = .ok (.aload_n 0, 1) := by decide +kernel
theorem dL_isSound_120 : decode cL_isSound 120 = .ok (.iload_n 1, 1) := by decide +kernel
theorem dL_isSound_121 : decode cL_isSound 121 = .ok (.invokevirtual 199, 3) := by decide +kernel
theorem dL_isSound_124 : decode cL_isSound 124 = .ok (.ifCond .eq 55, 3) := by decide +kernel
theorem dL_isSound_127 : decode cL_isSound 127 = .ok (.aload_n 0, 1) := by decide +kernel
theorem dL_isSound_128 : decode cL_isSound 128 = .ok (.iload_n 1, 1) := by decide +kernel
theorem dL_isSound_129 : decode cL_isSound 129 = .ok (.iconst 0, 1) := by decide +kernel
theorem dL_isSound_130 : decode cL_isSound 130 = .ok (.invokestatic 181, 3) := by decide +kernel
theorem dL_isSound_133 : decode cL_isSound 133 = .ok (.iconst 1, 1) := by decide +kernel
theorem dL_isSound_134 : decode cL_isSound 134 = .ok (.if_icmp .lt 45, 3) := by decide +kernel
theorem dL_isSound_137 : decode cL_isSound 137 = .ok (.aload_n 0, 1) := by decide +kernel
theorem dL_isSound_138 : decode cL_isSound 138 = .ok (.iload_n 1, 1) := by decide +kernel
theorem dL_isSound_139 : decode cL_isSound 139 = .ok (.iconst 0, 1) := by decide +kernel
theorem dL_isSound_140 : decode cL_isSound 140 = .ok (.invokestatic 181, 3) := by decide +kernel
theorem dL_isSound_143 : decode cL_isSound 143 = .ok (.bipush 30, 2) := by decide +kernel
theorem dL_isSound_145 : decode cL_isSound 145 = .ok (.if_icmp .gt 34, 3) := by decide +kernel
theorem dL_isSound_148 : decode cL_isSound 148 = .ok (.aload_n 0, 1) := by decide +kernel
theorem dL_isSound_149 : decode cL_isSound 149 = .ok (.iload_n 1, 1) := by decide +kernel
theorem dL_isSound_150 : decode cL_isSound 150 = .ok (.aload_n 0, 1) := by decide +kernel
theorem dL_isSound_151 : decode cL_isSound 151 = .ok (.iload_n 1, 1) := by decide +kernel
theorem dL_isSound_152 : decode cL_isSound 152 = .ok (.iconst 0, 1) := by decide +kernel
theorem dL_isSound_153 : decode cL_isSound 153 = .ok (.invokestatic 181, 3) := by decide +kernel
theorem dL_isSound_156 : decode cL_isSound 156 = .ok (.invokestatic 187, 3) := by decide +kernel
theorem dL_isSound_159 : decode cL_isSound 159 = .ok (.sipush (-1002), 3) := by decide +kernel
theorem dL_isSound_162 : decode cL_isSound 162 = .ok (.if_icmp .ne 17, 3) := by decide +kernel
theorem dL_isSound_165 : decode cL_isSound 165 = .ok (.aload_n 0, 1) := by decide +kernel
theorem dL_isSound_166 : decode cL_isSound 166 = .ok (.iload_n 1, 1) := by decide +kernel
theorem dL_isSound_167 : decode cL_isSound 167 = .ok (.invokevirtual 204, 3) := by decide +kernel
theorem dL_isSound_170 : decode cL_isSound 170 = .ok (.iload_n 2, 1) := by decide +kernel
theorem dL_isSound_171 : decode cL_isSound 171 = .ok (.i2f, 1) := by decide +kernel
theorem dL_isSound_172 : decode cL_isSound 172 = .ok (.ldc 208, 2) := by decide +kernel
theorem dL_isSound_174 : decode cL_isSound 174 = .ok (.fdiv, 1) := by decide +kernel
theorem dL_isSound_175 : decode cL_isSound 175 = .ok (.fcmp .l, 1) := by decide +kernel
theorem dL_isSound_176 : decode cL_isSound 176 = .ok (.ifCond .eq 5, 3) := by decide +kernel
theorem dL_isSound_179 : decode cL_isSound 179 = .ok (.iconst 0, 1) := by decide +kernel
theorem dL_isSound_180 : decode cL_isSound 180 = .ok (.ireturn, 1) := by decide +kernel
theorem dL_isSound_181 : decode cL_isSound 181 = .ok (.iinc 1 1, 3) := by decide +kernel
theorem dL_isSound_184 : decode cL_isSound 184 = .ok (.goto (-111), 3) := by decide +kernel
theorem dL_isSound_187 : decode cL_isSound 187 = .ok (.aload_n 0, 1) := by decide +kernel
theorem dL_isSound_188 : decode cL_isSound 188 = .ok (.invokevirtual 161, 3) := by decide +kernel
theorem dL_isSound_191 : decode cL_isSound 191 = .ok (.ifCond .ne 32, 3) := by decide +kernel
theorem dL_isSound_194 : decode cL_isSound 194 = .ok (.aload_n 0, 1) := by decide +kernel
theorem dL_isSound_195 : decode cL_isSound 195 = .ok (.invokestatic 176, 3) := by decide +kernel
theorem dL_isSound_198 : decode cL_isSound 198 = .ok (.sipush (-1001), 3) := by decide +kernel
theorem dL_isSound_201 : decode cL_isSound 201 = .ok (.if_icmp .ne 18, 3) := by decide +kernel
theorem dL_isSound_204 : decode cL_isSound 204 = .ok (.aload_n 0, 1) := by decide +kernel
theorem dL_isSound_205 : decode cL_isSound 205 = .ok (.invokestatic 209, 3) := by decide +kernel
theorem dL_isSound_208 : decode cL_isSound 208 = .ok (.ldc2_w 131, 3) := by decide +kernel
theorem dL_isSound_211 : decode cL_isSound 211 = .ok (.dcmp .l, 1) := by decide +kernel
theorem dL_isSound_212 : decode cL_isSound 212 = .ok (.ifCond .ne 7, 3) := by decide +kernel
theorem dL_isSound_215 : decode cL_isSound 215 = .ok (.iconst 1, 1) := by decide +kernel
theorem dL_isSound_216 : decode cL_isSound 216 = .ok (.goto 51, 3) := by decide +kernel
theorem dL_isSound_219 : decode cL_isSound 219 = .ok (.iconst 0, 1) := by decide +kernel
theorem dL_isSound_220 : decode cL_isSound 220 = .ok (.goto 47, 3) := by decide +kernel
theorem dL_isSound_223 : decode cL_isSound 223 = .ok (.aload_n 0, 1) := by decide +kernel
theorem dL_isSound_224 : decode cL_isSound 224 = .ok (.invokestatic 176, 3) := by decide +kernel
theorem dL_isSound_227 : decode cL_isSound 227 = .ok (.iconst 1, 1) := by decide +kernel
theorem dL_isSound_228 : decode cL_isSound 228 = .ok (.if_icmp .lt 38, 3) := by decide +kernel
theorem dL_isSound_231 : decode cL_isSound 231 = .ok (.aload_n 0, 1) := by decide +kernel
theorem dL_isSound_232 : decode cL_isSound 232 = .ok (.invokestatic 176, 3) := by decide +kernel
theorem dL_isSound_235 : decode cL_isSound 235 = .ok (.aload_n 0, 1) := by decide +kernel
theorem dL_isSound_236 : decode cL_isSound 236 = .ok (.invokevirtual 161, 3) := by decide +kernel
theorem dL_isSound_239 : decode cL_isSound 239 = .ok (.if_icmp .gt 27, 3) := by decide +kernel
theorem dL_isSound_242 : decode cL_isSound 242 = .ok (.aload_n 0, 1) := by decide +kernel
theorem dL_isSound_243 : decode cL_isSound 243 = .ok (.invokestatic 209, 3) := by decide +kernel
theorem dL_isSound_246 : decode cL_isSound 246 = .ok (.dconst 1, 1) := by decide +kernel
theorem dL_isSound_247 : decode cL_isSound 247 = .ok (.dcmp .l, 1) := by decide +kernel
theorem dL_isSound_248 : decode cL_isSound 248 = .ok (.ifCond .lt 18, 3) := by decide +kernel
theorem dL_isSound_251 : decode cL_isSound 251 = .ok (.aload_n 0, 1) := by decide +kernel
theorem dL_isSound_252 : decode cL_isSound 252 = .ok (.invokestatic 209, 3) := by decide +kernel
theorem dL_isSound_255 : decode cL_isSound 255 = .ok (.ldc2_w 213, 3) := by decide +kernel
theorem dL_isSound_258 : decode cL_isSound 258 = .ok (.dcmp .g, 1) := by decide +kernel
theorem dL_isSound_259 : decode cL_isSound 259 = .ok (.ifCond .gt 7, 3) := by decide +kernel
theorem dL_isSound_262 : decode cL_isSound 262 = .ok (.iconst 1, 1) := by decide +kernel
theorem dL_isSound_263 : decode cL_isSound 263 = .ok (.goto 4, 3) := by decide +kernel
theorem dL_isSound_266 : decode cL_isSound 266 = .ok (.iconst 0, 1) := by decide +kernel
theorem dL_isSound_267 : decode cL_isSound 267 = .ok (.ireturn, 1) := by decide +kernel
theorem dL_isNormal_0 : decode cL_isNormal 0 = .ok (.aload_n 0, 1) := by decide +kernel
theorem dL_isNormal_1 : decode cL_isNormal 1 = .ok (.iload_n 1, 1) := by decide +kernel
theorem dL_isNormal_2 : decode cL_isNormal 2 = .ok (.iconst 3, 1) := by decide +kernel
theorem dL_isNormal_3 : decode cL_isNormal 3 = .ok (.invokestatic 181, 3) := by decide +kernel
theorem dL_isNormal_6 : decode cL_isNormal 6 = .ok (.istore_n 2, 1) := by decide +kernel
theorem dL_isNormal_7 : decode cL_isNormal 7 = .ok (.aload_n 0, 1) := by decide +kernel
theorem dL_isNormal_8 : decode cL_isNormal 8 = .ok (.iload_n 1, 1) := by decide +kernel
theorem dL_isNormal_9 : decode cL_isNormal 9 = .ok (.invokestatic 215, 3) := by decide +kernel
theorem dL_isNormal_12 : decode cL_isNormal 12 = .ok (.istore_n 3, 1) := by decide +kernel
theorem dL_isNormal_13 : decode cL_isNormal 13 = .ok (.iload_n 2, 1) := by decide +kernel
theorem dL_isNormal_14 : decode cL_isNormal 14 = .ok (.ifCond .ne 25, 3) := by decide +kernel
theorem dL_isNormal_17 : decode cL_isNormal 17 = .ok (.iload_n 3, 1) := by decide +kernel
theorem dL_isNormal_18 : decode cL_isNormal 18 = .ok (.sipush (-1002), 3) := by decide +kernel
theorem dL_isNormal_21 : decode cL_isNormal 21 = .ok (.if_icmp .ne 16, 3) := by decide +kernel
theorem dL_isNormal_24 : decode cL_isNormal 24 = .ok (.aload_n 0, 1) := by decide +kernel
theorem dL_isNormal_25 : decode cL_isNormal 25 = .ok (.iload_n 1, 1) := by decide +kernel
theorem dL_isNormal_26 : decode cL_isNormal 26 = .ok (.invokestatic 219, 3) := by decide +kernel
theorem dL_isNormal_29 : decode cL_isNormal 29 = .ok (.iload_n 1, 1) := by decide +kernel
theorem dL_isNormal_30 : decode cL_isNormal 30 = .ok (.if_icmp .ne 7, 3) := by decide +kernel
theorem dL_isNormal_33 : decode cL_isNormal 33 = .ok (.iconst 1, 1) := by decide +kernel
theorem dL_isNormal_34 : decode cL_isNormal 34 = .ok (.goto 4, 3) := by decide +kernel
theorem dL_isNormal_37 : decode cL_isNormal 37 = .ok (.iconst 0, 1) := by decide +kernel
theorem dL_isNormal_38 : decode cL_isNormal 38 = .ok (.ireturn, 1) := by decide +kernel
theorem dL_isNormal_39 : decode cL_isNormal 39 = .ok (.iload_n 3, 1) := by decide +kernel
theorem dL_isNormal_40 : decode cL_isNormal 40 = .ok (.ifCond .lt 32, 3) := by decide +kernel
theorem dL_isNormal_43 : decode cL_isNormal 43 = .ok (.aload_n 0, 1) := by decide +kernel
theorem dL_isNormal_44 : decode cL_isNormal 44 = .ok (.iload_n 3, 1) := by decide +kernel
theorem dL_isNormal_45 : decode cL_isNormal 45 = .ok (.iconst 1, 1) := by decide +kernel
theorem dL_isNormal_46 : decode cL_isNormal 46 = .ok (.invokestatic 181, 3) := by decide +kernel
theorem dL_isNormal_49 : decode cL_isNormal 49 = .ok (.aload_n 0, 1) := by decide +kernel
theorem dL_isNormal_50 : decode cL_isNormal 50 = .ok (.iload_n 1, 1) := by decide +kernel
theorem dL_isNormal_51 : decode cL_isNormal 51 = .ok (.iconst 1, 1) := by decide +kernel
theorem dL_isNormal_52 : decode cL_isNormal 52 = .ok (.invokestatic 181, 3) := by decide +kernel
theorem dL_isNormal_55 : decode cL_isNormal 55 = .ok (.if_icmp .ne 15, 3) := by decide +kernel
theorem dL_isNormal_58 : decode cL_isNormal 58 = .ok (.aload_n 0, 1) := by decide +kernel
theorem dL_isNormal_59 : decode cL_isNormal 59 = .ok (.iload_n 3, 1) := by decide +kernel
theorem dL_isNormal_60 : decode cL_isNormal 60 = .ok (.iconst 3, 1) := by decide +kernel
theorem dL_isNormal_61 : decode cL_isNormal 61 = .ok (.invokestatic 181, 3) := by decide +kernel
theorem dL_isNormal_64 : decode cL_isNormal 64 = .ok (.iload_n 2, 1) := by decide +kernel
theorem dL_isNormal_65 : decode cL_isNormal 65 = .ok (.iconst 1, 1) := by decide +kernel
theorem dL_isNormal_66 : decode cL_isNormal 66 = .ok (.isub, 1) := by decide +kernel
theorem dL_isNormal_67 : decode cL_isNormal 67 = .ok (.if_icmp .eq 5, 3) := by decide +kernel
theorem dL_isNormal_70 : decode cL_isNormal 70 = .ok (.iconst 0, 1) := by decide +kernel
theorem dL_isNormal_71 : decode cL_isNormal 71 = .ok (.ireturn, 1) := by decide +kernel
theorem dL_isNormal_72 : decode cL_isNormal 72 = .ok (.aload_n 0, 1) := by decide +kernel
theorem dL_isNormal_73 : decode cL_isNormal 73 = .ok (.iload_n 1, 1) := by decide +kernel
theorem dL_isNormal_74 : decode cL_isNormal 74 = .ok (.invokestatic 219, 3) := by decide +kernel
theorem dL_isNormal_77 : decode cL_isNormal 77 = .ok (.istore 4, 2) := by decide +kernel
theorem dL_isNormal_79 : decode cL_isNormal 79 = .ok (.iload_n 3, 1) := by decide +kernel
theorem dL_isNormal_80 : decode cL_isNormal 80 = .ok (.sipush (-1002), 3) := by decide +kernel
theorem dL_isNormal_83 : decode cL_isNormal 83 = .ok (.if_icmp .ne 7, 3) := by decide +kernel
theorem dL_isNormal_86 : decode cL_isNormal 86 = .ok (.iconst 0, 1) := by decide +kernel
theorem dL_isNormal_87 : decode cL_isNormal 87 = .ok (.goto 50, 3) := by decide +kernel
theorem dL_isNormal_90 : decode cL_isNormal 90 = .ok (.iload 4, 2) := by decide +kernel
theorem dL_isNormal_92 : decode cL_isNormal 92 = .ok (.ifCond .lt 40, 3) := by decide +kernel
theorem dL_isNormal_95 : decode cL_isNormal 95 = .ok (.aload_n 0, 1) := by decide +kernel
theorem dL_isNormal_96 : decode cL_isNormal 96 = .ok (.iload 4, 2) := by decide +kernel
theorem dL_isNormal_98 : decode cL_isNormal 98 = .ok (.iconst 3, 1) := by decide +kernel
theorem dL_isNormal_99 : decode cL_isNormal 99 = .ok (.invokestatic 181, 3) := by decide +kernel
theorem dL_isNormal_102 : decode cL_isNormal 102 = .ok (.ifCond .ne 34, 3) := by decide +kernel
theorem dL_isNormal_105 : decode cL_isNormal 105 = .ok (.aload_n 0, 1) := by decide +kernel
theorem dL_isNormal_106 : decode cL_isNormal 106 = .ok (.iload 4, 2) := by decide +kernel
theorem dL_isNormal_108 : decode cL_isNormal 108 = .ok (.iconst 1, 1) := by decide +kernel
theorem dL_isNormal_109 : decode cL_isNormal 109 = .ok (.invokestatic 181, 3) := by decide +kernel
theorem dL_isNormal_112 : decode cL_isNormal 112 = .ok (.aload_n 0, 1) := by decide +kernel
theorem dL_isNormal_113 : decode cL_isNormal 113 = .ok (.iload_n 1, 1) := by decide +kernel
theorem dL_isNormal_114 : decode cL_isNormal 114 = .ok (.iconst 1, 1) := by decide +kernel
theorem dL_isNormal_115 : decode cL_isNormal 115 = .ok (.invokestatic 181, 3) := by decide +kernel
theorem dL_isNormal_118 : decode cL_isNormal 118 = .ok (.if_icmp .ne 18, 3) := by decide +kernel
theorem dL_isNormal_121 : decode cL_isNormal 121 = .ok (.aload_n 0, 1) := by decide +kernel
theorem dL_isNormal_122 : decode cL_isNormal 122 = .ok (.iload 4, 2) := by decide +kernel
theorem dL_isNormal_124 : decode cL_isNormal 124 = .ok (.invokestatic 219, 3) := by decide +kernel
theorem dL_isNormal_127 : decode cL_isNormal 127 = .ok (.iload 4, 2) := by decide +kernel
theorem dL_isNormal_129 : decode cL_isNormal 129 = .ok (.if_icmp .ne 7, 3) := by decide +kernel
theorem dL_isNormal_132 : decode cL_isNormal 132 = .ok (.iconst 1, 1) := by decide +kernel
theorem dL_isNormal_133 : decode cL_isNormal 133 = .ok (.goto 4, 3) := by decide +kernel
theorem dL_isNormal_136 : decode cL_isNormal 136 = .ok (.iconst 0, 1) := by decide +kernel
theorem dL_isNormal_137 : decode cL_isNormal 137 = .ok (.ireturn, 1) := by decide +kernel
theorem dL_law_0 : decode cL_law 0 = .ok (.new 8, 3) := by decide +kernel
theorem dL_law_3 : decode cL_law 3 = .ok (.dup, 1) := by decide +kernel
theorem dL_law_4 : decode cL_law 4 = .ok (.invokespecial 222, 3) := by decide +kernel
theorem dL_law_7 : decode cL_law 7 = .ok (.astore_n 1, 1) := by decide +kernel
theorem dL_law_8 : decode cL_law 8 = .ok (.aload_n 0, 1) := by decide +kernel
theorem dL_law_9 : decode cL_law 9 = .ok (.iconst 0, 1) := by decide +kernel
theorem dL_law_10 : decode cL_law 10 = .ok (.invokestatic 223, 3) := by decide +kernel
theorem dL_law_13 : decode cL_law 13 = .ok (.bipush 54, 2) := by decide +kernel
theorem dL_law_15 : decode cL_law 15 = .ok (.invokestatic 227, 3) := by decide +kernel
theorem dL_law_18 : decode cL_law 18 = .ok (.istore_n 2, 1) := by decide +kernel
theorem dL_law_19 : decode cL_law 19 = .ok (.iconst 0, 1) := by decide +kernel
theorem dL_law_20 : decode cL_law 20 = .ok (.istore_n 3, 1) := by decide +kernel
theorem dL_law_21 : decode cL_law 21 = .ok (.iload_n 3, 1) := by decide +kernel
theorem dL_law_22 : decode cL_law 22 = .ok (.iload_n 2, 1) := by decide +kernel
theorem dL_law_23 : decode cL_law 23 = .ok (.if_icmp .ge 509, 3) := by decide +kernel
theorem dL_law_26 : decode cL_law 26 = .ok (.aload_n 0, 1) := by decide +kernel
theorem dL_law_27 : decode cL_law 27 = .ok (.iconst 1, 1) := by decide +kernel
theorem dL_law_28 : decode cL_law 28 = .ok (.iload_n 3, 1) := by decide +kernel
theorem dL_law_29 : decode cL_law 29 = .ok (.iadd, 1) := by decide +kernel
theorem dL_law_30 : decode cL_law 30 = .ok (.invokestatic 223, 3) := by decide +kernel
theorem dL_law_33 : decode cL_law 33 = .ok (.ldc 230, 2) := by decide +kernel
theorem dL_law_35 : decode cL_law 35 = .ok (.invokestatic 227, 3) := by decide +kernel
theorem dL_law_38 : decode cL_law 38 = .ok (.istore 4, 2) := by decide +kernel
theorem dL_law_40 : decode cL_law 40 = .ok (.iload 4, 2) := by decide +kernel
theorem dL_law_42 : decode cL_law 42 = .ok (.bipush 48, 2) := by decide +kernel
theorem dL_law_44 : decode cL_law 44 = .ok (.idiv, 1) := by decide +kernel
theorem dL_law_45 : decode cL_law 45 = .ok (.istore 5, 2) := by decide +kernel
theorem dL_law_47 : decode cL_law 47 = .ok (.iconst 1, 1) := by decide +kernel
theorem dL_law_48 : decode cL_law 48 = .ok (.aload_n 1, 1) := by decide +kernel
theorem dL_law_49 : decode cL_law 49 = .ok (.invokevirtual 156, 3) := by decide +kernel
theorem dL_law_52 : decode cL_law 52 = .ok (.invokestatic 231, 3) := by decide +kernel
theorem dL_law_55 : decode cL_law 55 = .ok (.istore 6, 2) := by decide +kernel
theorem dL_law_57 : decode cL_law 57 = .ok (.iconst 1, 1) := by decide +kernel
theorem dL_law_58 : decode cL_law 58 = .ok (.aload_n 1, 1) := by decide +kernel
theorem dL_law_59 : decode cL_law 59 = .ok (.invokevirtual 161, 3) := by decide +kernel
theorem dL_law_62 : decode cL_law 62 = .ok (.invokestatic 231, 3) := by decide +kernel
theorem dL_law_65 : decode cL_law 65 = .ok (.istore 7, 2) := by decide +kernel
theorem dL_law_67 : decode cL_law 67 = .ok (.iconst 1, 1) := by decide +kernel
theorem dL_law_68 : decode cL_law 68 = .ok (.aload_n 1, 1) := by decide +kernel
theorem dL_law_69 : decode cL_law 69 = .ok (.invokevirtual 166, 3) := by decide +kernel
theorem dL_law_72 : decode cL_law 72 = .ok (.invokestatic 231, 3) := by decide +kernel
theorem dL_law_75 : decode cL_law 75 = .ok (.istore 8, 2) := by decide +kernel
theorem dL_law_77 : decode cL_law 77 = .ok (.aload_n 1, 1) := by decide +kernel
theorem dL_law_78 : decode cL_law 78 = .ok (.invokestatic 236, 3) := by decide +kernel
theorem dL_law_81 : decode cL_law 81 = .ok (.lstore 9, 2) := by decide +kernel
theorem dL_law_83 : decode cL_law 83 = .ok (.iconst 0, 1) := by decide +kernel
theorem dL_law_84 : decode cL_law 84 = .ok (.istore 11, 2) := by decide +kernel
theorem dL_law_86 : decode cL_law 86 = .ok (.iload 4, 2) := by decide +kernel
theorem dL_law_88 : decode cL_law 88 = .ok (.bipush 48, 2) := by decide +kernel
theorem dL_law_90 : decode cL_law 90 = .ok (.irem, 1) := by decide +kernel
theorem dL_law_91 : decode cL_law 91 = .ok (.istore 12, 2) := by decide +kernel
theorem dL_law_93 : decode cL_law 93 = .ok (.iload 12, 2) := by decide +kernel
theorem dL_law_95 : decode cL_law 95 = .ok (.iconst 4, 1) := by decide +kernel
theorem dL_law_96 : decode cL_law 96 = .ok (.if_icmp .ge 16, 3) := by decide +kernel
theorem dL_law_99 : decode cL_law 99 = .ok (.aload_n 1, 1) := by decide +kernel
theorem dL_law_100 : decode cL_law 100 = .ok (.iload 5, 2) := by decide +kernel
theorem dL_law_102 : decode cL_law 102 = .ok (.iconst 5, 1) := by decide +kernel
theorem dL_law_103 : decode cL_law 103 = .ok (.irem, 1) := by decide +kernel
theorem dL_law_104 : decode cL_law 104 = .ok (.invokestatic 240, 3) := by decide +kernel
theorem dL_law_107 : decode cL_law 107 = .ok (.istore 11, 2) := by decide +kernel
theorem dL_law_109 : decode cL_law 109 = .ok (.goto 381, 3) := by decide +kernel
theorem dL_law_112 : decode cL_law 112 = .ok (.iload 12, 2) := by decide +kernel
theorem dL_law_114 : decode cL_law 114 = .ok (.iconst 5, 1) := by decide +kernel
theorem dL_law_115 : decode cL_law 115 = .ok (.if_icmp .ge 12, 3) := by decide +kernel
theorem dL_law_118 : decode cL_law 118 = .ok (.aload_n 1, 1) := by decide +kernel
theorem dL_law_119 : decode cL_law 119 = .ok (.invokestatic 242, 3) := by decide +kernel
theorem dL_law_122 : decode cL_law 122 = .ok (.istore 11, 2) := by decide +kernel
theorem dL_law_124 : decode cL_law 124 = .ok (.goto 366, 3) := by decide +kernel
theorem dL_law_127 : decode cL_law 127 = .ok (.iload 12, 2) := by decide +kernel
theorem dL_law_129 : decode cL_law 129 = .ok (.bipush 14, 2) := by decide +kernel
theorem dL_law_131 : decode cL_law 131 = .ok (.if_icmp .ge 37, 3) := by decide +kernel
theorem dL_law_134 : decode cL_law 134 = .ok (.aload_n 1, 1) := by decide +kernel
theorem dL_law_135 : decode cL_law 135 = .ok (.ldc 244, 2) := by decide +kernel
theorem dL_law_137 : decode cL_law 137 = .ok (.iload 5, 2) := by decide +kernel
theorem dL_law_139 : decode cL_law 139 = .ok (.iconst 4, 1) := by decide +kernel
theorem dL_law_140 : decode cL_law 140 = .ok (.irem, 1) := by decide +kernel
theorem dL_law_141 : decode cL_law 141 = .ok (.invokevirtual 246, 3) := by decide +kernel
theorem dL_law_144 : decode cL_law 144 = .ok (.iload 5, 2) := by decide +kernel
theorem dL_law_146 : decode cL_law 146 = .ok (.iconst 4, 1) := by decide +kernel
theorem dL_law_147 : decode cL_law 147 = .ok (.idiv, 1) := by decide +kernel
theorem dL_law_148 : decode cL_law 148 = .ok (.iload 6, 2) := by decide +kernel
theorem dL_law_150 : decode cL_law 150 = .ok (.irem, 1) := by decide +kernel
theorem dL_law_151 : decode cL_law 151 = .ok (.iload 5, 2) := by decide +kernel
theorem dL_law_153 : decode cL_law 153 = .ok (.sipush 400, 3) := by decide +kernel
theorem dL_law_156 : decode cL_law 156 = .ok (.idiv, 1) := by decide +kernel
theorem dL_law_157 : decode cL_law 157 = .ok (.iload 6, 2) := by decide +kernel
theorem dL_law_159 : decode cL_law 159 = .ok (.irem, 1) := by decide +kernel
theorem dL_law_160 : decode cL_law 160 = .ok (.invokestatic 251, 3) := by decide +kernel
theorem dL_law_163 : decode cL_law 163 = .ok (.istore 11, 2) := by decide +kernel
theorem dL_law_165 : decode cL_law 165 = .ok (.goto 325, 3) := by decide +kernel
theorem dL_law_168 : decode cL_law 168 = .ok (.iload 12, 2) := by decide +kernel
theorem dL_law_170 : decode cL_law 170 = .ok (.bipush 16, 2) := by decide +kernel
theorem dL_law_172 : decode cL_law 172 = .ok (.if_icmp .ge 23, 3) := by decide +kernel
theorem dL_law_175 : decode cL_law 175 = .ok (.aload_n 1, 1) := by decide +kernel
theorem dL_law_176 : decode cL_law 176 = .ok (.iload 5, 2) := by decide +kernel
theorem dL_law_178 : decode cL_law 178 = .ok (.iconst 5, 1) := by decide +kernel
theorem dL_law_179 : decode cL_law 179 = .ok (.irem, 1) := by decide +kernel
theorem dL_law_180 : decode cL_law 180 = .ok (.iload 5, 2) := by decide +kernel
theorem dL_law_182 : decode cL_law 182 = .ok (.iconst 5, 1) := by decide +kernel
theorem dL_law_183 : decode cL_law 183 = .ok (.idiv, 1) := by decide +kernel
theorem dL_law_184 : decode cL_law 184 = .ok (.iload 6, 2) := by decide +kernel
theorem dL_law_186 : decode cL_law 186 = .ok (.irem, 1) := by decide +kernel
theorem dL_law_187 : decode cL_law 187 = .ok (.invokestatic 255, 3) := by decide +kernel
theorem dL_law_190 : decode cL_law 190 = .ok (.istore 11, 2) := by decide +kernel
theorem dL_law_192 : decode cL_law 192 = .ok (.goto 298, 3) := by decide +kernel
theorem dL_law_195 : decode cL_law 195 = .ok (.iload 12, 2) := by decide +kernel
theorem dL_law_197 : decode cL_law 197 = .ok (.bipush 17, 2) := by decide +kernel
theorem dL_law_199 : decode cL_law 199 = .ok (.if_icmp .ge 24, 3) := by decide +kernel
theorem dL_law_202 : decode cL_law 202 = .ok (.aload_n 1, 1) := by decide +kernel
theorem dL_law_203 : decode cL_law 203 = .ok (.invokevirtual 156, 3) := by decide +kernel
theorem dL_law_206 : decode cL_law 206 = .ok (.ifCond .le 284, 3) := by decide +kernel
theorem dL_law_209 : decode cL_law 209 = .ok (.aload_n 1, 1) := by decide +kernel
theorem dL_law_210 : decode cL_law 210 = .ok (.iload 5, 2) := by decide +kernel
theorem dL_law_212 : decode cL_law 212 = .ok (.iload 6, 2) := by decide +kernel
theorem dL_law_214 : decode cL_law 214 = .ok (.irem, 1) := by decide +kernel
theorem dL_law_215 : decode cL_law 215 = .ok (.invokestatic 258, 3) := by decide +kernel
theorem dL_law_218 : decode cL_law 218 = .ok (.ifCond .ne 272, 3) := by decide +kernel
theorem dL_law_221 : decode cL_law 221 = .ok (.iconst 0, 1) := by decide +kernel
theorem dL_law_222 : decode cL_law 222 = .ok (.ireturn, 1) := by decide +kernel
theorem dL_law_223 : decode cL_law 223 = .ok (.iload 12, 2) := by decide +kernel
theorem dL_law_225 : decode cL_law 225 = .ok (.bipush 18, 2) := by decide +kernel
theorem dL_law_227 : decode cL_law 227 = .ok (.if_icmp .ge 19, 3) := by decide +kernel
theorem dL_law_230 : decode cL_law 230 = .ok (.iload 5, 2) := by decide +kernel
theorem dL_law_232 : decode cL_law 232 = .ok (.iconst 5, 1) := by decide +kernel
theorem dL_law_233 : decode cL_law 233 = .ok (.irem, 1) := by decide +kernel
theorem dL_law_234 : decode cL_law 234 = .ok (.ifCond .ne 12, 3) := by decide +kernel
theorem dL_law_237 : decode cL_law 237 = .ok (.aload_n 1, 1) := by decide +kernel
theorem dL_law_238 : decode cL_law 238 = .ok (.invokevirtual 262, 3) := by decide +kernel
theorem dL_law_241 : decode cL_law 241 = .ok (.istore 11, 2) := by decide +kernel
theorem dL_law_243 : decode cL_law 243 = .ok (.goto 247, 3) := by decide +kernel
theorem dL_law_246 : decode cL_law 246 = .ok (.iload 12, 2) := by decide +kernel
theorem dL_law_248 : decode cL_law 248 = .ok (.bipush 22, 2) := by decide +kernel
theorem dL_law_250 : decode cL_law 250 = .ok (.if_icmp .ge 7, 3) := by decide +kernel
theorem dL_law_253 : decode cL_law 253 = .ok (.iconst 0, 1) := by decide +kernel
theorem dL_law_254 : decode cL_law 254 = .ok (.goto 32, 3) := by decide +kernel
theorem dL_law_257 : decode cL_law 257 = .ok (.iload 12, 2) := by decide +kernel
theorem dL_law_259 : decode cL_law 259 = .ok (.bipush 26, 2) := by decide +kernel
theorem dL_law_261 : decode cL_law 261 = .ok (.if_icmp .ge 7, 3) := by decide +kernel
theorem dL_law_264 : decode cL_law 264 = .ok (.iconst 1, 1) := by decide +kernel
theorem dL_law_265 : decode cL_law 265 = .ok (.goto 21, 3) := by decide +kernel
theorem dL_law_268 : decode cL_law 268 = .ok (.iload 12, 2) := by decide +kernel
theorem dL_law_270 : decode cL_law 270 = .ok (.bipush 30, 2) := by decide +kernel
theorem dL_law_272 : decode cL_law 272 = .ok (.if_icmp .ge 7, 3) := by decide +kernel
theorem dL_law_275 : decode cL_law 275 = .ok (.iconst 2, 1) := by decide +kernel
theorem dL_law_276 : decode cL_law 276 = .ok (.goto 10, 3) := by decide +kernel
theorem dL_law_279 : decode cL_law 279 = .ok (.iconst 3, 1) := by decide +kernel
theorem dL_law_280 : decode cL_law 280 = .ok (.iload 12, 2) := by decide +kernel
theorem dL_law_282 : decode cL_law 282 = .ok (.bipush 13, 2) := by decide +kernel
theorem dL_law_284 : decode cL_law 284 = .ok (.irem, 1) := by decide +kernel
theorem dL_law_285 : decode cL_law 285 = .ok (.iadd, 1) := by decide +kernel
theorem dL_law_286 : decode cL_law 286 = .ok (.istore 13, 2) := by decide +kernel
theorem dL_law_288 : decode cL_law 288 = .ok (.iload 13, 2) := by decide +kernel
theorem dL_law_290 : decode cL_law 290 = .ok (.iconst 2, 1) := by decide +kernel
theorem dL_law_291 : decode cL_law 291 = .ok (.if_icmp .ge 11, 3) := by decide +kernel
theorem dL_law_294 : decode cL_law 294 = .ok (.iload 5, 2) := by decide +kernel
theorem dL_law_296 : decode cL_law 296 = .ok (.iload 6, 2) := by decide +kernel
theorem dL_law_298 : decode cL_law 298 = .ok (.irem, 1) := by decide +kernel
theorem dL_law_299 : decode cL_law 299 = .ok (.goto 54, 3) := by decide +kernel
theorem dL_law_302 : decode cL_law 302 = .ok (.iload 13, 2) := by decide +kernel
theorem dL_law_304 : decode cL_law 304 = .ok (.bipush 8, 2) := by decide +kernel
theorem dL_law_306 : decode cL_law 306 = .ok (.if_icmp .eq 10, 3) := by decide +kernel
theorem dL_law_309 : decode cL_law 309 = .ok (.iload 13, 2) := by decide +kernel
theorem dL_law_311 : decode cL_law 311 = .ok (.bipush 10, 2) := by decide +kernel
theorem dL_law_313 : decode cL_law 313 = .ok (.if_icmp .ne 16, 3) := by decide +kernel
theorem dL_law_316 : decode cL_law 316 = .ok (.iload 8, 2) := by decide +kernel
theorem dL_law_318 : decode cL_law 318 = .ok (.iconst 1, 1) := by decide +kernel
theorem dL_law_319 : decode cL_law 319 = .ok (.isub, 1) := by decide +kernel
theorem dL_law_320 : decode cL_law 320 = .ok (.iload 5, 2) := by decide +kernel
theorem dL_law_322 : decode cL_law 322 = .ok (.iload 8, 2) := by decide +kernel
theorem dL_law_324 : decode cL_law 324 = .ok (.irem, 1) := by decide +kernel
theorem dL_law_325 : decode cL_law 325 = .ok (.isub, 1) := by decide +kernel
theorem dL_law_326 : decode cL_law 326 = .ok (.goto 27, 3) := by decide +kernel
theorem dL_law_329 : decode cL_law 329 = .ok (.iload 13, 2) := by decide +kernel
theorem dL_law_331 : decode cL_law 331 = .ok (.bipush 15, 2) := by decide +kernel
theorem dL_law_333 : decode cL_law 333 = .ok (.if_icmp .ne 10, 3) := by decide +kernel
theorem dL_law_336 : decode cL_law 336 = .ok (.iload 5, 2) := by decide +kernel
theorem dL_law_338 : decode cL_law 338 = .ok (.iconst 3, 1) := by decide +kernel
theorem dL_law_339 : decode cL_law 339 = .ok (.irem, 1) := by decide +kernel
theorem dL_law_340 : decode cL_law 340 = .ok (.goto 13, 3) := by decide +kernel
theorem dL_law_343 : decode cL_law 343 = .ok (.iload 7, 2) := by decide +kernel
theorem dL_law_345 : decode cL_law 345 = .ok (.iconst 1, 1) := by decide +kernel
theorem dL_law_346 : decode cL_law 346 = .ok (.isub, 1) := by decide +kernel
theorem dL_law_347 : decode cL_law 347 = .ok (.iload 5, 2) := by decide +kernel
theorem dL_law_349 : decode cL_law 349 = .ok (.iload 7, 2) := by decide +kernel
theorem dL_law_351 : decode cL_law 351 = .ok (.irem, 1) := by decide +kernel
theorem dL_law_352 : decode cL_law 352 = .ok (.isub, 1) := by decide +kernel
theorem dL_law_353 : decode cL_law 353 = .ok (.istore 14, 2) := by decide +kernel
theorem dL_law_355 : decode cL_law 355 = .ok (.iload 13, 2) := by decide +kernel
theorem dL_law_357 : decode cL_law 357 = .ok (.bipush 6, 2) := by decide +kernel
theorem dL_law_359 : decode cL_law 359 = .ok (.if_icmp .eq 10, 3) := by decide +kernel
theorem dL_law_362 : decode cL_law 362 = .ok (.iload 13, 2) := by decide +kernel
theorem dL_law_364 : decode cL_law 364 = .ok (.bipush 12, 2) := by decide +kernel
theorem dL_law_366 : decode cL_law 366 = .ok (.if_icmp .ne 14, 3) := by decide +kernel
theorem dL_law_369 : decode cL_law 369 = .ok (.iload 5, 2) := by decide +kernel
theorem dL_law_371 : decode cL_law 371 = .ok (.bipush 60, 2) := by decide +kernel
theorem dL_law_373 : decode cL_law 373 = .ok (.idiv, 1) := by decide +kernel
theorem dL_law_374 : decode cL_law 374 = .ok (.iload 6, 2) := by decide +kernel
theorem dL_law_376 : decode cL_law 376 = .ok (.irem, 1) := by decide +kernel
theorem dL_law_377 : decode cL_law 377 = .ok (.goto 29, 3) := by decide +kernel
theorem dL_law_380 : decode cL_law 380 = .ok (.iload 13, 2) := by decide +kernel
theorem dL_law_382 : decode cL_law 382 = .ok (.bipush 7, 2) := by decide +kernel
theorem dL_law_384 : decode cL_law 384 = .ok (.if_icmp .ne 14, 3) := by decide +kernel
theorem dL_law_387 : decode cL_law 387 = .ok (.iload 5, 2) := by decide +kernel
theorem dL_law_389 : decode cL_law 389 = .ok (.bipush 60, 2) := by decide +kernel
theorem dL_law_391 : decode cL_law 391 = .ok (.idiv, 1) := by decide +kernel
theorem dL_law_392 : decode cL_law 392 = .ok (.iload 8, 2) := by decide +kernel
theorem dL_law_394 : decode cL_law 394 = .ok (.irem, 1) := by decide +kernel
theorem dL_law_395 : decode cL_law 395 = .ok (.goto 11, 3) := by decide +kernel
theorem dL_law_398 : decode cL_law 398 = .ok (.iload 5, 2) := by decide +kernel
theorem dL_law_400 : decode cL_law 400 = .ok (.bipush 60, 2) := by decide +kernel
theorem dL_law_402 : decode cL_law 402 = .ok (.idiv, 1) := by decide +kernel
theorem dL_law_403 : decode cL_law 403 = .ok (.iload 7, 2) := by decide +kernel
theorem dL_law_405 : decode cL_law 405 = .ok (.irem, 1) := by decide +kernel
theorem dL_law_406 : decode cL_law 406 = .ok (.istore 15, 2) := by decide +kernel
theorem dL_law_408 : decode cL_law 408 = .ok (.aload_n 1, 1) := by decide +kernel
theorem dL_law_409 : decode cL_law 409 = .ok (.iload 13, 2) := by decide +kernel
theorem dL_law_411 : decode cL_law 411 = .ok (.iload 14, 2) := by decide +kernel
theorem dL_law_413 : decode cL_law 413 = .ok (.iload 15, 2) := by decide +kernel
theorem dL_law_415 : decode cL_law 415 = .ok (.iload 13, 2) := by decide +kernel
theorem dL_law_417 : decode cL_law 417 = .ok (.bipush 7, 2) := by decide +kernel
theorem dL_law_419 : decode cL_law 419 = .ok (.if_icmp .ne 15, 3) := by decide +kernel
theorem dL_law_422 : decode cL_law 422 = .ok (.iload 5, 2) := by decide +kernel
theorem dL_law_424 : decode cL_law 424 = .ok (.sipush 3600, 3) := by decide +kernel
theorem dL_law_427 : decode cL_law 427 = .ok (.idiv, 1) := by decide +kernel
theorem dL_law_428 : decode cL_law 428 = .ok (.iload 8, 2) := by decide +kernel
theorem dL_law_430 : decode cL_law 430 = .ok (.irem, 1) := by decide +kernel
theorem dL_law_431 : decode cL_law 431 = .ok (.goto 12, 3) := by decide +kernel
theorem dL_law_434 : decode cL_law 434 = .ok (.iload 5, 2) := by decide +kernel
theorem dL_law_436 : decode cL_law 436 = .ok (.sipush 3600, 3) := by decide +kernel
theorem dL_law_439 : decode cL_law 439 = .ok (.idiv, 1) := by decide +kernel
theorem dL_law_440 : decode cL_law 440 = .ok (.iload 7, 2) := by decide +kernel
theorem dL_law_442 : decode cL_law 442 = .ok (.irem, 1) := by decide +kernel
theorem dL_law_443 : decode cL_law 443 = .ok (.invokestatic 265, 3) := by decide +kernel
theorem dL_law_446 : decode cL_law 446 = .ok (.istore 11, 2) := by decide +kernel
theorem dL_law_448 : decode cL_law 448 = .ok (.iload 11, 2) := by decide +kernel
theorem dL_law_450 : decode cL_law 450 = .ok (.ifCond .lt 40, 3) := by decide +kernel
theorem dL_law_453 : decode cL_law 453 = .ok (.iload 13, 2) := by decide +kernel
theorem dL_law_455 : decode cL_law 455 = .ok (.iconst 2, 1) := by decide +kernel
theorem dL_law_456 : decode cL_law 456 = .ok (.if_icmp .eq 34, 3) := by decide +kernel
theorem dL_law_459 : decode cL_law 459 = .ok (.iload 13, 2) := by decide +kernel
theorem dL_law_461 : decode cL_law 461 = .ok (.bipush 14, 2) := by decide +kernel
theorem dL_law_463 : decode cL_law 463 = .ok (.if_icmp .eq 27, 3) := by decide +kernel
theorem dL_law_466 : decode cL_law 466 = .ok (.aload_n 1, 1) := by decide +kernel
theorem dL_law_467 : decode cL_law 467 = .ok (.invokevirtual 161, 3) := by decide +kernel
theorem dL_law_470 : decode cL_law 470 = .ok (.iload 11, 2) := by decide +kernel
theorem dL_law_472 : decode cL_law 472 = .ok (.iconst 1, 1) := by decide +kernel
theorem dL_law_473 : decode cL_law 473 = .ok (.iadd, 1) := by decide +kernel
theorem dL_law_474 : decode cL_law 474 = .ok (.if_icmp .ne 14, 3) := by decide +kernel
theorem dL_law_477 : decode cL_law 477 = .ok (.aload_n 1, 1) := by decide +kernel
theorem dL_law_478 : decode cL_law 478 = .ok (.iload 11, 2) := by decide +kernel
theorem dL_law_480 : decode cL_law 480 = .ok (.iconst 3, 1) := by decide +kernel
theorem dL_law_481 : decode cL_law 481 = .ok (.invokestatic 190, 3) := by decide +kernel
theorem dL_law_484 : decode cL_law 484 = .ok (.iconst 1, 1) := by decide +kernel
theorem dL_law_485 : decode cL_law 485 = .ok (.if_icmp .eq 5, 3) := by decide +kernel
theorem dL_law_488 : decode cL_law 488 = .ok (.iconst 0, 1) := by decide +kernel
theorem dL_law_489 : decode cL_law 489 = .ok (.ireturn, 1) := by decide +kernel
theorem dL_law_490 : decode cL_law 490 = .ok (.iload 11, 2) := by decide +kernel
theorem dL_law_492 : decode cL_law 492 = .ok (.sipush (-1000), 3) := by decide +kernel
theorem dL_law_495 : decode cL_law 495 = .ok (.if_icmp .ge 13, 3) := by decide +kernel
theorem dL_law_498 : decode cL_law 498 = .ok (.aload_n 1, 1) := by decide +kernel
theorem dL_law_499 : decode cL_law 499 = .ok (.invokestatic 236, 3) := by decide +kernel
theorem dL_law_502 : decode cL_law 502 = .ok (.lload 9, 2) := by decide +kernel
theorem dL_law_504 : decode cL_law 504 = .ok (.lcmp, 1) := by decide +kernel
theorem dL_law_505 : decode cL_law 505 = .ok (.ifCond .ne 19, 3) := by decide +kernel
theorem dL_law_508 : decode cL_law 508 = .ok (.iload_n 3, 1) := by decide +kernel
theorem dL_law_509 : decode cL_law 509 = .ok (.bipush 18, 2) := by decide +kernel
theorem dL_law_511 : decode cL_law 511 = .ok (.irem, 1) := by decide +kernel
theorem dL_law_512 : decode cL_law 512 = .ok (.bipush 17, 2) := by decide +kernel
theorem dL_law_514 : decode cL_law 514 = .ok (.if_icmp .ne 12, 3) := by decide +kernel
theorem dL_law_517 : decode cL_law 517 = .ok (.aload_n 1, 1) := by decide +kernel
theorem dL_law_518 : decode cL_law 518 = .ok (.invokestatic 269, 3) := by decide +kernel
theorem dL_law_521 : decode cL_law 521 = .ok (.ifCond .ne 5, 3) := by decide +kernel
theorem dL_law_524 : decode cL_law 524 = .ok (.iconst 0, 1) := by decide +kernel
theorem dL_law_525 : decode cL_law 525 = .ok (.ireturn, 1) := by decide +kernel
theorem dL_law_526 : decode cL_law 526 = .ok (.iinc 3 1, 3) := by decide +kernel
theorem dL_law_529 : decode cL_law 529 = .ok (.goto (-508), 3) := by decide +kernel
theorem dL_law_532 : decode cL_law 532 = .ok (.aload_n 1, 1) := by decide +kernel
theorem dL_law_533 : decode cL_law 533 = .ok (.invokestatic 269, 3) := by decide +kernel
theorem dL_law_536 : decode cL_law 536 = .ok (.ifCond .ne 5, 3) := by decide +kernel
theorem dL_law_539 : decode cL_law 539 = .ok (.iconst 0, 1) := by decide +kernel
theorem dL_law_540 : decode cL_law 540 = .ok (.ireturn, 1) := by decide +kernel
theorem dL_law_541 : decode cL_law 541 = .ok (.aload_n 1, 1) := by decide +kernel
theorem dL_law_542 : decode cL_law 542 = .ok (.invokestatic 236, 3) := by decide +kernel
theorem dL_law_545 : decode cL_law 545 = .ok (.lstore_n 3, 1) := by decide +kernel
theorem dL_law_546 : decode cL_law 546 = .ok (.aload_n 1, 1) := by decide +kernel
theorem dL_law_547 : decode cL_law 547 = .ok (.invokevirtual 156, 3) := by decide +kernel
theorem dL_law_550 : decode cL_law 550 = .ok (.istore 5, 2) := by decide +kernel
theorem dL_law_552 : decode cL_law 552 = .ok (.aload_n 1, 1) := by decide +kernel
theorem dL_law_553 : decode cL_law 553 = .ok (.invokevirtual 161, 3) := by decide +kernel
theorem dL_law_556 : decode cL_law 556 = .ok (.istore 6, 2) := by decide +kernel
theorem dL_law_558 : decode cL_law 558 = .ok (.aload_n 1, 1) := by decide +kernel
theorem dL_law_559 : decode cL_law 559 = .ok (.invokevirtual 166, 3) := by decide +kernel
theorem dL_law_562 : decode cL_law 562 = .ok (.istore 7, 2) := by decide +kernel
theorem dL_law_564 : decode cL_law 564 = .ok (.aload_n 1, 1) := by decide +kernel
theorem dL_law_565 : decode cL_law 565 = .ok (.iconst (-1), 1) := by decide +kernel
theorem dL_law_566 : decode cL_law 566 = .ok (.invokestatic 240, 3) := by decide +kernel
theorem dL_law_569 : decode cL_law 569 = .ok (.sipush (-1001), 3) := by decide +kernel
theorem dL_law_572 : decode cL_law 572 = .ok (.if_icmp .ne 131, 3) := by decide +kernel
theorem dL_law_575 : decode cL_law 575 = .ok (.aload_n 1, 1) := by decide +kernel
theorem dL_law_576 : decode cL_law 576 = .ok (.iconst 5, 1) := by decide +kernel
theorem dL_law_577 : decode cL_law 577 = .ok (.invokestatic 240, 3) := by decide +kernel
theorem dL_law_580 : decode cL_law 580 = .ok (.sipush (-1001), 3) := by decide +kernel
theorem dL_law_583 : decode cL_law 583 = .ok (.if_icmp .ne 120, 3) := by decide +kernel
theorem dL_law_586 : decode cL_law 586 = .ok (.aload_n 1, 1) := by decide +kernel
theorem dL_law_587 : decode cL_law 587 = .ok (.bipush 78, 2) := by decide +kernel
theorem dL_law_589 : decode cL_law 589 = .ok (.iload 5, 2) := by decide +kernel
theorem dL_law_591 : decode cL_law 591 = .ok (.iconst 0, 1) := by decide +kernel
theorem dL_law_592 : decode cL_law 592 = .ok (.invokestatic 251, 3) := by decide +kernel
theorem dL_law_595 : decode cL_law 595 = .ok (.sipush (-1001), 3) := by decide +kernel
theorem dL_law_598 : decode cL_law 598 = .ok (.if_icmp .ne 105, 3) := by decide +kernel
theorem dL_law_601 : decode cL_law 601 = .ok (.aload_n 1, 1) := by decide +kernel
theorem dL_law_602 : decode cL_law 602 = .ok (.bipush 75, 2) := by decide +kernel
theorem dL_law_604 : decode cL_law 604 = .ok (.iconst (-1), 1) := by decide +kernel
theorem dL_law_605 : decode cL_law 605 = .ok (.iconst 0, 1) := by decide +kernel
theorem dL_law_606 : decode cL_law 606 = .ok (.invokestatic 251, 3) := by decide +kernel
theorem dL_law_609 : decode cL_law 609 = .ok (.sipush (-1001), 3) := by decide +kernel
theorem dL_law_612 : decode cL_law 612 = .ok (.if_icmp .ne 91, 3) := by decide +kernel
theorem dL_law_615 : decode cL_law 615 = .ok (.aload_n 1, 1) := by decide +kernel
theorem dL_law_616 : decode cL_law 616 = .ok (.iload 5, 2) := by decide +kernel
theorem dL_law_618 : decode cL_law 618 = .ok (.iconst 0, 1) := by decide +kernel
theorem dL_law_619 : decode cL_law 619 = .ok (.invokestatic 187, 3) := by decide +kernel
theorem dL_law_622 : decode cL_law 622 = .ok (.sipush (-1001), 3) := by decide +kernel
theorem dL_law_625 : decode cL_law 625 = .ok (.if_icmp .ne 78, 3) := by decide +kernel
theorem dL_law_628 : decode cL_law 628 = .ok (.aload_n 1, 1) := by decide +kernel
theorem dL_law_629 : decode cL_law 629 = .ok (.iconst 5, 1) := by decide +kernel
theorem dL_law_630 : decode cL_law 630 = .ok (.iload 5, 2) := by decide +kernel
theorem dL_law_632 : decode cL_law 632 = .ok (.invokestatic 255, 3) := by decide +kernel
theorem dL_law_635 : decode cL_law 635 = .ok (.sipush (-1001), 3) := by decide +kernel
theorem dL_law_638 : decode cL_law 638 = .ok (.if_icmp .ne 65, 3) := by decide +kernel
theorem dL_law_641 : decode cL_law 641 = .ok (.aload_n 1, 1) := by decide +kernel
theorem dL_law_642 : decode cL_law 642 = .ok (.iconst 0, 1) := by decide +kernel
theorem dL_law_643 : decode cL_law 643 = .ok (.iload 5, 2) := by decide +kernel
theorem dL_law_645 : decode cL_law 645 = .ok (.invokestatic 255, 3) := by decide +kernel
theorem dL_law_648 : decode cL_law 648 = .ok (.sipush (-1002), 3) := by decide +kernel
theorem dL_law_651 : decode cL_law 651 = .ok (.if_icmp .ne 52, 3) := by decide +kernel
theorem dL_law_654 : decode cL_law 654 = .ok (.aload_n 1, 1) := by decide +kernel
theorem dL_law_655 : decode cL_law 655 = .ok (.iload 5, 2) := by decide +kernel
theorem dL_law_657 : decode cL_law 657 = .ok (.invokestatic 215, 3) := by decide +kernel
theorem dL_law_660 : decode cL_law 660 = .ok (.sipush (-1001), 3) := by decide +kernel
theorem dL_law_663 : decode cL_law 663 = .ok (.if_icmp .ne 40, 3) := by decide +kernel
theorem dL_law_666 : decode cL_law 666 = .ok (.aload_n 1, 1) := by decide +kernel
theorem dL_law_667 : decode cL_law 667 = .ok (.iconst (-1), 1) := by decide +kernel
theorem dL_law_668 : decode cL_law 668 = .ok (.invokestatic 219, 3) := by decide +kernel
theorem dL_law_671 : decode cL_law 671 = .ok (.sipush (-1001), 3) := by decide +kernel
theorem dL_law_674 : decode cL_law 674 = .ok (.if_icmp .ne 29, 3) := by decide +kernel
theorem dL_law_677 : decode cL_law 677 = .ok (.aload_n 1, 1) := by decide +kernel
theorem dL_law_678 : decode cL_law 678 = .ok (.iload 5, 2) := by decide +kernel
theorem dL_law_680 : decode cL_law 680 = .ok (.iconst 3, 1) := by decide +kernel
theorem dL_law_681 : decode cL_law 681 = .ok (.invokestatic 181, 3) := by decide +kernel
theorem dL_law_684 : decode cL_law 684 = .ok (.sipush (-1001), 3) := by decide +kernel
theorem dL_law_687 : decode cL_law 687 = .ok (.if_icmp .ne 16, 3) := by decide +kernel
theorem dL_law_690 : decode cL_law 690 = .ok (.aload_n 1, 1) := by decide +kernel
theorem dL_law_691 : decode cL_law 691 = .ok (.iload 5, 2) := by decide +kernel
theorem dL_law_693 : decode cL_law 693 = .ok (.iconst 1, 1) := by decide +kernel
theorem dL_law_694 : decode cL_law 694 = .ok (.invokestatic 202, 3) := by decide +kernel
theorem dL_law_697 : decode cL_law 697 = .ok (.sipush (-1001), 3) := by decide +kernel
theorem dL_law_700 : decode cL_law 700 = .ok (.if_icmp .eq 5, 3) := by decide +kernel
theorem dL_law_703 : decode cL_law 703 = .ok (.iconst 0, 1) := by decide +kernel
theorem dL_law_704 : decode cL_law 704 = .ok (.ireturn, 1) := by decide +kernel
theorem dL_law_705 : decode cL_law 705 = .ok (.aload_n 1, 1) := by decide +kernel
theorem dL_law_706 : decode cL_law 706 = .ok (.iconst 0, 1) := by decide +kernel
theorem dL_law_707 : decode cL_law 707 = .ok (.iload 5, 2) := by decide +kernel
theorem dL_law_709 : decode cL_law 709 = .ok (.iconst 0, 1) := by decide +kernel
theorem dL_law_710 : decode cL_law 710 = .ok (.iconst 0, 1) := by decide +kernel
theorem dL_law_711 : decode cL_law 711 = .ok (.invokestatic 265, 3) := by decide +kernel
theorem dL_law_714 : decode cL_law 714 = .ok (.sipush (-1001), 3) := by decide +kernel
theorem dL_law_717 : decode cL_law 717 = .ok (.if_icmp .ne 226, 3) := by decide +kernel
theorem dL_law_720 : decode cL_law 720 = .ok (.aload_n 1, 1) := by decide +kernel
theorem dL_law_721 : decode cL_law 721 = .ok (.iconst 1, 1) := by decide +kernel
theorem dL_law_722 : decode cL_law 722 = .ok (.iconst (-1), 1) := by decide +kernel
theorem dL_law_723 : decode cL_law 723 = .ok (.iconst 0, 1) := by decide +kernel
theorem dL_law_724 : decode cL_law 724 = .ok (.iconst 0, 1) := by decide +kernel
theorem dL_law_725 : decode cL_law 725 = .ok (.invokestatic 265, 3) := by decide +kernel
theorem dL_law_728 : decode cL_law 728 = .ok (.sipush (-1001), 3) := by decide +kernel
theorem dL_law_731 : decode cL_law 731 = .ok (.if_icmp .ne 212, 3) := by decide +kernel
theorem dL_law_734 : decode cL_law 734 = .ok (.aload_n 1, 1) := by decide +kernel
theorem dL_law_735 : decode cL_law 735 = .ok (.iconst 3, 1) := by decide +kernel
theorem dL_law_736 : decode cL_law 736 = .ok (.iload 6, 2) := by decide +kernel
theorem dL_law_738 : decode cL_law 738 = .ok (.iconst 0, 1) := by decide +kernel
theorem dL_law_739 : decode cL_law 739 = .ok (.iconst 0, 1) := by decide +kernel
theorem dL_law_740 : decode cL_law 740 = .ok (.invokestatic 265, 3) := by decide +kernel
theorem dL_law_743 : decode cL_law 743 = .ok (.sipush (-1001), 3) := by decide +kernel
theorem dL_law_746 : decode cL_law 746 = .ok (.if_icmp .ne 197, 3) := by decide +kernel
theorem dL_law_749 : decode cL_law 749 = .ok (.aload_n 1, 1) := by decide +kernel
theorem dL_law_750 : decode cL_law 750 = .ok (.iconst 4, 1) := by decide +kernel
theorem dL_law_751 : decode cL_law 751 = .ok (.iload 6, 2) := by decide +kernel
theorem dL_law_753 : decode cL_law 753 = .ok (.iconst (-1), 1) := by decide +kernel
theorem dL_law_754 : decode cL_law 754 = .ok (.iconst 0, 1) := by decide +kernel
theorem dL_law_755 : decode cL_law 755 = .ok (.invokestatic 265, 3) := by decide +kernel
theorem dL_law_758 : decode cL_law 758 = .ok (.sipush (-1001), 3) := by decide +kernel
theorem dL_law_761 : decode cL_law 761 = .ok (.if_icmp .ne 182, 3) := by decide +kernel
theorem dL_law_764 : decode cL_law 764 = .ok (.aload_n 1, 1) := by decide +kernel
theorem dL_law_765 : decode cL_law 765 = .ok (.iconst 5, 1) := by decide +kernel
theorem dL_law_766 : decode cL_law 766 = .ok (.iconst (-1), 1) := by decide +kernel
theorem dL_law_767 : decode cL_law 767 = .ok (.iconst 0, 1) := by decide +kernel
theorem dL_law_768 : decode cL_law 768 = .ok (.iconst 0, 1) := by decide +kernel
theorem dL_law_769 : decode cL_law 769 = .ok (.invokestatic 265, 3) := by decide +kernel
theorem dL_law_772 : decode cL_law 772 = .ok (.sipush (-1001), 3) := by decide +kernel
theorem dL_law_775 : decode cL_law 775 = .ok (.if_icmp .ne 168, 3) := by decide +kernel
theorem dL_law_778 : decode cL_law 778 = .ok (.aload_n 1, 1) := by decide +kernel
theorem dL_law_779 : decode cL_law 779 = .ok (.bipush 6, 2) := by decide +kernel
theorem dL_law_781 : decode cL_law 781 = .ok (.iload 6, 2) := by decide +kernel
theorem dL_law_783 : decode cL_law 783 = .ok (.iconst 0, 1) := by decide +kernel
theorem dL_law_784 : decode cL_law 784 = .ok (.iconst 0, 1) := by decide +kernel
theorem dL_law_785 : decode cL_law 785 = .ok (.invokestatic 265, 3) := by decide +kernel
theorem dL_law_788 : decode cL_law 788 = .ok (.sipush (-1001), 3) := by decide +kernel
theorem dL_law_791 : decode cL_law 791 = .ok (.if_icmp .ne 152, 3) := by decide +kernel
theorem dL_law_794 : decode cL_law 794 = .ok (.aload_n 1, 1) := by decide +kernel
theorem dL_law_795 : decode cL_law 795 = .ok (.bipush 7, 2) := by decide +kernel
theorem dL_law_797 : decode cL_law 797 = .ok (.iload 6, 2) := by decide +kernel
theorem dL_law_799 : decode cL_law 799 = .ok (.iconst 0, 1) := by decide +kernel
theorem dL_law_800 : decode cL_law 800 = .ok (.iconst 0, 1) := by decide +kernel
theorem dL_law_801 : decode cL_law 801 = .ok (.invokestatic 265, 3) := by decide +kernel
theorem dL_law_804 : decode cL_law 804 = .ok (.sipush (-1001), 3) := by decide +kernel
theorem dL_law_807 : decode cL_law 807 = .ok (.if_icmp .ne 136, 3) := by decide +kernel
theorem dL_law_810 : decode cL_law 810 = .ok (.aload_n 1, 1) := by decide +kernel
theorem dL_law_811 : decode cL_law 811 = .ok (.bipush 8, 2) := by decide +kernel
theorem dL_law_813 : decode cL_law 813 = .ok (.iload 7, 2) := by decide +kernel
theorem dL_law_815 : decode cL_law 815 = .ok (.iconst 0, 1) := by decide +kernel
theorem dL_law_816 : decode cL_law 816 = .ok (.iconst 0, 1) := by decide +kernel
theorem dL_law_817 : decode cL_law 817 = .ok (.invokestatic 265, 3) := by decide +kernel
theorem dL_law_820 : decode cL_law 820 = .ok (.sipush (-1001), 3) := by decide +kernel
theorem dL_law_823 : decode cL_law 823 = .ok (.if_icmp .ne 120, 3) := by decide +kernel
theorem dL_law_826 : decode cL_law 826 = .ok (.aload_n 1, 1) := by decide +kernel
theorem dL_law_827 : decode cL_law 827 = .ok (.bipush 9, 2) := by decide +kernel
theorem dL_law_829 : decode cL_law 829 = .ok (.iload 6, 2) := by decide +kernel
theorem dL_law_831 : decode cL_law 831 = .ok (.iconst 0, 1) := by decide +kernel
theorem dL_law_832 : decode cL_law 832 = .ok (.iconst 0, 1) := by decide +kernel
theorem dL_law_833 : decode cL_law 833 = .ok (.invokestatic 265, 3) := by decide +kernel
theorem dL_law_836 : decode cL_law 836 = .ok (.sipush (-1001), 3) := by decide +kernel
theorem dL_law_839 : decode cL_law 839 = .ok (.if_icmp .ne 104, 3) := by decide +kernel
theorem dL_law_842 : decode cL_law 842 = .ok (.aload_n 1, 1) := by decide +kernel
theorem dL_law_843 : decode cL_law 843 = .ok (.bipush 10, 2) := by decide +kernel
theorem dL_law_845 : decode cL_law 845 = .ok (.iconst (-1), 1) := by decide +kernel
theorem dL_law_846 : decode cL_law 846 = .ok (.iconst 0, 1) := by decide +kernel
theorem dL_law_847 : decode cL_law 847 = .ok (.iconst 0, 1) := by decide +kernel
theorem dL_law_848 : decode cL_law 848 = .ok (.invokestatic 265, 3) := by decide +kernel
theorem dL_law_851 : decode cL_law 851 = .ok (.sipush (-1001), 3) := by decide +kernel
theorem dL_law_854 : decode cL_law 854 = .ok (.if_icmp .ne 89, 3) := by decide +kernel
theorem dL_law_857 : decode cL_law 857 = .ok (.aload_n 1, 1) := by decide +kernel
theorem dL_law_858 : decode cL_law 858 = .ok (.bipush 11, 2) := by decide +kernel
theorem dL_law_860 : decode cL_law 860 = .ok (.iload 6, 2) := by decide +kernel
theorem dL_law_862 : decode cL_law 862 = .ok (.iconst 0, 1) := by decide +kernel
theorem dL_law_863 : decode cL_law 863 = .ok (.iconst 0, 1) := by decide +kernel
theorem dL_law_864 : decode cL_law 864 = .ok (.invokestatic 265, 3) := by decide +kernel
theorem dL_law_867 : decode cL_law 867 = .ok (.sipush (-1001), 3) := by decide +kernel
theorem dL_law_870 : decode cL_law 870 = .ok (.if_icmp .ne 73, 3) := by decide +kernel
theorem dL_law_873 : decode cL_law 873 = .ok (.aload_n 1, 1) := by decide +kernel
theorem dL_law_874 : decode cL_law 874 = .ok (.bipush 12, 2) := by decide +kernel
theorem dL_law_876 : decode cL_law 876 = .ok (.iload 6, 2) := by decide +kernel
theorem dL_law_878 : decode cL_law 878 = .ok (.iconst 0, 1) := by decide +kernel
theorem dL_law_879 : decode cL_law 879 = .ok (.iconst 0, 1) := by decide +kernel
theorem dL_law_880 : decode cL_law 880 = .ok (.invokestatic 265, 3) := by decide +kernel
theorem dL_law_883 : decode cL_law 883 = .ok (.sipush (-1001), 3) := by decide +kernel
theorem dL_law_886 : decode cL_law 886 = .ok (.if_icmp .ne 57, 3) := by decide +kernel
theorem dL_law_889 : decode cL_law 889 = .ok (.aload_n 1, 1) := by decide +kernel
theorem dL_law_890 : decode cL_law 890 = .ok (.bipush 13, 2) := by decide +kernel
theorem dL_law_892 : decode cL_law 892 = .ok (.iload 6, 2) := by decide +kernel
theorem dL_law_894 : decode cL_law 894 = .ok (.iconst 0, 1) := by decide +kernel
theorem dL_law_895 : decode cL_law 895 = .ok (.iconst 0, 1) := by decide +kernel
theorem dL_law_896 : decode cL_law 896 = .ok (.invokestatic 265, 3) := by decide +kernel
theorem dL_law_899 : decode cL_law 899 = .ok (.sipush (-1001), 3) := by decide +kernel
theorem dL_law_902 : decode cL_law 902 = .ok (.if_icmp .ne 41, 3) := by decide +kernel
theorem dL_law_905 : decode cL_law 905 = .ok (.aload_n 1, 1) := by decide +kernel
theorem dL_law_906 : decode cL_law 906 = .ok (.bipush 15, 2) := by decide +kernel
theorem dL_law_908 : decode cL_law 908 = .ok (.aload_n 1, 1) := by decide +kernel
theorem dL_law_909 : decode cL_law 909 = .ok (.invokevirtual 171, 3) := by decide +kernel
theorem dL_law_912 : decode cL_law 912 = .ok (.iconst 0, 1) := by decide +kernel
theorem dL_law_913 : decode cL_law 913 = .ok (.iconst 0, 1) := by decide +kernel
theorem dL_law_914 : decode cL_law 914 = .ok (.invokestatic 265, 3) := by decide +kernel
theorem dL_law_917 : decode cL_law 917 = .ok (.sipush (-1001), 3) := by decide +kernel
theorem dL_law_920 : decode cL_law 920 = .ok (.if_icmp .ne 23, 3) := by decide +kernel
theorem dL_law_923 : decode cL_law 923 = .ok (.iload 6, 2) := by decide +kernel
theorem dL_law_925 : decode cL_law 925 = .ok (.ifCond .ne 20, 3) := by decide +kernel
theorem dL_law_928 : decode cL_law 928 = .ok (.aload_n 1, 1) := by decide +kernel
theorem dL_law_929 : decode cL_law 929 = .ok (.bipush 14, 2) := by decide +kernel
theorem dL_law_931 : decode cL_law 931 = .ok (.iconst 0, 1) := by decide +kernel
theorem dL_law_932 : decode cL_law 932 = .ok (.iconst 0, 1) := by decide +kernel
theorem dL_law_933 : decode cL_law 933 = .ok (.iconst 0, 1) := by decide +kernel
theorem dL_law_934 : decode cL_law 934 = .ok (.invokestatic 265, 3) := by decide +kernel
theorem dL_law_937 : decode cL_law 937 = .ok (.sipush (-1002), 3) := by decide +kernel
theorem dL_law_940 : decode cL_law 940 = .ok (.if_icmp .eq 5, 3) := by decide +kernel
theorem dL_law_943 : decode cL_law 943 = .ok (.iconst 0, 1) := by decide +kernel
theorem dL_law_944 : decode cL_law 944 = .ok (.ireturn, 1) := by decide +kernel
theorem dL_law_945 : decode cL_law 945 = .ok (.aload_n 1, 1) := by decide +kernel
theorem dL_law_946 : decode cL_law 946 = .ok (.iload 6, 2) := by decide +kernel
theorem dL_law_948 : decode cL_law 948 = .ok (.iconst 0, 1) := by decide +kernel
theorem dL_law_949 : decode cL_law 949 = .ok (.invokestatic 190, 3) := by decide +kernel
theorem dL_law_952 : decode cL_law 952 = .ok (.sipush (-1001), 3) := by decide +kernel
theorem dL_law_955 : decode cL_law 955 = .ok (.if_icmp .ne 53, 3) := by decide +kernel
theorem dL_law_958 : decode cL_law 958 = .ok (.aload_n 1, 1) := by decide +kernel
theorem dL_law_959 : decode cL_law 959 = .ok (.iconst (-1), 1) := by decide +kernel
theorem dL_law_960 : decode cL_law 960 = .ok (.iconst 4, 1) := by decide +kernel
theorem dL_law_961 : decode cL_law 961 = .ok (.invokestatic 190, 3) := by decide +kernel
theorem dL_law_964 : decode cL_law 964 = .ok (.sipush (-1001), 3) := by decide +kernel
theorem dL_law_967 : decode cL_law 967 = .ok (.if_icmp .ne 41, 3) := by decide +kernel
theorem dL_law_970 : decode cL_law 970 = .ok (.aload_n 1, 1) := by decide +kernel
theorem dL_law_971 : decode cL_law 971 = .ok (.iload 7, 2) := by decide +kernel
theorem dL_law_973 : decode cL_law 973 = .ok (.iconst 1, 1) := by decide +kernel
theorem dL_law_974 : decode cL_law 974 = .ok (.invokestatic 195, 3) := by decide +kernel
theorem dL_law_977 : decode cL_law 977 = .ok (.sipush (-1001), 3) := by decide +kernel
theorem dL_law_980 : decode cL_law 980 = .ok (.if_icmp .ne 28, 3) := by decide +kernel
theorem dL_law_983 : decode cL_law 983 = .ok (.aload_n 1, 1) := by decide +kernel
theorem dL_law_984 : decode cL_law 984 = .ok (.iconst (-1), 1) := by decide +kernel
theorem dL_law_985 : decode cL_law 985 = .ok (.iconst 0, 1) := by decide +kernel
theorem dL_law_986 : decode cL_law 986 = .ok (.invokestatic 195, 3) := by decide +kernel
theorem dL_law_989 : decode cL_law 989 = .ok (.sipush (-1001), 3) := by decide +kernel
theorem dL_law_992 : decode cL_law 992 = .ok (.if_icmp .ne 16, 3) := by decide +kernel
theorem dL_law_995 : decode cL_law 995 = .ok (.aload_n 1, 1) := by decide +kernel
theorem dL_law_996 : decode cL_law 996 = .ok (.invokestatic 236, 3) := by decide +kernel
theorem dL_law_999 : decode cL_law 999 = .ok (.lload_n 3, 1) := by decide +kernel
theorem dL_law_1000 : decode cL_law 1000 = .ok (.lcmp, 1) := by decide +kernel
theorem dL_law_1001 : decode cL_law 1001 = .ok (.ifCond .ne 7, 3) := by decide +kernel
theorem dL_law_1004 : decode cL_law 1004 = .ok (.iconst 1, 1) := by decide +kernel
theorem dL_law_1005 : decode cL_law 1005 = .ok (.goto 4, 3) := by decide +kernel
theorem dL_law_1008 : decode cL_law 1008 = .ok (.iconst 0, 1) := by decide +kernel
theorem dL_law_1009 : decode cL_law 1009 = .ok (.ireturn, 1) := by decide +kernel
